/-! cuts: the fewest doors that bar a room -/
theorem pcf_ss : ∀ n a b, a < 2 ^ n → b < 2 ^ n → (∀ i, a.testBit i = true → b.testBit i = true) → pcf n a ≤ pcf n b ∧ (pcf n a = pcf n b → a = b)
  | 0, a, b, ha, hb, _ => by
    simp at ha hb
    subst ha; subst hb
    exact ⟨Nat.le_refl _, fun _ => rfl⟩
  | n + 1, a, b, ha, hb, h => by
    rw [Nat.pow_succ] at ha hb
    have ih := pcf_ss n (a / 2) (b / 2) (by omega) (by omega) (fun i hi => by
      rw [← Nat.testBit_succ] at hi ⊢; exact h _ hi)
    have h0 := h 0
    rw [Nat.testBit_zero, Nat.testBit_zero, decide_eq_true_eq, decide_eq_true_eq] at h0
    rw [pcf, pcf]
    refine ⟨by omega, fun e => ?_⟩
    have := ih.2 (by omega)
    omega
theorem pcf_bd : ∀ n r x, r ≤ n → x < 2 ^ r → pcf n x ≤ r
  | 0, r, x, h, _ => by rw [pcf]; omega
  | n + 1, r, x, h, hx => by
    cases r with
    | zero =>
      have : x = 0 := by simpa using hx
      subst this; rw [pcf_z]; omega
    | succ r =>
      rw [Nat.pow_succ] at hx
      have := pcf_bd n r (x / 2) (by omega) (by omega)
      rw [pcf]; omega
def leS (b c : Nat) : Prop := pcf 12 b < pcf 12 c ∨ (pcf 12 b = pcf 12 c ∧ b ≤ c)
theorem leS_rf {b : Nat} : leS b b := Or.inr ⟨rfl, Nat.le_refl _⟩
theorem leS_tr {a b c : Nat} (h : leS a b) (h' : leS b c) : leS a c := by unfold leS at *; omega
theorem leS_an {a b : Nat} (h : leS a b) (h' : leS b a) : a = b := by unfold leS at *; omega
theorem crp_in {C : Nat → Bool} {b : Nat} : ∀ {k}, crp C k = some b → C b = true
  | 0, h => by simp [crp] at h
  | k + 1, h => by
    rw [crp] at h
    cases e : crp C k with
    | none =>
      rw [e] at h
      dsimp only at h
      split at h
      · next q => injection h with h; subst h; exact q
      · exact absurd h (by simp)
    | some z =>
      rw [e] at h
      dsimp only at h
      split at h
      · next q => injection h with h; subst h; exact q.2
      · injection h with h; subst h; exact crp_in e
theorem crp_min {C : Nat → Bool} {s : Nat} (hs : C s = true) : ∀ {k}, s < k → ∃ b, crp C k = some b ∧ leS b s
  | 0, h => absurd h (Nat.not_lt_zero _)
  | k + 1, h => by
    rw [crp]
    by_cases q : s = k
    · subst q
      cases e : crp C s with
      | none => exact ⟨s, by simp [hs], leS_rf⟩
      | some z =>
        have := crp_lt e
        by_cases w : pcf 12 s < pcf 12 z
        · exact ⟨s, by simp [hs, w], leS_rf⟩
        · refine ⟨z, by simp [w], ?_⟩
          unfold leS; omega
    · obtain ⟨b, b1, b2⟩ := crp_min hs (k := k) (by omega)
      rw [b1]
      dsimp only
      split
      · next w => exact ⟨k, rfl, leS_tr (Or.inl w.1) b2⟩
      · exact ⟨b, rfl, b2⟩
def brc (D : Nat → Option Nat) : Nat → Option Nat
  | 0 => none
  | k + 1 => match D k with
    | none => brc D k
    | some c => match brc D k with
      | none => some c
      | some b => if pcf 12 c < pcf 12 b ∨ (pcf 12 c = pcf 12 b ∧ c < b) then some c else some b
theorem brc_in {D : Nat → Option Nat} {b : Nat} : ∀ {k}, brc D k = some b → ∃ s, s < k ∧ D s = some b
  | 0, h => by simp [brc] at h
  | k + 1, h => by
    rw [brc] at h
    cases e : D k with
    | none =>
      rw [e] at h
      obtain ⟨s, s1, s2⟩ := brc_in h
      exact ⟨s, by omega, s2⟩
    | some c =>
      rw [e] at h
      dsimp only at h
      cases e2 : brc D k with
      | none =>
        rw [e2] at h
        injection h with h; subst h
        exact ⟨k, by omega, e⟩
      | some z =>
        rw [e2] at h
        dsimp only at h
        split at h
        · injection h with h; subst h; exact ⟨k, by omega, e⟩
        · injection h with h; subst h
          obtain ⟨s, s1, s2⟩ := brc_in e2
          exact ⟨s, by omega, s2⟩
theorem brc_min {D : Nat → Option Nat} {s c : Nat} (hs : D s = some c) : ∀ {k}, s < k → ∃ b, brc D k = some b ∧ leS b c
  | 0, h => absurd h (Nat.not_lt_zero _)
  | k + 1, h => by
    rw [brc]
    by_cases q : s = k
    · subst q
      rw [hs]
      dsimp only
      cases e : brc D s with
      | none => exact ⟨c, rfl, leS_rf⟩
      | some z =>
        dsimp only
        split
        · exact ⟨c, rfl, leS_rf⟩
        · next w => refine ⟨z, rfl, ?_⟩; unfold leS; omega
    · obtain ⟨b, b1, b2⟩ := brc_min hs (k := k) (by omega)
      rw [b1]
      cases e : D k with
      | none => exact ⟨b, rfl, b2⟩
      | some z =>
        dsimp only
        split
        · next w => refine ⟨z, rfl, leS_tr ?_ b2⟩; unfold leS; omega
        · exact ⟨b, rfl, b2⟩
/-- if cuts do it, and each set that does it holds a cut, the least are one -/
theorem brc_crp {D : Nat → Option Nat} {C : Nat → Bool} {K L : Nat} (hL : L ≤ 12) (h1 : ∀ s c, s < K → D s = some c → c < 2 ^ L ∧ C c = true) (h2 : ∀ s, s < 2 ^ L → C s = true → ∃ k c, k < K ∧ D k = some c ∧ ∀ i, c.testBit i = true → s.testBit i = true) : brc D K = crp C (2 ^ L) := by
  have h12 : 2 ^ L ≤ 2 ^ 12 := Nat.pow_le_pow_right (by decide) hL
  cases e : crp C (2 ^ L) with
  | none =>
    cases e2 : brc D K with
    | none => rfl
    | some b =>
      obtain ⟨s, s1, s2⟩ := brc_in e2
      obtain ⟨c1, c2⟩ := h1 s b s1 s2
      obtain ⟨z, z1, -⟩ := crp_min c2 c1
      rw [e] at z1; exact absurd z1 (by simp)
  | some m =>
    have m1 := crp_lt e
    obtain ⟨k, c, k1, k2, k3⟩ := h2 m m1 (crp_in e)
    obtain ⟨b, b1, b2⟩ := brc_min k2 k1
    rw [b1]
    obtain ⟨c1, c2⟩ := h1 k c k1 k2
    have p := pcf_ss 12 c m (by omega) (by omega) k3
    have lc : leS c m := by
      unfold leS
      by_cases q : pcf 12 c = pcf 12 m
      · have := p.2 q; omega
      · omega
    obtain ⟨s, s1, s2⟩ := brc_in b1
    obtain ⟨d1, d2⟩ := h1 s b s1 s2
    obtain ⟨z, z1, z2⟩ := crp_min d2 d1
    rw [e] at z1
    injection z1 with z1
    subst z1
    rw [leS_an (leS_tr b2 lc) z2]
/-! what is reached -/
def okd (n : Nat → Nat) (s d : Nat) : Bool := !(n 6).testBit d && !s.testBit d
def rs1 (P : Pal) (n : Nat → Nat) (s R d : Nat) : Nat := if okd n s d && R.testBit (dfr P d) && !(n 5).testBit (dto P d) then R ||| 2 ^ dto P d else R
def rs2 (P : Pal) (n : Nat → Nat) (s R d : Nat) : Nat := if okd n s d && (rs1 P n s R d).testBit (dto P d) && !(n 5).testBit (dfr P d) then rs1 P n s R d ||| 2 ^ dfr P d else rs1 P n s R d
def rsd (P : Pal) (n : Nat → Nat) (s R : Nat) : Nat → Nat
  | 0 => R
  | k + 1 => rs2 P n s (rsd P n s R k) k
def rsk (P : Pal) (n : Nat → Nat) (s : Nat) : Nat → Nat
  | 0 => 2 ^ n 2
  | k + 1 => rsd P n s (rsk P n s k) (drs P)
theorem or_bit {R v i : Nat} : (R ||| 2 ^ v).testBit i = (R.testBit i || decide (v = i)) := by
  rw [Nat.testBit_or, Nat.testBit_two_pow]
theorem rs1_sup {P : Pal} {n : Nat → Nat} {s R d i : Nat} (h : R.testBit i = true) : (rs1 P n s R d).testBit i = true := by
  unfold rs1
  split
  · rw [or_bit, h]; rfl
  · exact h
theorem rs2_sup {P : Pal} {n : Nat → Nat} {s R d i : Nat} (h : R.testBit i = true) : (rs2 P n s R d).testBit i = true := by
  unfold rs2
  split
  · rw [or_bit, rs1_sup h]; rfl
  · exact rs1_sup h
theorem rs2_cl {P : Pal} {n : Nat → Nat} {s R d : Nat} (ho : okd n s d = true) : (R.testBit (dfr P d) = true → (n 5).testBit (dto P d) = false → (rs2 P n s R d).testBit (dto P d) = true) ∧ (R.testBit (dto P d) = true → (n 5).testBit (dfr P d) = false → (rs2 P n s R d).testBit (dfr P d) = true) := by
  refine ⟨fun h1 h2 => ?_, fun h1 h2 => ?_⟩
  · have : (rs1 P n s R d).testBit (dto P d) = true := by
      unfold rs1
      rw [if_pos (by simp [ho, h1, h2]), or_bit]; simp
    unfold rs2
    split
    · rw [or_bit, this]; rfl
    · exact this
  · have := rs1_sup (P := P) (n := n) (s := s) (d := d) h1
    unfold rs2
    rw [if_pos (by simp [ho, this, h2]), or_bit]; simp
theorem rsd_sup {P : Pal} {n : Nat → Nat} {s R i : Nat} (h : R.testBit i = true) : ∀ k, (rsd P n s R k).testBit i = true
  | 0 => h
  | k + 1 => rs2_sup (rsd_sup h k)
theorem rsd_mono {P : Pal} {n : Nat → Nat} {s R i j : Nat} (h : (rsd P n s R j).testBit i = true) : ∀ k, (rsd P n s R (j + k)).testBit i = true
  | 0 => h
  | k + 1 => rs2_sup (rsd_mono h k)
theorem rsd_cl {P : Pal} {n : Nat → Nat} {s R d k : Nat} (ho : okd n s d = true) (hd : d < k) : (R.testBit (dfr P d) = true → (n 5).testBit (dto P d) = false → (rsd P n s R k).testBit (dto P d) = true) ∧ (R.testBit (dto P d) = true → (n 5).testBit (dfr P d) = false → (rsd P n s R k).testBit (dfr P d) = true) := by
  have e : d + 1 + (k - (d + 1)) = k := by omega
  refine ⟨fun h1 h2 => ?_, fun h1 h2 => ?_⟩
  · have := rsd_mono (j := d + 1) ((rs2_cl (P := P) ho).1 (rsd_sup (P := P) (n := n) (s := s) h1 d) h2) (k - (d + 1))
    rwa [e] at this
  · have := rsd_mono (j := d + 1) ((rs2_cl (P := P) ho).2 (rsd_sup (P := P) (n := n) (s := s) h1 d) h2) (k - (d + 1))
    rwa [e] at this
/-- what a closed set of rooms keeps -/
def clG (P : Pal) (n : Nat → Nat) (s : Nat) (G : Nat → Bool) : Prop := ∀ d, d < drs P → okd n s d = true → (G (dfr P d) = true → (n 5).testBit (dto P d) = false → G (dto P d) = true) ∧ (G (dto P d) = true → (n 5).testBit (dfr P d) = false → G (dfr P d) = true)
theorem rs1_sub {P : Pal} {n : Nat → Nat} {s R d : Nat} {G : Nat → Bool} (hG : clG P n s G) (hd : d < drs P) (h : ∀ i, R.testBit i = true → G i = true) : ∀ i, (rs1 P n s R d).testBit i = true → G i = true := by
  intro i hi
  unfold rs1 at hi
  split at hi
  · next q =>
    simp only [Bool.and_eq_true, Bool.not_eq_true'] at q
    rw [or_bit] at hi
    rcases Bool.or_eq_true _ _ |>.mp hi with z | z
    · exact h i z
    · have := of_decide_eq_true z
      subst this
      exact (hG d hd q.1.1).1 (h _ q.1.2) q.2
  · exact h i hi
theorem rs2_sub {P : Pal} {n : Nat → Nat} {s R d : Nat} {G : Nat → Bool} (hG : clG P n s G) (hd : d < drs P) (h : ∀ i, R.testBit i = true → G i = true) : ∀ i, (rs2 P n s R d).testBit i = true → G i = true := by
  intro i hi
  unfold rs2 at hi
  split at hi
  · next q =>
    simp only [Bool.and_eq_true, Bool.not_eq_true'] at q
    rw [or_bit] at hi
    rcases Bool.or_eq_true _ _ |>.mp hi with z | z
    · exact rs1_sub hG hd h i z
    · have := of_decide_eq_true z
      subst this
      exact (hG d hd q.1.1).2 (rs1_sub hG hd h _ q.1.2) q.2
  · exact rs1_sub hG hd h i hi
theorem rsd_sub {P : Pal} {n : Nat → Nat} {s R : Nat} {G : Nat → Bool} (hG : clG P n s G) (h : ∀ i, R.testBit i = true → G i = true) : ∀ k, k ≤ drs P → ∀ i, (rsd P n s R k).testBit i = true → G i = true
  | 0, _ => h
  | k + 1, hk => rs2_sub hG (by omega) (rsd_sub hG h k (by omega))
theorem rsk_sub {P : Pal} {n : Nat → Nat} {s : Nat} {G : Nat → Bool} (hG : clG P n s G) (hw : G (n 2) = true) : ∀ k i, (rsk P n s k).testBit i = true → G i = true
  | 0, i, hi => by
    rw [rsk, Nat.testBit_two_pow] at hi
    have := of_decide_eq_true hi
    subst this; exact hw
  | k + 1, i, hi => rsd_sub hG (rsk_sub hG hw k) (drs P) (Nat.le_refl _) i hi
theorem rsk_at {P : Pal} {n : Nat → Nat} {s : Nat} : ∀ k, (rsk P n s k).testBit (n 2) = true
  | 0 => by rw [rsk, Nat.testBit_two_pow]; simp
  | k + 1 => rsd_sup (rsk_at k) _
theorem lt_bits {r x : Nat} (h : ∀ i, x.testBit i = true → i < r) : x < 2 ^ r := by
  apply Nat.lt_pow_two_of_testBit
  intro i hi
  cases q : x.testBit i with
  | false => rfl
  | true => have := h i q; omega
theorem rsk_lt {P : Pal} {n : Nat → Nat} {s : Nat} (hP : wfP P) (hw : n 2 < rms P) (k : Nat) : rsk P n s k < 2 ^ rms P := by
  apply lt_bits
  intro i hi
  have := rsk_sub (P := P) (n := n) (s := s) (G := fun i => decide (i < rms P)) (fun d hd _ => by
    obtain ⟨f1, f2, f3⟩ := hP.2.2.2.1 d hd
    simp [f1, f2]) (by simp [hw]) k i hi
  exact of_decide_eq_true this
/-- rounds settle -/
theorem rsk_set {P : Pal} {n : Nat → Nat} {s : Nat} (hP : wfP P) (hw : n 2 < rms P) : ∀ k, rsk P n s (k + 1) = rsk P n s k ∨ k + 2 ≤ pcf 8 (rsk P n s (k + 1))
  | 0 => by
    have hr8 := hP.1
    have h256 : 2 ^ rms P ≤ 2 ^ 8 := Nat.pow_le_pow_right (by decide) hr8
    have l0 := rsk_lt (s := s) hP hw 0
    have l1 := rsk_lt (s := s) hP hw 1
    have p := pcf_ss 8 (rsk P n s 0) (rsk P n s 1) (by omega) (by omega) (fun i hi => rsd_sup hi _)
    by_cases q : pcf 8 (rsk P n s 0) = pcf 8 (rsk P n s 1)
    · exact Or.inl (p.2 q).symm
    · right
      have : 0 < pcf 8 (rsk P n s 0) := by
        rcases Nat.eq_zero_or_pos (pcf 8 (rsk P n s 0)) with z | z
        · have := pcf_0 8 _ (by omega) z
          have h := rsk_at (P := P) (n := n) (s := s) 0
          rw [this] at h
          simp at h
        · exact z
      show 0 + 2 ≤ pcf 8 (rsk P n s 1)
      omega
  | k + 1 => by
    have hr8 := hP.1
    have h256 : 2 ^ rms P ≤ 2 ^ 8 := Nat.pow_le_pow_right (by decide) hr8
    rcases rsk_set hP hw (s := s) k with h | h
    · left
      show rsd P n s (rsk P n s (k + 1)) (drs P) = rsd P n s (rsk P n s k) (drs P)
      rw [h]
    · have l0 := rsk_lt (s := s) hP hw (k + 1)
      have l1 := rsk_lt (s := s) hP hw (k + 1 + 1)
      have p := pcf_ss 8 (rsk P n s (k + 1)) (rsk P n s (k + 1 + 1)) (by omega) (by omega) (fun i hi => rsd_sup hi _)
      by_cases q : pcf 8 (rsk P n s (k + 1)) = pcf 8 (rsk P n s (k + 1 + 1))
      · exact Or.inl (p.2 q).symm
      · right; omega
theorem rsk_cl {P : Pal} {n : Nat → Nat} {s : Nat} (hP : wfP P) (hw : n 2 < rms P) : clG P n s (fun i => (rsk P n s (rms P)).testBit i) := by
  have e : rsk P n s (rms P + 1) = rsk P n s (rms P) := by
    rcases rsk_set hP hw (s := s) (rms P) with h | h
    · exact h
    · have := pcf_bd 8 (rms P) _ hP.1 (rsk_lt (s := s) hP hw (rms P + 1))
      omega
  intro d hd ho
  have := rsd_cl (P := P) (n := n) (s := s) (R := rsk P n s (rms P)) (d := d) (k := drs P) ho hd
  have e' : rsd P n s (rsk P n s (rms P)) (drs P) = rsk P n s (rms P) := e
  rw [e'] at this
  exact this
/-! sides -/
def shu (n : Nat → Nat) (i : Nat) : Bool := (n 5).testBit i && !decide (i = n 2)
def psb (P : Pal) (n : Nat → Nat) (d : Nat) : Bool := !(n 6).testBit d && !shu n (dfr P d) && !shu n (dto P d)
def btn (P : Pal) (sd d : Nat) : Bool := sd.testBit (dfr P d) != sd.testBit (dto P d)
def cut (P : Pal) (n : Nat → Nat) (sd : Nat) : Nat := sto (btn P sd) (drs P) &&& sto (psb P n) (drs P)
def sdD (P : Pal) (n : Nat → Nat) (a sd : Nat) : Option Nat := if sd.testBit (n 2) = true ∧ sd.testBit a = false then some (cut P n sd) else none
def brF (P : Pal) (n : Nat → Nat) (a s : Nat) : Bool := decide (s &&& n 6 = 0) && !(rsk P n s (rms P)).testBit a
theorem cut_bit {P : Pal} {n : Nat → Nat} {sd d : Nat} : (cut P n sd).testBit d = (decide (d < drs P) && btn P sd d && psb P n d) := by
  unfold cut
  rw [Nat.testBit_and, sto_bit, sto_bit]
  cases decide (d < drs P) <;> simp
theorem bricks_eq {P : Pal} {n : Nat → Nat} (hP : wfP P) (hw : n 2 < rms P) {a : Nat} : brc (sdD P n a) (2 ^ rms P) = crp (brF P n a) (2 ^ drs P) := by
  refine brc_crp hP.2.1 (fun sd c hs hc => ?_) (fun s hs hF => ?_)
  · unfold sdD at hc
    split at hc
    · next q =>
      injection hc with hc
      subst hc
      refine ⟨Nat.lt_of_le_of_lt Nat.and_le_left (sto_lt _ _), ?_⟩
      unfold brF
      have h1 : cut P n sd &&& n 6 = 0 := by
        apply Nat.eq_of_testBit_eq
        intro i
        rw [Nat.testBit_and, cut_bit, Nat.zero_testBit]
        unfold psb
        cases (n 6).testBit i <;> simp
      have h2 : (rsk P n (cut P n sd) (rms P)).testBit a = false := by
        cases z : (rsk P n (cut P n sd) (rms P)).testBit a with
        | false => rfl
        | true =>
          have := rsk_sub (P := P) (n := n) (s := cut P n sd) (G := fun i => sd.testBit i && (decide (i = n 2) || !(n 5).testBit i)) ?_ ?_ (rms P) a z
          · simp only [Bool.and_eq_true] at this
            rw [q.2] at this
            exact absurd this.1 (by simp)
          · intro d hd ho
            unfold okd at ho
            simp only [Bool.and_eq_true, Bool.not_eq_true'] at ho
            have hc := ho.2
            rw [cut_bit] at hc
            unfold btn psb shu at hc
            rw [ho.1] at hc
            refine ⟨fun g1 g2 => ?_, fun g1 g2 => ?_⟩
            · simp only [Bool.and_eq_true, Bool.or_eq_true, decide_eq_true_eq, Bool.not_eq_true'] at g1
              rw [g1.1, g2] at hc
              rcases g1.2 with g3 | g3
              · simp [hd, g3] at hc
                simp [hc, g2]
              · rw [g3] at hc
                simp [hd] at hc
                simp [hc, g2]
            · simp only [Bool.and_eq_true, Bool.or_eq_true, decide_eq_true_eq, Bool.not_eq_true'] at g1
              rw [g1.1, g2] at hc
              rcases g1.2 with g3 | g3
              · simp [hd, g3] at hc
                simp [hc, g2]
              · rw [g3] at hc
                simp [hd] at hc
                simp [hc, g2]
          · simp [q.1]
      simp [h1, h2]
    · exact absurd hc (by simp)
  · unfold brF at hF
    simp only [Bool.and_eq_true, decide_eq_true_eq, Bool.not_eq_true'] at hF
    refine ⟨rsk P n s (rms P), cut P n (rsk P n s (rms P)), rsk_lt hP hw _, ?_, ?_⟩
    · unfold sdD
      rw [if_pos ⟨rsk_at _, hF.2⟩]
    · intro d hd
      rw [cut_bit] at hd
      simp only [Bool.and_eq_true, decide_eq_true_eq] at hd
      obtain ⟨⟨d1, d2⟩, d3⟩ := hd
      unfold psb at d3
      simp only [Bool.and_eq_true, Bool.not_eq_true'] at d3
      obtain ⟨⟨p1, p2⟩, p3⟩ := d3
      cases z : s.testBit d with
      | true => rfl
      | false =>
        have ho : okd n s d = true := by simp [okd, z, p1]
        have cl := rsk_cl (s := s) hP hw d d1 ho
        have ha := rsk_at (P := P) (n := n) (s := s) (rms P)
        unfold btn at d2
        cases u : (rsk P n s (rms P)).testBit (dfr P d) with
        | true =>
          cases v : (rsk P n s (rms P)).testBit (dto P d) with
          | true => rw [u, v] at d2; exact absurd d2 (by simp)
          | false =>
            have : (n 5).testBit (dto P d) = false := by
              unfold shu at p3
              cases w : (n 5).testBit (dto P d) with
              | false => rfl
              | true =>
                rw [w] at p3
                simp at p3
                rw [p3, ha] at v
                exact absurd v (by simp)
            have := cl.1 u this
            exact absurd (v.symm.trans this) (by simp)
        | false =>
          cases v : (rsk P n s (rms P)).testBit (dto P d) with
          | false => rw [u, v] at d2; exact absurd d2 (by simp)
          | true =>
            have : (n 5).testBit (dfr P d) = false := by
              unfold shu at p2
              cases w : (n 5).testBit (dfr P d) with
              | false => rfl
              | true =>
                rw [w] at p2
                simp at p2
                rw [p2, ha] at u
                exact absurd u (by simp)
            have := cl.2 v this
            exact absurd (u.symm.trans this) (by simp)
