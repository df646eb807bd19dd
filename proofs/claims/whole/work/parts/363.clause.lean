/-! clauses: what is read, by numbers -/
abbrev Dft : Type := Option Nat × Pal × (Nat → Nat) × Nat × (Nat → Nat)
def dRule (D : Dft) (v : Nat) : Dft := (some v, D.2)
def dRoom (D : Dft) (v c : Nat) : Dft := (D.1, ((rms D.2.1 + 1, drs D.2.1, pts D.2.1), dfr D.2.1, dto D.2.1, wor D.2.1), va_up D.2.2.1 (rms D.2.1) v, setb D.2.2.2.1 (rms D.2.1) (decide (c = 1)), D.2.2.2.2)
def dDoor (D : Dft) (a b : Nat) : Dft := (D.1, ((rms D.2.1, drs D.2.1 + 1, pts D.2.1), va_up (dfr D.2.1) (drs D.2.1) a, va_up (dto D.2.1) (drs D.2.1) b, wor D.2.1), D.2.2)
def dPet (D : Dft) (a w : Nat) : Dft := (D.1, ((rms D.2.1, drs D.2.1, pts D.2.1 + 1), dfr D.2.1, dto D.2.1, va_up (wor D.2.1) (pts D.2.1) w), D.2.2.1, D.2.2.2.1, va_up D.2.2.2.2 (pts D.2.1) a)
def hsD (P : Pal) (a b : Nat) : Bool := !alb (fun d => !isD P a b d) (drs P)
def sNum (tx : Nat → Nat) (tn : Nat) (r : Except (Nat × Nat) Nat) (lim : Nat) : Except (Nat × Nat) Nat := match r with
  | .error e => .error e
  | .ok q => match aNum tx tn q lim with
    | .error e => .error e
    | .ok x => .ok x.2
def nv (tx : Nat → Nat) (tn : Nat) (r : Except (Nat × Nat) Nat) (lim : Nat) : Nat := match r with
  | .error _ => 0
  | .ok q => match aNum tx tn q lim with
    | .error _ => 0
    | .ok x => x.1
def sEnd (tx : Nat → Nat) (tn : Nat) (r : Except (Nat × Nat) Nat) : Except (Nat × Nat) Nat := match r with
  | .error e => .error e
  | .ok q => aEnd tx tn q
def bpS (tx : Nat → Nat) (tn : Nat) (r : Except (Nat × Nat) Nat) : Nat := match r with
  | .error _ => 0
  | .ok q => skp tx tn q
def s0 (q : Nat) (full : Bool) : Except (Nat × Nat) Nat := if full then .error (3, q) else .ok (q + 1)
def sDr (P : Pal) (a b bp : Nat) (r : Except (Nat × Nat) Nat) : Except (Nat × Nat) Nat := match r with
  | .error e => .error e
  | .ok q => if a = b ∨ hsD P a b = true then .error (4, bp) else .ok q
def fin (r : Except (Nat × Nat) Nat) (D : Dft) : Except (Nat × Nat) (Nat × Dft) := match r with
  | .error e => .error e
  | .ok q => .ok (q, D)
def aRule (tx : Nat → Nat) (tn q : Nat) (D : Dft) : Except (Nat × Nat) (Nat × Dft) :=
  fin (sEnd tx tn (sNum tx tn (s0 q D.1.isSome) 64)) (dRule D (nv tx tn (s0 q D.1.isSome) 64))
def aRoom (tx : Nat → Nat) (tn q : Nat) (D : Dft) : Except (Nat × Nat) (Nat × Dft) :=
  fin (sEnd tx tn (sNum tx tn (sNum tx tn (s0 q (decide (8 ≤ rms D.2.1))) 10) 2)) (dRoom D (nv tx tn (s0 q (decide (8 ≤ rms D.2.1))) 10) (nv tx tn (sNum tx tn (s0 q (decide (8 ≤ rms D.2.1))) 10) 2))
def aPet (tx : Nat → Nat) (tn q : Nat) (D : Dft) : Except (Nat × Nat) (Nat × Dft) :=
  fin (sEnd tx tn (sNum tx tn (sNum tx tn (s0 q (decide (6 ≤ pts D.2.1))) (rms D.2.1)) 100)) (dPet D (nv tx tn (s0 q (decide (6 ≤ pts D.2.1))) (rms D.2.1)) (nv tx tn (sNum tx tn (s0 q (decide (6 ≤ pts D.2.1))) (rms D.2.1)) 100))
def aDoor (tx : Nat → Nat) (tn q : Nat) (D : Dft) : Except (Nat × Nat) (Nat × Dft) :=
  fin (sEnd tx tn (sDr D.2.1 (nv tx tn (s0 q (decide (12 ≤ drs D.2.1))) (rms D.2.1)) (nv tx tn (sNum tx tn (s0 q (decide (12 ≤ drs D.2.1))) (rms D.2.1)) (rms D.2.1)) (bpS tx tn (sNum tx tn (s0 q (decide (12 ≤ drs D.2.1))) (rms D.2.1))) (sNum tx tn (sNum tx tn (s0 q (decide (12 ≤ drs D.2.1))) (rms D.2.1)) (rms D.2.1)))) (dDoor D (nv tx tn (s0 q (decide (12 ≤ drs D.2.1))) (rms D.2.1)) (nv tx tn (sNum tx tn (s0 q (decide (12 ≤ drs D.2.1))) (rms D.2.1)) (rms D.2.1)))
def aCl (tx : Nat → Nat) (tn q : Nat) (D : Dft) : Except (Nat × Nat) (Nat × Dft) :=
  if tx q = 115 then aRule tx tn q D
  else if D.1.isSome = false then .error (1, q)
  else if tx q = 114 then aRoom tx tn q D
  else if tx q = 100 then aDoor tx tn q D
  else if tx q = 112 then aPet tx tn q D
  else .error (1, q)
/-- a status: where reading stands, or its fault -/
def gS (tn : Nat) (r : Except (Nat × Nat) Nat) : Prop := (∀ q, r = .ok q → q ≤ tn) ∧ ∀ e, r = .error e → 1 ≤ e.1 ∧ e.1 ≤ 4 ∧ e.2 ≤ tn
theorem gS_0 {tn q : Nat} {b : Bool} (h : q < tn) : gS tn (s0 q b) := by
  unfold s0
  cases b with
  | true => exact ⟨fun q' h' => absurd h' (by simp), fun e h' => by simp at h'; subst h'; exact ⟨by simp, by simp, by simp; omega⟩⟩
  | false => exact ⟨fun q' h' => by simp at h'; omega, fun e h' => absurd h' (by simp)⟩
theorem gS_n {tx : Nat → Nat} {tn lim : Nat} {r : Except (Nat × Nat) Nat} (h : gS tn r) : gS tn (sNum tx tn r lim) := by
  unfold sNum
  cases e : r with
  | error z => exact ⟨fun q h' => absurd h' (by simp), fun e' h' => by injection h' with h'; subst h'; exact h.2 _ e⟩
  | ok q =>
    have hq := h.1 q e
    dsimp only
    cases y : aNum tx tn q lim with
    | error z =>
      have := aNum_er y hq
      exact ⟨fun q h' => absurd h' (by simp), fun e' h' => by injection h' with h'; subst h'; exact ⟨this.1, this.2.1, this.2.2.1⟩⟩
    | ok x =>
      have := aNum_ok (v := x.1) (q' := x.2) y hq
      exact ⟨fun q h' => by injection h' with h'; omega, fun e' h' => absurd h' (by simp)⟩
theorem gS_e {tx : Nat → Nat} {tn : Nat} {r : Except (Nat × Nat) Nat} (h : gS tn r) : gS tn (sEnd tx tn r) := by
  unfold sEnd
  cases e : r with
  | error z => exact ⟨fun q h' => absurd h' (by simp), fun e' h' => by injection h' with h'; subst h'; exact h.2 _ e⟩
  | ok q =>
    have hq := h.1 q e
    dsimp only
    refine ⟨fun q' h' => (aEnd_ok h').2, fun e' h' => ?_⟩
    have := aEnd_er h' hq
    exact ⟨this.1, this.2.1, this.2.2.1⟩
theorem sNum_ok {tx : Nat → Nat} {tn lim q' : Nat} {r : Except (Nat × Nat) Nat} (h : sNum tx tn r lim = .ok q') (hg : gS tn r) : ∃ q, r = .ok q ∧ aNum tx tn q lim = .ok (nv tx tn r lim, q') ∧ nv tx tn r lim < lim ∧ q < q' := by
  unfold sNum at h
  unfold nv
  cases e : r with
  | error z => rw [e] at h; exact absurd h (by simp)
  | ok q =>
    rw [e] at h
    dsimp only at h
    dsimp only
    cases y : aNum tx tn q lim with
    | error z => rw [y] at h; exact absurd h (by simp)
    | ok x =>
      rw [y] at h
      injection h with h
      subst h
      have := aNum_ok (v := x.1) (q' := x.2) y (hg.1 q e)
      exact ⟨q, rfl, y, this.2.2, this.1⟩
theorem sEnd_ok {tx : Nat → Nat} {tn q' : Nat} {r : Except (Nat × Nat) Nat} (h : sEnd tx tn r = .ok q') : ∃ q, r = .ok q ∧ q < q' ∧ q' ≤ tn := by
  unfold sEnd at h
  cases e : r with
  | error z => rw [e] at h; exact absurd h (by simp)
  | ok q => rw [e] at h; exact ⟨q, rfl, aEnd_ok h⟩
theorem sDr_ok {P : Pal} {a b bp q' : Nat} {r : Except (Nat × Nat) Nat} (h : sDr P a b bp r = .ok q') : r = .ok q' ∧ a ≠ b ∧ hsD P a b = false := by
  unfold sDr at h
  cases e : r with
  | error z => rw [e] at h; exact absurd h (by simp)
  | ok q =>
    rw [e] at h
    dsimp only at h
    split at h
    · exact absurd h (by simp)
    · next w =>
      injection h with h
      subst h
      refine ⟨rfl, fun z => w (Or.inl z), ?_⟩
      cases y : hsD P a b with
      | false => rfl
      | true => exact absurd (Or.inr y) w
theorem gS_d {P : Pal} {tn a b bp : Nat} {r : Except (Nat × Nat) Nat} (h : gS tn r) (hb : bp ≤ tn) : gS tn (sDr P a b bp r) := by
  unfold sDr
  cases e : r with
  | error z => exact ⟨fun q h' => absurd h' (by simp), fun e' h' => by injection h' with h'; subst h'; exact h.2 _ e⟩
  | ok q =>
    dsimp only
    split
    · exact ⟨fun q h' => absurd h' (by simp), fun e' h' => by injection h' with h'; subst h'; exact ⟨by simp, by simp, hb⟩⟩
    · exact ⟨fun q' h' => by injection h' with h'; subst h'; exact h.1 _ e, fun e' h' => absurd h' (by simp)⟩
theorem s0_ok {q q' : Nat} {b : Bool} (h : s0 q b = .ok q') : b = false ∧ q' = q + 1 := by
  unfold s0 at h
  cases b with
  | true => exact absurd h (by simp)
  | false => simp at h; exact ⟨rfl, h.symm⟩
theorem fin_ok {r : Except (Nat × Nat) Nat} {D D' : Dft} {q' : Nat} (h : fin r D = .ok (q', D')) : r = .ok q' ∧ D = D' := by
  unfold fin at h
  cases e : r with
  | error z => rw [e] at h; exact absurd h (by simp)
  | ok q => rw [e] at h; injection h with h; injection h with h1 h2; exact ⟨by rw [h1], h2⟩
theorem fin_er {r : Except (Nat × Nat) Nat} {D : Dft} {e : Nat × Nat} (h : fin r D = .error e) : r = .error e := by
  unfold fin at h
  cases z : r with
  | error y => rw [z] at h; injection h with h; rw [h]
  | ok q => rw [z] at h; exact absurd h (by simp)
/-! what may stand in a draft -/
def wfD (D : Dft) : Prop := wfP D.2.1 ∧ (∀ a, D.2.2.1 a ≤ 9) ∧ (∀ a, rms D.2.1 ≤ a → D.2.2.1 a = 0) ∧ D.2.2.2.1 < 2 ^ rms D.2.1 ∧ (∀ i, i < pts D.2.1 → D.2.2.2.2 i < rms D.2.1) ∧ (D.1 = none → rms D.2.1 = 0) ∧ (∀ v, D.1 = some v → v < 64)
theorem dRule_wf {D : Dft} {v : Nat} (h : wfD D) (hv : v < 64) : wfD (dRule D v) := by
  obtain ⟨a1, a2, a3, a4, a5, a6, a7⟩ := h
  exact ⟨a1, a2, a3, a4, a5, fun z => absurd z (by simp [dRule]), fun x hx => by simp [dRule] at hx; omega⟩
theorem dRoom_wf {D : Dft} {v c : Nat} (h : wfD D) (hs : D.1.isSome = true) (hr : rms D.2.1 < 8) (hv : v < 10) : wfD (dRoom D v c) := by
  obtain ⟨⟨b1, b2, b3, b4, b5, b6⟩, a2, a3, a4, a5, a6, a7⟩ := h
  refine ⟨⟨?_, b2, b3, fun d hd => ?_, b5, b6⟩, fun a => ?_, fun a ha => ?_, ?_, fun i hi => ?_, fun z => ?_, a7⟩
  · show rms D.2.1 + 1 ≤ 8; omega
  · have := b4 d hd
    exact ⟨by show dfr D.2.1 d < rms D.2.1 + 1; omega, by show dto D.2.1 d < rms D.2.1 + 1; omega, this.2.2⟩
  · show va_up D.2.2.1 (rms D.2.1) v a ≤ 9
    rw [up_at]
    split
    · omega
    · exact a2 a
  · have ha' : rms D.2.1 + 1 ≤ a := ha
    show va_up D.2.2.1 (rms D.2.1) v a = 0
    rw [up_at, if_neg (by omega)]; exact a3 a (by omega)
  · show setb D.2.2.2.1 (rms D.2.1) (decide (c = 1)) < 2 ^ (rms D.2.1 + 1)
    exact setb_lt (Nat.lt_trans a4 (Nat.pow_lt_pow_right (by decide) (by omega))) (by omega)
  · have := a5 i hi
    show D.2.2.2.2 i < rms D.2.1 + 1
    omega
  · have z' : D.1 = none := z
    rw [z'] at hs; exact absurd hs (by simp)
theorem dDoor_wf {D : Dft} {a b : Nat} (h : wfD D) (hr : drs D.2.1 < 12) (ha : a < rms D.2.1) (hb : b < rms D.2.1) (hne : a ≠ b) (hn : hsD D.2.1 a b = false) : wfD (dDoor D a b) := by
  obtain ⟨⟨b1, b2, b3, b4, b5, b6⟩, a2, a3, a4, a5, a6, a7⟩ := h
  have hno : ∀ d, d < drs D.2.1 → isD D.2.1 a b d = false := by
    unfold hsD at hn
    have := (alb_iff (drs D.2.1)).mp (by simpa using hn)
    intro d hd
    have := this d hd
    simpa using this
  have e1 : dfr (dDoor D a b).2.1 = va_up (dfr D.2.1) (drs D.2.1) a := rfl
  have e2 : dto (dDoor D a b).2.1 = va_up (dto D.2.1) (drs D.2.1) b := rfl
  have e3 : drs (dDoor D a b).2.1 = drs D.2.1 + 1 := rfl
  have e4 : rms (dDoor D a b).2.1 = rms D.2.1 := rfl
  have iso : ∀ x y d, d < drs D.2.1 → isD (dDoor D a b).2.1 x y d = isD D.2.1 x y d := fun x y d hd => by
    unfold isD
    rw [e1, e2, up_at, up_at, if_neg (by omega), if_neg (by omega)]
  have isn : ∀ x y, isD (dDoor D a b).2.1 x y (drs D.2.1) = ((decide (a = x) && decide (b = y)) || (decide (a = y) && decide (b = x))) := fun x y => by
    unfold isD
    rw [e1, e2, up_at, up_at, if_pos rfl, if_pos rfl]
  refine ⟨⟨b1, by rw [e3]; omega, b3, fun d hd => ?_, fun d e hd he hi => ?_, b6⟩, a2, a3, a4, a5, a6, a7⟩
  · rw [e3] at hd
    rw [e1, e2, e4, up_at, up_at]
    by_cases q : d = drs D.2.1
    · rw [if_pos q, if_pos q]; exact ⟨ha, hb, hne⟩
    · rw [if_neg q, if_neg q]; exact b4 d (by omega)
  · rw [e3] at hd he
    rw [e1, e2, up_at, up_at] at hi
    by_cases q : d = drs D.2.1
    · rw [if_pos q, if_pos q] at hi
      by_cases q2 : e = drs D.2.1
      · omega
      · rw [iso _ _ _ (by omega), hno e (by omega)] at hi
        exact absurd hi (by simp)
    · rw [if_neg q, if_neg q] at hi
      by_cases q2 : e = drs D.2.1
      · subst q2
        rw [isn] at hi
        have := hno d (by omega)
        unfold isD at this
        simp only [Bool.or_eq_true, Bool.and_eq_true, decide_eq_true_eq, Bool.or_eq_false_iff, Bool.and_eq_false_iff, decide_eq_false_iff_not] at hi this
        omega
      · rw [iso _ _ _ (by omega)] at hi
        exact b5 d e (by omega) (by omega) hi
theorem dPet_wf {D : Dft} {a w : Nat} (h : wfD D) (hr : pts D.2.1 < 6) (ha : a < rms D.2.1) (hw : w < 100) : wfD (dPet D a w) := by
  obtain ⟨⟨b1, b2, b3, b4, b5, b6⟩, a2, a3, a4, a5, a6, a7⟩ := h
  refine ⟨⟨b1, b2, by show pts D.2.1 + 1 ≤ 6; omega, b4, b5, fun p hp => ?_⟩, a2, a3, a4, fun i hi => ?_, a6, a7⟩
  · have hp' : p < pts D.2.1 + 1 := hp
    show va_up (wor D.2.1) (pts D.2.1) w p ≤ 99
    rw [up_at]
    by_cases q : p = pts D.2.1
    · rw [if_pos q]; omega
    · rw [if_neg q]; exact b6 p (by omega)
  · have hi' : i < pts D.2.1 + 1 := hi
    show va_up D.2.2.2.2 (pts D.2.1) a i < rms D.2.1
    rw [up_at]
    by_cases q : i = pts D.2.1
    · rw [if_pos q]; exact ha
    · rw [if_neg q]; exact a5 i (by omega)
/-- a clause that is read well keeps all this, and goes on -/
theorem aCl_ok {tx : Nat → Nat} {tn q q' : Nat} {D D' : Dft} (hq : q < tn) (hD : wfD D) (h : aCl tx tn q D = .ok (q', D')) : wfD D' ∧ q < q' ∧ q' ≤ tn ∧ D'.1.isSome = true := by
  unfold aCl at h
  split at h
  · unfold aRule at h
    obtain ⟨h1, h2⟩ := fin_ok h
    obtain ⟨q2, e2, l2, l3⟩ := sEnd_ok h1
    obtain ⟨q1, e1, -, l1, l4⟩ := sNum_ok e2 (gS_0 hq)
    obtain ⟨-, rfl⟩ := s0_ok e1
    subst h2
    exact ⟨dRule_wf hD l1, by omega, l3, rfl⟩
  · split at h
    · exact absurd h (by simp)
    · next hs =>
      have hs : D.1.isSome = true := by
        cases z : D.1.isSome with
        | true => rfl
        | false => exact absurd z hs
      split at h
      · unfold aRoom at h
        obtain ⟨h1, h2⟩ := fin_ok h
        obtain ⟨q3, e3, l2, l3⟩ := sEnd_ok h1
        obtain ⟨q2, e2, -, l4, l5⟩ := sNum_ok e3 (gS_n (gS_0 hq))
        obtain ⟨q1, e1, -, l6, l7⟩ := sNum_ok e2 (gS_0 hq)
        obtain ⟨e0, rfl⟩ := s0_ok e1
        subst h2
        exact ⟨dRoom_wf hD hs (by have := of_decide_eq_false e0; omega) l6, by omega, l3, hs⟩
      · split at h
        · unfold aDoor at h
          obtain ⟨h1, h2⟩ := fin_ok h
          obtain ⟨q3, e3, l2, l3⟩ := sEnd_ok h1
          obtain ⟨e3, d1, d2⟩ := sDr_ok e3
          obtain ⟨q2, e2, -, l4, l5⟩ := sNum_ok e3 (gS_n (gS_0 hq))
          obtain ⟨q1, e1, -, l6, l7⟩ := sNum_ok e2 (gS_0 hq)
          obtain ⟨e0, rfl⟩ := s0_ok e1
          subst h2
          exact ⟨dDoor_wf hD (by have := of_decide_eq_false e0; omega) l6 l4 d1 d2, by omega, l3, hs⟩
        · split at h
          · unfold aPet at h
            obtain ⟨h1, h2⟩ := fin_ok h
            obtain ⟨q3, e3, l2, l3⟩ := sEnd_ok h1
            obtain ⟨q2, e2, -, l4, l5⟩ := sNum_ok e3 (gS_n (gS_0 hq))
            obtain ⟨q1, e1, -, l6, l7⟩ := sNum_ok e2 (gS_0 hq)
            obtain ⟨e0, rfl⟩ := s0_ok e1
            subst h2
            exact ⟨dPet_wf hD (by have := of_decide_eq_false e0; omega) l6 l4, by omega, l3, hs⟩
          · exact absurd h (by simp)
