/-! the whole state, and how both hold it -/
/-- one state that can stand, be undone or kept -/
def gdN (P : Pal) (n : Nat → Nat) : Prop := wfN P 9060 n ∧ ∀ a, a < 8 → n (18 + a) ≤ n 1
/-- (pal, n, us, uc) (im, ik, isd, sd) (tx, tn, lf) (bk, bo, bc) -/
abbrev Abs : Type := (Pal × Bool × (Nat → Nat)) × ((Nat → Nat → Nat) × Nat) × ((Nat → Nat → Nat) × (Nat → Bool) × (Nat → Nat) × Nat) × ((Nat → Nat) × Nat × Int32) × ((Nat → Nat) × (Nat → Nat) × Nat)
def Cpal (S : Mem) (p : Nat) (P : Pal) (pal : Bool) : Prop := PaR S p P ∧ S.2.1 p 0 = nI (if pal then 1 else 0)
def Cpast (S : Mem) (P : Pal) (us : Nat → Nat → Nat) (uc : Nat) : Prop := ∃ pf, pf < 16 ∧ S.2.1 23 0 = nI uc ∧ S.2.1 23 1 = nI pf ∧ ∀ i, i < uc → StR S (25 + 10 * ((pf + 16 - uc + i) % 16)) P (us i)
def Cimg (S : Mem) (P : Pal) (im : Nat → Nat → Nat) (ik : Nat → Bool) (isd : Nat → Nat) : Prop := ∀ i, i < 2 → S.2.1 (194 + 11 * i) 0 = nI (if ik i then 1 else 0) ∧ (ik i = true → S.2.1 (194 + 11 * i) 1 = nI (isd i) ∧ StR S (195 + 11 * i) P (im i))
def Ctext (S : Mem) (tx : Nat → Nat) (tn : Nat) (lf : Int32) : Prop := S.2.1 1 0 = nI tn ∧ S.2.1 1 2 = lf ∧ ∀ k, k < tn → S.2.1 7 k = nI (tx k)
def Cbook (S : Mem) (bk bo : Nat → Nat) (bc : Nat) : Prop := S.2.1 186 0 = nI bc ∧ ∀ k, k < bc → S.2.1 187 k = nI (bk k) ∧ S.2.1 188 k = nI (bo k)
def Ctail (S : Mem) : Prop := ∀ a, a < 216 → kd a = 4 → ∀ k, 7 ≤ k → S.2.1 a k = 0
def Mpal (S : Mem) (P : Pal) (pal : Bool) : Prop := S.2.1 216 0 = nI (if pal then 1 else 0) ∧ S.2.1 216 1 = nI (rms P) ∧ S.2.1 216 2 = nI (drs P) ∧ S.2.1 216 3 = nI (pts P) ∧ (∀ d, d < drs P → S.2.1 217 d = nI (dfr P d)) ∧ (∀ d, d < drs P → S.2.1 218 d = nI (dto P d)) ∧ (∀ p, p < pts P → S.2.1 219 p = nI (wor P p))
def Mpast (S : Mem) (us : Nat → Nat → Nat) (uc : Nat) : Prop := S.2.1 216 16 = nI uc ∧ ∀ i, i < uc → ∀ k, k < 80 → S.2.2.1 223 (80 * i + k) = lN (us i k)
def Mimg (S : Mem) (im : Nat → Nat → Nat) (ik : Nat → Bool) (isd : Nat → Nat) : Prop := ∀ i, i < 2 → S.2.1 232 i = nI (if ik i then 1 else 0) ∧ (ik i = true → (∀ k, k < 80 → S.2.2.1 231 (81 * i + k) = lN (im i k)) ∧ S.2.2.1 231 (81 * i + 80) = lN (isd i))
def Mtext (S : Mem) (tx : Nat → Nat) (tn : Nat) (lf : Int32) : Prop := S.2.1 216 10 = nI tn ∧ S.2.1 216 13 = lf ∧ ∀ k, k < tn → S.2.1 221 k = nI (tx k)
def Mbook (S : Mem) (bk bo : Nat → Nat) (bc : Nat) : Prop := S.2.1 216 24 = nI bc ∧ ∀ k, k < bc → S.2.1 230 (2 * k) = nI (bk k) ∧ S.2.1 230 (2 * k + 1) = nI (bo k)
def IC (S : Mem) (p : Nat) (A : Abs) : Prop := rfC S p ∧ Cpal S p A.1.1 A.1.2.1 ∧ StR S 13 A.1.1 A.1.2.2 ∧ Cpast S A.1.1 A.2.1.1 A.2.1.2 ∧ Cimg S A.1.1 A.2.2.1.1 A.2.2.1.2.1 A.2.2.1.2.2.1 ∧ S.2.1 0 6 = nI A.2.2.1.2.2.2 ∧ Ctext S A.2.2.2.1.1 A.2.2.2.1.2.1 A.2.2.2.1.2.2 ∧ Cbook S A.2.2.2.2.1 A.2.2.2.2.2.1 A.2.2.2.2.2.2 ∧ Ctail S
def IM (S : Mem) (A : Abs) : Prop := Mpal S A.1.1 A.1.2.1 ∧ S.2.2.1 220 = LL A.1.2.2 ∧ Mpast S A.2.1.1 A.2.1.2 ∧ Mimg S A.2.2.1.1 A.2.2.1.2.1 A.2.2.1.2.2.1 ∧ S.2.2.1 216 8 = lN A.2.2.1.2.2.2 ∧ Mtext S A.2.2.2.1.1 A.2.2.2.1.2.1 A.2.2.2.1.2.2 ∧ Mbook S A.2.2.2.2.1 A.2.2.2.2.2.1 A.2.2.2.2.2.2
def IW (A : Abs) : Prop := wfP A.1.1 ∧ (A.1.2.1 = false → rms A.1.1 = 0) ∧ gdN A.1.1 A.1.2.2 ∧ A.2.1.2 ≤ 16 ∧ (∀ i, i < A.2.1.2 → gdN A.1.1 (A.2.1.1 i)) ∧ (∀ i, i < 2 → A.2.2.1.2.1 i = true → gdN A.1.1 (A.2.2.1.1 i) ∧ A.2.2.1.2.2.1 i < 2 ^ 31) ∧ A.2.2.1.2.2.2 < 2 ^ 31 ∧ A.2.2.2.1.2.1 ≤ 240 ∧ (∀ k, k < A.2.2.2.1.2.1 → A.2.2.2.1.1 k < 256) ∧ A.2.2.2.2.2.2 ≤ 15 ∧ (∀ k, k < A.2.2.2.2.2.2 → A.2.2.2.2.1 k < rms A.1.1 ∧ A.2.2.2.2.2.1 k ≤ 9999)
def Inv (S : Mem) : Prop := ∃ (p : Nat) (A : Abs), IC S p A ∧ IM S A ∧ IW A
theorem StR_fr {S S' : Mem} {a : Nat} {P : Pal} {n : Nat → Nat} (h : StR S a P n) (e : ∀ b, a ≤ b → b ≤ a + 9 → S'.2.1 b = S.2.1 b) : StR S' a P n := by
  obtain ⟨⟨f2, f3, f4, f5⟩, hs, hbs, hy, hgv, hch⟩ := h
  refine ⟨⟨by rw [e a (by omega) (by omega)]; exact f2, by rw [e a (by omega) (by omega)]; exact f3, by rw [e a (by omega) (by omega)]; exact f4, by rw [e a (by omega) (by omega)]; exact f5⟩, by rw [e _ (by omega) (by omega)]; exact hs, fun w hw => by rw [e _ (by omega) (by omega)]; exact hbs w hw, ?_, fun k hk => by rw [e _ (by omega) (by omega)]; exact hgv k hk, fun k hk => by rw [e _ (by omega) (by omega)]; exact hch k hk⟩
  rw [e (a + 3) (by omega) (by omega), e (a + 4) (by omega) (by omega), e (a + 5) (by omega) (by omega), e (a + 6) (by omega) (by omega), e (a + 7) (by omega) (by omega)]
  exact hy
theorem Cpal_fr {S S' : Mem} {p : Nat} {P : Pal} {pal : Bool} (h : Cpal S p P pal) (e : ∀ b, p ≤ b → b ≤ p + 4 → S'.2.1 b = S.2.1 b) : Cpal S' p P pal := by
  obtain ⟨⟨p1, p2, p3, p4, p5, p6⟩, h0⟩ := h
  exact ⟨⟨by rw [e p (by omega) (by omega)]; exact p1, by rw [e p (by omega) (by omega)]; exact p2, by rw [e p (by omega) (by omega)]; exact p3, fun d hd => by rw [e _ (by omega) (by omega)]; exact p4 d hd, fun d hd => by rw [e _ (by omega) (by omega)]; exact p5 d hd, fun d hd => by rw [e _ (by omega) (by omega)]; exact p6 d hd⟩, by rw [e p (by omega) (by omega)]; exact h0⟩
theorem Cpast_fr {S S' : Mem} {P : Pal} {us : Nat → Nat → Nat} {uc : Nat} (h : Cpast S P us uc) (e : ∀ b, 23 ≤ b → b ≤ 184 → S'.2.1 b = S.2.1 b) : Cpast S' P us uc := by
  obtain ⟨pf, h1, h2, h3, h4⟩ := h
  exact ⟨pf, h1, by rw [e 23 (by omega) (by omega)]; exact h2, by rw [e 23 (by omega) (by omega)]; exact h3, fun i hi => StR_fr (h4 i hi) (fun b hb1 hb2 => e b (by omega) (by omega))⟩
theorem Cimg_fr {S S' : Mem} {P : Pal} {im : Nat → Nat → Nat} {ik : Nat → Bool} {isd : Nat → Nat} (h : Cimg S P im ik isd) (e : ∀ b, 194 ≤ b → b ≤ 215 → S'.2.1 b = S.2.1 b) : Cimg S' P im ik isd := by
  intro i hi
  obtain ⟨h1, h2⟩ := h i hi
  exact ⟨by rw [e _ (by omega) (by omega)]; exact h1, fun hk => ⟨by rw [e _ (by omega) (by omega)]; exact (h2 hk).1, StR_fr (h2 hk).2 (fun b hb1 hb2 => e b (by omega) (by omega))⟩⟩
/-- rows that only trying uses -/
def scr (x : Nat) : Bool := (decide (189 ≤ x) && decide (x ≤ 193)) || x == 222 || (decide (224 ≤ x) && decide (x ≤ 229))
theorem scr_no {b : Nat} (h : b < 189 ∨ (193 < b ∧ b < 222) ∨ b = 223 ∨ 229 < b) : scr b = false := by
  simp only [scr, Bool.or_eq_false_iff, Bool.and_eq_false_iff, decide_eq_false_iff_not, beq_eq_false_iff_ne]
  omega
theorem Inv_q {S S' : Mem} (h : Inv S) (hf : fr scr S S') (ht : ∀ k, 7 ≤ k → S'.2.1 189 k = 0 ∧ S'.2.1 191 k = 0) : Inv S' := by
  obtain ⟨p, A, ⟨c1, c2, c3, c4, c5, c6, c7, c8, c9⟩, ⟨m1, m2, m3, m4, m5, m6, m7⟩, hw⟩ := h
  have e : ∀ b, b < 189 ∨ (193 < b ∧ b < 222) ∨ b = 223 ∨ 229 < b → S'.2.1 b = S.2.1 b := fun b hb => (hf.2.2 b (scr_no hb)).1
  have e' : ∀ b, b < 189 ∨ (193 < b ∧ b < 222) ∨ b = 223 ∨ 229 < b → S'.2.2.1 b = S.2.2.1 b := fun b hb => (hf.2.2 b (scr_no hb)).2
  have hp := c1.2.1
  refine ⟨p, A, ⟨rfC_fr c1 hf, Cpal_fr c2 (fun b h1 h2 => e b (by omega)), StR_fr c3 (fun b h1 h2 => e b (by omega)), Cpast_fr c4 (fun b h1 h2 => e b (by omega)), Cimg_fr c5 (fun b h1 h2 => e b (by omega)), by rw [e 0 (by omega)]; exact c6, ⟨by rw [e 1 (by omega)]; exact c7.1, by rw [e 1 (by omega)]; exact c7.2.1, fun k hk => by rw [e 7 (by omega)]; exact c7.2.2 k hk⟩, ⟨by rw [e 186 (by omega)]; exact c8.1, fun k hk => by rw [e 187 (by omega), e 188 (by omega)]; exact c8.2 k hk⟩, ?_⟩, ⟨⟨by rw [e 216 (by omega)]; exact m1.1, by rw [e 216 (by omega)]; exact m1.2.1, by rw [e 216 (by omega)]; exact m1.2.2.1, by rw [e 216 (by omega)]; exact m1.2.2.2.1, fun d hd => by rw [e 217 (by omega)]; exact m1.2.2.2.2.1 d hd, fun d hd => by rw [e 218 (by omega)]; exact m1.2.2.2.2.2.1 d hd, fun d hd => by rw [e 219 (by omega)]; exact m1.2.2.2.2.2.2 d hd⟩, by rw [e' 220 (by omega)]; exact m2, ⟨by rw [e 216 (by omega)]; exact m3.1, fun i hi k hk => by rw [e' 223 (by omega)]; exact m3.2 i hi k hk⟩, fun i hi => ⟨by rw [e 232 (by omega)]; exact (m4 i hi).1, fun hk => ⟨fun k hk2 => by rw [e' 231 (by omega)]; exact ((m4 i hi).2 hk).1 k hk2, by rw [e' 231 (by omega)]; exact ((m4 i hi).2 hk).2⟩⟩, by rw [e' 216 (by omega)]; exact m5, ⟨by rw [e 216 (by omega)]; exact m6.1, by rw [e 216 (by omega)]; exact m6.2.1, fun k hk => by rw [e 221 (by omega)]; exact m6.2.2 k hk⟩, ⟨by rw [e 216 (by omega)]; exact m7.1, fun k hk => by rw [e 230 (by omega)]; exact m7.2 k hk⟩⟩, hw⟩
  intro a ha hk4 k hk
  by_cases h1 : a = 189
  · subst h1; exact (ht k hk).1
  · by_cases h2 : a = 191
    · subst h2; exact (ht k hk).2
    · have h3 : a ≠ 190 ∧ a ≠ 192 ∧ a ≠ 193 := by
        refine ⟨?_, ?_, ?_⟩ <;> (intro q; subst q; exact absurd hk4 (by decide +kernel))
      rw [e a (by omega)]
      exact c9 a ha hk4 k hk
