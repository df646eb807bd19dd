/-! all references: p is the palace that stands (8 or 2), the draft is the other -/
def RF (p a k : Nat) : Option Nat :=
  if a = 0 then (if k = 0 then some 1 else if k = 1 then some p else if k = 2 then some 13 else if k = 3 then some 23 else if k = 4 then some 185 else if k = 5 then some 186 else if k = 7 then some 189 else if k = 8 then some 191 else if k = 9 then some 193 else none)
  else if a = 1 then (if k = 3 then some (10 - p) else if k = 4 then some 7 else none)
  else if a = 23 then (if k = 2 then some 24 else none)
  else if a = 24 then (if k < 16 then some (25 + 10 * k) else none)
  else if a = 185 then (if k = 0 then some 194 else if k = 1 then some 205 else none)
  else if a = 186 then (if k = 1 then some 187 else if k = 2 then some 188 else none)
  else if a = 216 then (if k = 4 then some 217 else if k = 5 then some 218 else if k = 6 then some 219 else if k = 7 then some 220 else if k = 9 then some 221 else if k = 14 then some 222 else if k = 15 then some 223 else if k = 17 then some 224 else if k = 18 then some 225 else if k = 19 then some 226 else if k = 20 then some 227 else if k = 21 then some 228 else if k = 22 then some 229 else if k = 23 then some 230 else if k = 25 then some 231 else if k = 26 then some 232 else none)
  else if kd a = 2 then (if 7 ≤ k ∧ k < 11 then some (a + k - 6) else none)
  else if kd a = 4 then (if k = 7 then some (a + 1) else none)
  else if kd a = 5 then (if k = 0 then some (a + 1) else if k = 1 then some (a + 3) else if k = 6 then some (a + 8) else if k = 7 then some (a + 9) else none)
  else if kd a = 7 then (if 2 ≤ k ∧ k < 6 then some (a + k - 1) else none)
  else if kd a = 1 then (if k = 2 then some (a + 1) else none)
  else none
def rfC (S : Mem) (p : Nat) : Prop := S.1 = 233 ∧ (p = 2 ∨ p = 8) ∧ ∀ a, a < 233 → ∀ k, k < 27 → S.2.2.2 a k = RF p a k
theorem rfC_M {S : Mem} {p : Nat} (h : rfC S p) : rfM S := by
  have e : ∀ k, k < 27 → S.2.2.2 216 k = RF p 216 k := fun k hk => h.2.2 216 (by decide) k hk
  exact ⟨h.1, e 4 (by decide), e 5 (by decide), e 6 (by decide), e 7 (by decide), e 9 (by decide), e 14 (by decide), e 15 (by decide), e 17 (by decide), e 18 (by decide), e 19 (by decide), e 20 (by decide), e 21 (by decide), e 22 (by decide), e 23 (by decide), e 25 (by decide), e 26 (by decide)⟩
/-- only rows of X have changed -/
def fr (X : Nat → Bool) (S S' : Mem) : Prop := S'.1 = S.1 ∧ S'.2.2.2 = S.2.2.2 ∧ ∀ a, X a = false → S'.2.1 a = S.2.1 a ∧ S'.2.2.1 a = S.2.2.1 a
theorem fr.rf {X : Nat → Bool} {S : Mem} : fr X S S := ⟨rfl, rfl, fun _ _ => ⟨rfl, rfl⟩⟩
theorem fr.tr {X : Nat → Bool} {S S1 S2 : Mem} (h : fr X S S1) (h' : fr X S1 S2) : fr X S S2 :=
  ⟨h'.1.trans h.1, h'.2.1.trans h.2.1, fun a ha => ⟨(h'.2.2 a ha).1.trans (h.2.2 a ha).1, (h'.2.2 a ha).2.trans (h.2.2 a ha).2⟩⟩
theorem fr.mono {X Y : Nat → Bool} {S S1 : Mem} (h : fr X S S1) (hXY : ∀ a, Y a = false → X a = false) : fr Y S S1 :=
  ⟨h.1, h.2.1, fun a ha => h.2.2 a (hXY a ha)⟩
theorem fr.rowI {X : Nat → Bool} {S : Mem} {a : Nat} {f : Nat → Int32} (h : X a = true) : fr X S (rowI S a f) :=
  ⟨rfl, rfl, fun b hb => ⟨by rw [rI2, if_neg (fun q => by subst q; rw [h] at hb; cases hb)], rfl⟩⟩
theorem fr.rowJ {X : Nat → Bool} {S : Mem} {a : Nat} {f : Nat → Int64} (h : X a = true) : fr X S (rowJ S a f) :=
  ⟨rfl, rfl, fun b hb => ⟨rfl, by rw [rJ3, if_neg (fun q => by subst q; rw [h] at hb; cases hb)]⟩⟩
theorem rfC_fr {X : Nat → Bool} {S S' : Mem} {p : Nat} (h : rfC S p) (hf : fr X S S') : rfC S' p :=
  ⟨hf.1.trans h.1, h.2.1, fun a ha k hk => by rw [hf.2.1]; exact h.2.2 a ha k hk⟩
theorem rI_comm {S : Mem} {a b : Nat} {f g : Nat → Int32} (h : a ≠ b) : rowI (rowI S a f) b g = rowI (rowI S b g) a f := by
  unfold rowI
  congr 2
  funext x
  by_cases h1 : x = b
  · subst h1; rw [if_pos rfl, if_neg (fun q => h q.symm)]; simp
  · by_cases h2 : x = a
    · subst h2; simp [h1]
    · simp [h1, h2]
theorem gI_row {S : Mem} {c k a b : Nat} {f : Nat → Int32} : gI c k (rowI S a f) b = if b = a then (if a < S.1 ∧ kd a = c then some (f k) else none) else gI c k S b := by
  unfold gI
  rw [rI1, rI2]
  by_cases h : b = a
  · subst h; simp
  · simp [h]
/-- a cell of a pair, by its kind and its row -/
def SLk (S : Mem) (a : Nat) : Prop := a + 1 < S.1 ∧ kd a = 4 ∧ kd (a + 1) = 10 ∧ ln (a + 1) = 8 ∧ S.2.2.2 a 7 = some (a + 1)
theorem c_copySl {S : Mem} {t a br : Nat} {P : Pal} {n : Nat → Nat} (hk : SLk S t) (h : SLb S a P br) (hn : S.2.1 a = slF P n) (hne : t ≠ a) (hne1 : t + 1 ≠ a) (hne2 : a + 1 ≠ t) (htl : ∀ k, 7 ≤ k → S.2.1 t k = 0) :
    ∃ S1, f_X4_copyFrom t a S = some (ss S1 t P n) ∧ SLb S1 t P br ∧ fr (fun x => x == t + 1) S S1 := by
  have hta : t < S.1 := by have := hk.1; omega
  have haa : a < S.1 := by have := h.1; omega
  have gA : ∀ (f : Nat → Int32) (k : Nat), gI 4 k (rowI S t f) a = some (slF P n k) := by
    intro f k
    rw [gI_row, if_neg (fun q => hne q.symm), gI, if_pos ⟨haa, h.2.1⟩, hn]
  have g0 : ∀ k, gI 4 k S a = some (slF P n k) := by
    intro k; rw [gI, if_pos ⟨haa, h.2.1⟩, hn]
  have pA : ∀ (f : Nat → Int32) (k : Nat) (v : Int32), pI 4 k (rowI S t f) t v = some (rowI S t (upd f k v)) := by
    intro f k v
    rw [pI, if_pos ⟨hta, hk.2.1⟩, rII, rI2, if_pos rfl]
  have p0 : ∀ (k : Nat) (v : Int32), pI 4 k S t v = some (rowI S t (upd (S.2.1 t) k v)) := by
    intro k v; rw [pI, if_pos ⟨hta, hk.2.1⟩]
  have rA : ∀ f : Nat → Int32, gR 4 7 (rowI S t f) a = some (a + 1) := by
    intro f; rw [gR, if_pos ⟨haa, h.2.1⟩]; exact h.2.2.2.2.1
  have rT : ∀ f : Nat → Int32, gR 4 7 (rowI S t f) t = some (t + 1) := by
    intro f; rw [gR, if_pos ⟨hta, hk.2.1⟩]; exact hk.2.2.2.2
  have cp : ∀ f : Nat → Int32, cpI (rowI S t f) (a + 1) (0 : Int32) (t + 1) (0 : Int32) (8 : Int32) = some (rowI (rowI S t f) (t + 1) (va_cpy (S.2.1 (a + 1)) (S.2.1 (t + 1)) 0 0 8)) := by
    intro f
    rw [cpI, if_pos ⟨⟨⟨h.1, h.2.2.1⟩, ⟨hk.1, hk.2.2.1⟩⟩, ⟨by decide, by decide, by decide⟩, ⟨by rw [h.2.2.2.1]; decide, by rw [hk.2.2.2.1]; decide⟩⟩, rI2, rI2, if_neg (by omega), if_neg (by omega)]
    rfl
  refine ⟨rowI S (t + 1) (va_cpy (S.2.1 (a + 1)) (S.2.1 (t + 1)) 0 0 8), ?_, ?_, fr.rowI (by simp)⟩
  · unfold f_X4_copyFrom
    simp only [g0, p0, gA, pA, rA, rT, cp, Option.bind_some]
    unfold ss
    rw [rI_comm (by omega)]
    congr 2
    funext k
    unfold upd
    by_cases k6 : k = 6
    · subst k6; rfl
    · by_cases k5 : k = 5
      · subst k5; rfl
      · by_cases k4 : k = 4
        · subst k4; rfl
        · by_cases k3 : k = 3
          · subst k3; rfl
          · by_cases k2 : k = 2
            · subst k2; rfl
            · by_cases k1 : k = 1
              · subst k1; rfl
              · by_cases k0 : k = 0
                · subst k0; rfl
                · simp only [k6, k5, k4, k3, k2, k1, k0, if_false]
                  rw [htl k (by omega)]
                  unfold slF
                  simp only [k6, k5, k4, k3, k2, k1, k0, if_false]
  · refine ⟨hk.1, hk.2.1, hk.2.2.1, hk.2.2.2.1, hk.2.2.2.2, fun w hw => ?_⟩
    rw [rI2, if_pos rfl, pk_cpy_in (by omega) (by omega), Nat.zero_add, Nat.sub_zero]
    exact h.2.2.2.2.2 w hw
