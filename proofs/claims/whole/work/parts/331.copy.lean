/-! how a state is copied -/
def WK (S : Mem) (t : Nat) : Prop := t + 4 < S.1 ∧ kd t = 7 ∧ ∀ j, 1 ≤ j → j ≤ 4 → kd (t + j) = 10 ∧ ln (t + j) = 16 ∧ S.2.2.2 t (j + 1) = some (t + j)
theorem WK_e {S S' : Mem} {t : Nat} (h : WK S t) (e1 : S'.1 = S.1) (e2 : S'.2.2.2 = S.2.2.2) : WK S' t := by
  unfold WK; rw [e1, e2]; exact h
def btw (a b : Nat) : Nat → Bool := fun x => decide (a ≤ x) && decide (x ≤ b)
theorem btw_t {a b x : Nat} (h1 : a ≤ x) (h2 : x ≤ b) : btw a b x = true := by simp [btw, h1, h2]
theorem btw_f {a b x : Nat} (h : x < a ∨ b < x) : btw a b x = false := by
  simp only [btw, Bool.and_eq_false_iff, decide_eq_false_iff_not]; omega
theorem btw_nf {a b x : Nat} (h : btw a b x = false) : x < a ∨ b < x := by
  simp only [btw, Bool.and_eq_false_iff, decide_eq_false_iff_not] at h; omega
theorem cp_row {S : Mem} {t a N : Nat} (h1 : a < S.1 ∧ kd a = 10) (h2 : t < S.1 ∧ kd t = 10) (l1 : ln a = N) (l2 : ln t = N) (hN : N < 100) : cpI S a (0 : Int32) t (0 : Int32) (nI N) = some (rowI S t (va_cpy (S.2.1 a) (S.2.1 t) 0 0 N)) := by
  have e : (nI N).toNatClampNeg = N := nI_clamp (by omega)
  rw [cpI, if_pos ⟨⟨h1, h2⟩, ⟨by decide, by decide, nI_pos (by omega)⟩, ⟨by rw [e, l1]; exact Nat.le_of_eq (Nat.zero_add N), by rw [e, l2]; exact Nat.le_of_eq (Nat.zero_add N)⟩⟩, e]
  rfl
theorem cpy_at {f g : Nat → Int32} {N k : Nat} (h : k < N) : va_cpy f g 0 0 N k = f k := by
  rw [pk_cpy_in (by omega) (by omega), Nat.zero_add, Nat.sub_zero]
theorem c_copyWay {S : Mem} {t a : Nat} {P : Pal} {n : Nat → Nat} (ht : WK S t) (ha : WK S a) (hd : t + 4 < a ∨ a + 4 < t) (hy : WyR (S.2.1 a) (S.2.1 (a + 1)) (S.2.1 (a + 2)) (S.2.1 (a + 3)) (S.2.1 (a + 4)) P n) :
    ∃ S', f_X7_copyFrom t a S = some S' ∧ fr (btw t (t + 4)) S S' ∧ WyR (S'.2.1 t) (S'.2.1 (t + 1)) (S'.2.1 (t + 2)) (S'.2.1 (t + 3)) (S'.2.1 (t + 4)) P n := by
  have gA : ∀ {S' : Mem} (k : Nat) (v : Int32), WK S' a → S'.2.1 a k = v → gI 7 k S' a = some v := fun k v h e => by
    rw [gI, if_pos ⟨by have := h.1; omega, h.2.1⟩, e]
  have pT : ∀ {S' : Mem} (k : Nat) (v : Int32), WK S' t → pI 7 k S' t v = some (rowI S' t (upd (S'.2.1 t) k v)) := fun k v h => by
    rw [pI, if_pos ⟨by have := h.1; omega, h.2.1⟩]
  have rG : ∀ {S' : Mem} {s : Nat} (j : Nat), 1 ≤ j → j ≤ 4 → WK S' s → gR 7 (j + 1) S' s = some (s + j) := fun j h1 h2 h => by
    rw [gR, if_pos ⟨by have := h.1; omega, h.2.1⟩]; exact (h.2.2 j h1 h2).2.2
  have cP : ∀ {S' : Mem} (j : Nat), 1 ≤ j → j ≤ 4 → WK S' a → WK S' t → cpI S' (a + j) (0 : Int32) (t + j) (0 : Int32) (16 : Int32) = some (rowI S' (t + j) (va_cpy (S'.2.1 (a + j)) (S'.2.1 (t + j)) 0 0 16)) := fun j h1 h2 h h' =>
    cp_row (N := 16) ⟨by have := h.1; omega, (h.2.2 j h1 h2).1⟩ ⟨by have := h'.1; omega, (h'.2.2 j h1 h2).1⟩ (h.2.2 j h1 h2).2.1 (h'.2.2 j h1 h2).2.1 (by decide)
  refine ⟨rowI (rowI (rowI (rowI (rowI S t (upd (upd (S.2.1 t) 0 (S.2.1 a 0)) 1 (S.2.1 a 1))) (t + 1) (va_cpy (S.2.1 (a + 1)) (S.2.1 (t + 1)) 0 0 16)) (t + 2) (va_cpy (S.2.1 (a + 2)) (S.2.1 (t + 2)) 0 0 16)) (t + 3) (va_cpy (S.2.1 (a + 3)) (S.2.1 (t + 3)) 0 0 16)) (t + 4) (va_cpy (S.2.1 (a + 4)) (S.2.1 (t + 4)) 0 0 16), ?_, ?_, ?_⟩
  · unfold f_X7_copyFrom
    refine bs (gA 0 _ ha rfl) (bs (pT 0 _ ht) (bs (gA 1 (S.2.1 a 1) (WK_e ha rfl rfl) (by rw [rI2, if_neg (by omega)])) (bs (pT 1 _ (WK_e ht rfl rfl)) (bs (rG 1 (by decide) (by decide) (WK_e ha rfl rfl)) (bs (rG 1 (by decide) (by decide) (WK_e ht rfl rfl)) (bs (cP 1 (by decide) (by decide) (WK_e ha rfl rfl) (WK_e ht rfl rfl)) (bs (rG 2 (by decide) (by decide) (WK_e ha rfl rfl)) (bs (rG 2 (by decide) (by decide) (WK_e ht rfl rfl)) (bs (cP 2 (by decide) (by decide) (WK_e ha rfl rfl) (WK_e ht rfl rfl)) (bs (rG 3 (by decide) (by decide) (WK_e ha rfl rfl)) (bs (rG 3 (by decide) (by decide) (WK_e ht rfl rfl)) (bs (cP 3 (by decide) (by decide) (WK_e ha rfl rfl) (WK_e ht rfl rfl)) (bs (rG 4 (by decide) (by decide) (WK_e ha rfl rfl)) (bs (rG 4 (by decide) (by decide) (WK_e ht rfl rfl)) (bs (cP 4 (by decide) (by decide) (WK_e ha rfl rfl) (WK_e ht rfl rfl)) ?_)))))))))))))))
    have e0 : (rowI S t (upd (S.2.1 t) 0 (S.2.1 a 0))).2.1 t = upd (S.2.1 t) 0 (S.2.1 a 0) := by rw [rI2, if_pos rfl]
    rw [e0, rII]
    congr 1
    have f1 : ∀ (T : Mem) (j : Nat) (f : Nat → Int32), 1 ≤ j → j ≤ 4 → (rowI T t f).2.1 (a + j) = T.2.1 (a + j) := fun T j f h1 h2 => by rw [rI2, if_neg (by omega)]
    have f2 : ∀ (T : Mem) (j : Nat) (f : Nat → Int32), 1 ≤ j → j ≤ 4 → (rowI T t f).2.1 (t + j) = T.2.1 (t + j) := fun T j f h1 h2 => by rw [rI2, if_neg (by omega)]
    have f3 : ∀ (T : Mem) (i j : Nat) (f : Nat → Int32), i ≤ 4 → j ≤ 4 → (rowI T (t + i) f).2.1 (a + j) = T.2.1 (a + j) := fun T i j f h1 h2 => by rw [rI2, if_neg (by omega)]
    have f4 : ∀ (T : Mem) (i j : Nat) (f : Nat → Int32), i ≠ j → (rowI T (t + i) f).2.1 (t + j) = T.2.1 (t + j) := fun T i j f h1 => by rw [rI2, if_neg (by omega)]
    simp (disch := decide) only [f1, f2, f3, f4]
  · exact fr.tr (fr.rowI (btw_t (by omega) (by omega))) (fr.tr (fr.rowI (btw_t (by omega) (by omega))) (fr.tr (fr.rowI (btw_t (by omega) (by omega))) (fr.tr (fr.rowI (btw_t (by omega) (by omega))) (fr.rowI (btw_t (by omega) (by omega))))))
  · obtain ⟨fr0, y0, y1, y2, y3, y4⟩ := hy
    have v0 : (rowI (rowI (rowI (rowI (rowI S t (upd (upd (S.2.1 t) 0 (S.2.1 a 0)) 1 (S.2.1 a 1))) (t + 1) (va_cpy (S.2.1 (a + 1)) (S.2.1 (t + 1)) 0 0 16)) (t + 2) (va_cpy (S.2.1 (a + 2)) (S.2.1 (t + 2)) 0 0 16)) (t + 3) (va_cpy (S.2.1 (a + 3)) (S.2.1 (t + 3)) 0 0 16)) (t + 4) (va_cpy (S.2.1 (a + 4)) (S.2.1 (t + 4)) 0 0 16)).2.1 t = upd (upd (S.2.1 t) 0 (S.2.1 a 0)) 1 (S.2.1 a 1) := by
      rw [rI2, if_neg (by omega), rI2, if_neg (by omega), rI2, if_neg (by omega), rI2, if_neg (by omega), rI2, if_pos rfl]
    have v1 : (rowI (rowI (rowI (rowI (rowI S t (upd (upd (S.2.1 t) 0 (S.2.1 a 0)) 1 (S.2.1 a 1))) (t + 1) (va_cpy (S.2.1 (a + 1)) (S.2.1 (t + 1)) 0 0 16)) (t + 2) (va_cpy (S.2.1 (a + 2)) (S.2.1 (t + 2)) 0 0 16)) (t + 3) (va_cpy (S.2.1 (a + 3)) (S.2.1 (t + 3)) 0 0 16)) (t + 4) (va_cpy (S.2.1 (a + 4)) (S.2.1 (t + 4)) 0 0 16)).2.1 (t + 1) = va_cpy (S.2.1 (a + 1)) (S.2.1 (t + 1)) 0 0 16 := by
      rw [rI2, if_neg (by omega), rI2, if_neg (by omega), rI2, if_neg (by omega), rI2, if_pos rfl]
    have v2 : (rowI (rowI (rowI (rowI (rowI S t (upd (upd (S.2.1 t) 0 (S.2.1 a 0)) 1 (S.2.1 a 1))) (t + 1) (va_cpy (S.2.1 (a + 1)) (S.2.1 (t + 1)) 0 0 16)) (t + 2) (va_cpy (S.2.1 (a + 2)) (S.2.1 (t + 2)) 0 0 16)) (t + 3) (va_cpy (S.2.1 (a + 3)) (S.2.1 (t + 3)) 0 0 16)) (t + 4) (va_cpy (S.2.1 (a + 4)) (S.2.1 (t + 4)) 0 0 16)).2.1 (t + 2) = va_cpy (S.2.1 (a + 2)) (S.2.1 (t + 2)) 0 0 16 := by
      rw [rI2, if_neg (by omega), rI2, if_neg (by omega), rI2, if_pos rfl]
    have v3 : (rowI (rowI (rowI (rowI (rowI S t (upd (upd (S.2.1 t) 0 (S.2.1 a 0)) 1 (S.2.1 a 1))) (t + 1) (va_cpy (S.2.1 (a + 1)) (S.2.1 (t + 1)) 0 0 16)) (t + 2) (va_cpy (S.2.1 (a + 2)) (S.2.1 (t + 2)) 0 0 16)) (t + 3) (va_cpy (S.2.1 (a + 3)) (S.2.1 (t + 3)) 0 0 16)) (t + 4) (va_cpy (S.2.1 (a + 4)) (S.2.1 (t + 4)) 0 0 16)).2.1 (t + 3) = va_cpy (S.2.1 (a + 3)) (S.2.1 (t + 3)) 0 0 16 := by
      rw [rI2, if_neg (by omega), rI2, if_pos rfl]
    have v4 : (rowI (rowI (rowI (rowI (rowI S t (upd (upd (S.2.1 t) 0 (S.2.1 a 0)) 1 (S.2.1 a 1))) (t + 1) (va_cpy (S.2.1 (a + 1)) (S.2.1 (t + 1)) 0 0 16)) (t + 2) (va_cpy (S.2.1 (a + 2)) (S.2.1 (t + 2)) 0 0 16)) (t + 3) (va_cpy (S.2.1 (a + 3)) (S.2.1 (t + 3)) 0 0 16)) (t + 4) (va_cpy (S.2.1 (a + 4)) (S.2.1 (t + 4)) 0 0 16)).2.1 (t + 4) = va_cpy (S.2.1 (a + 4)) (S.2.1 (t + 4)) 0 0 16 := by
      rw [rI2, if_pos rfl]
    rw [v0, v1, v2, v3, v4]
    refine ⟨fr0, y0, ?_, ?_, y3, fun i hi => ?_⟩
    · rw [upd_n (by decide), upd_s]; exact y1
    · rw [upd_s]; exact y2
    · have hm : (fr0 + 16 - n 9 + i) % 16 < 16 := Nat.mod_lt _ (by decide)
      rw [cpy_at hm, cpy_at hm, cpy_at hm, cpy_at hm]
      exact y4 i hi
