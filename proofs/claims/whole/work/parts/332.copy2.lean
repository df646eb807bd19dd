def STk (S : Mem) (s : Nat) : Prop := s + 9 < S.1 ∧ kd s = 5 ∧ SLk S (s + 1) ∧ WK S (s + 3) ∧ (kd (s + 8) = 10 ∧ ln (s + 8) = 8) ∧ (kd (s + 9) = 10 ∧ ln (s + 9) = 6) ∧ S.2.2.2 s 0 = some (s + 1) ∧ S.2.2.2 s 1 = some (s + 3) ∧ S.2.2.2 s 6 = some (s + 8) ∧ S.2.2.2 s 7 = some (s + 9)
theorem STk_e {S S' : Mem} {t : Nat} (h : STk S t) (e1 : S'.1 = S.1) (e2 : S'.2.2.2 = S.2.2.2) : STk S' t := by
  unfold STk SLk WK; rw [e1, e2]; exact h
theorem c_copySt {S : Mem} {t a : Nat} {P : Pal} {n : Nat → Nat} (ht : STk S t) (ha : STk S a) (hd : t + 9 < a ∨ a + 9 < t) (hst : StR S a P n) (hp : pts P ≤ 6) (htl : ∀ k, 7 ≤ k → S.2.1 (t + 1) k = 0) : ∃ S', f_X5_copyFrom t a S = some S' ∧ fr (btw t (t + 9)) S S' ∧ StR S' t P n := by
  obtain ⟨⟨f2, f3, f4, f5⟩, hs, hbs, hy, hgv, hch⟩ := hst
  have hsb : SLb S (a + 1) P (n 6) := by
    obtain ⟨a1, a2, a3, a4, a5⟩ := ha.2.2.1
    exact ⟨a1, a2, a3, a4, a5, hbs⟩
  obtain ⟨S1, b1, b2, b3⟩ := c_copySl ht.2.2.1 hsb hs (by omega) (by omega) (by omega) htl
  have r1 : ∀ b, b ≠ t + 2 → S1.2.1 b = S.2.1 b := fun b hb => (b3.2.2 b (by simp [show t + 1 + 1 = t + 2 from rfl, hb])).1
  obtain ⟨S4, hS4⟩ : ∃ S4, S4 = ss S1 (t + 1) P n := ⟨_, rfl⟩
  rw [← hS4] at b1
  have g1 : S4.1 = S.1 := by rw [hS4]; exact b3.1
  have g2 : S4.2.2.2 = S.2.2.2 := by rw [hS4]; exact b3.2.1
  have r4 : ∀ b, b ≠ t + 1 → b ≠ t + 2 → S4.2.1 b = S.2.1 b := fun b h1 h2 => by
    rw [hS4]
    show (if b = t + 1 then _ else S1.2.1 b) = _
    rw [if_neg h1, r1 b h2]
  have fr4 : fr (btw t (t + 9)) S S4 := by
    rw [hS4]
    refine fr.tr (b3.mono (fun x hx => ?_)) (fr.rowI (btw_t (by omega) (by omega)))
    have := btw_nf hx
    simp only [beq_eq_false_iff_ne]; omega
  obtain ⟨S8, d1, d2, d3⟩ := c_copyWay (S := S4) (t := t + 3) (a := a + 3) (P := P) (n := n) (WK_e ht.2.2.2.1 g1 g2) (WK_e ha.2.2.2.1 g1 g2) (by omega) (by
    rw [r4 (a + 3) (by omega) (by omega), r4 (a + 3 + 1) (by omega) (by omega), r4 (a + 3 + 2) (by omega) (by omega), r4 (a + 3 + 3) (by omega) (by omega), r4 (a + 3 + 4) (by omega) (by omega)]
    exact hy)
  have k1 : S8.1 = S.1 := d2.1.trans g1
  have k2 : S8.2.2.2 = S.2.2.2 := d2.2.1.trans g2
  have r8 : ∀ b, b < t + 3 ∨ t + 7 < b → S8.2.1 b = S4.2.1 b := fun b hb => (d2.2.2 b (btw_f (by omega))).1
  have gA : ∀ {T : Mem} (k : Nat) (v : Int32), STk T a → T.2.1 a k = v → gI 5 k T a = some v := fun k v h e => by
    rw [gI, if_pos ⟨by have := h.1; omega, h.2.1⟩, e]
  have pT : ∀ {T : Mem} (k : Nat) (v : Int32), STk T t → pI 5 k T t v = some (rowI T t (upd (T.2.1 t) k v)) := fun k v h => by
    rw [pI, if_pos ⟨by have := h.1; omega, h.2.1⟩]
  have rG : ∀ {T : Mem} {s k v : Nat}, STk T s → T.2.2.2 s k = some v → gR 5 k T s = some v := fun h e => by
    rw [gR, if_pos ⟨by have := h.1; omega, h.2.1⟩, e]
  have t8 := STk_e ht k1 k2
  have a8 := STk_e ha k1 k2
  have t4 := STk_e ht g1 g2
  have a4 := STk_e ha g1 g2
  have va : ∀ k, S8.2.1 a k = S.2.1 a k := fun k => by rw [r8 a (by omega), r4 a (by omega) (by omega)]
  have nt : ∀ (f : Nat → Int32) k, (rowI S8 t f).2.1 a k = S.2.1 a k := fun f k => by rw [rI2, if_neg (by omega)]; exact va k
  have up1 : ∀ (f : Nat → Int32) k v, rowI (rowI S8 t f) t (upd ((rowI S8 t f).2.1 t) k v) = rowI S8 t (upd f k v) := fun f k v => by
    rw [rII, rI2, if_pos rfl]
  have q8 : ∀ (f : Nat → Int32), cpI (rowI S8 t f) (a + 8) (0 : Int32) (t + 8) (0 : Int32) (8 : Int32) = some (rowI (rowI S8 t f) (t + 8) (va_cpy (S.2.1 (a + 8)) (S8.2.1 (t + 8)) 0 0 8)) := fun f => by
    have := cp_row (S := rowI S8 t f) (a := a + 8) (t := t + 8) (N := 8) ⟨by have := a8.1; exact Nat.lt_of_succ_lt this, a8.2.2.2.2.1.1⟩ ⟨by have := t8.1; exact Nat.lt_of_succ_lt this, t8.2.2.2.2.1.1⟩ a8.2.2.2.2.1.2 t8.2.2.2.2.1.2 (by decide)
    rw [rI2, rI2, if_neg (by omega), if_neg (by omega), r8 (a + 8) (by omega), r4 (a + 8) (by omega) (by omega)] at this
    exact this
  have q9 : ∀ (f g : Nat → Int32), cpI (rowI (rowI S8 t f) (t + 8) g) (a + 9) (0 : Int32) (t + 9) (0 : Int32) (6 : Int32) = some (rowI (rowI (rowI S8 t f) (t + 8) g) (t + 9) (va_cpy (S.2.1 (a + 9)) (S8.2.1 (t + 9)) 0 0 6)) := fun f g => by
    have := cp_row (S := rowI (rowI S8 t f) (t + 8) g) (a := a + 9) (t := t + 9) (N := 6) ⟨a8.1, a8.2.2.2.2.2.1.1⟩ ⟨t8.1, t8.2.2.2.2.2.1.1⟩ a8.2.2.2.2.2.1.2 t8.2.2.2.2.2.1.2 (by decide)
    rw [rI2, if_neg (by omega), rI2, if_neg (by omega), rI2, if_neg (by omega), rI2, if_neg (by omega), r8 (a + 9) (by omega), r4 (a + 9) (by omega) (by omega)] at this
    exact this
  refine ⟨rowI (rowI (rowI S8 t (upd (upd (upd (upd (S8.2.1 t) 2 (S.2.1 a 2)) 3 (S.2.1 a 3)) 4 (S.2.1 a 4)) 5 (S.2.1 a 5))) (t + 8) (va_cpy (S.2.1 (a + 8)) (S8.2.1 (t + 8)) 0 0 8)) (t + 9) (va_cpy (S.2.1 (a + 9)) (S8.2.1 (t + 9)) 0 0 6), ?_, ?_, ?_⟩
  · unfold f_X5_copyFrom
    refine bs (rG ht ht.2.2.2.2.2.2.1) (bs (rG ha ha.2.2.2.2.2.2.1) (bs (if_pos ⟨Nat.lt_of_succ_lt ht.2.2.1.1, ht.2.2.1.2.1⟩) (bs b1 (bs (rG t4 t4.2.2.2.2.2.2.2.1) (bs (rG a4 a4.2.2.2.2.2.2.2.1) (bs (if_pos ⟨by have := t4.1; omega, t4.2.2.2.1.2.1⟩) (bs d1 (bs (gA 2 _ a8 (va 2)) (bs (pT 2 _ t8) (bs (gA 3 _ (STk_e a8 rfl rfl) (nt _ 3)) (bs (pT 3 _ (STk_e t8 rfl rfl)) ?_)))))))))))
    rw [up1]
    refine bs (gA 4 _ (STk_e a8 rfl rfl) (nt _ 4)) (bs (pT 4 _ (STk_e t8 rfl rfl)) ?_)
    rw [up1]
    refine bs (gA 5 _ (STk_e a8 rfl rfl) (nt _ 5)) (bs (pT 5 _ (STk_e t8 rfl rfl)) ?_)
    rw [up1]
    refine bs (rG (STk_e a8 rfl rfl) a8.2.2.2.2.2.2.2.2.1) (bs (rG (STk_e t8 rfl rfl) t8.2.2.2.2.2.2.2.2.1) (bs (q8 _) (bs (rG (STk_e a8 rfl rfl) a8.2.2.2.2.2.2.2.2.2) (bs (rG (STk_e t8 rfl rfl) t8.2.2.2.2.2.2.2.2.2) (bs (q9 _ _) rfl)))))
  · refine fr.tr fr4 (fr.tr (d2.mono (fun x hx => ?_)) (fr.tr (fr.rowI (btw_t (by omega) (by omega))) (fr.tr (fr.rowI (btw_t (by omega) (by omega))) (fr.rowI (btw_t (by omega) (by omega))))))
    have := btw_nf hx
    exact btw_f (by omega)
  · have z : ∀ b, b ≠ t → b ≠ t + 8 → b ≠ t + 9 → ∀ F G H, (rowI (rowI (rowI S8 t F) (t + 8) G) (t + 9) H).2.1 b = S8.2.1 b := fun b h1 h2 h3 F G H => by
      rw [rI2, if_neg h3, rI2, if_neg h2, rI2, if_neg h1]
    have z0 : ∀ F G H, (rowI (rowI (rowI S8 t F) (t + 8) G) (t + 9) H).2.1 t = F := fun F G H => by
      rw [rI2, if_neg (by omega), rI2, if_neg (by omega), rI2, if_pos rfl]
    have z8 : ∀ F G H, (rowI (rowI (rowI S8 t F) (t + 8) G) (t + 9) H).2.1 (t + 8) = G := fun F G H => by
      rw [rI2, if_neg (by omega), rI2, if_pos rfl]
    have z9 : ∀ F G H, (rowI (rowI (rowI S8 t F) (t + 8) G) (t + 9) H).2.1 (t + 9) = H := fun F G H => by
      rw [rI2, if_pos rfl]
    refine ⟨⟨?_, ?_, ?_, ?_⟩, ?_, fun w hw => ?_, ?_, fun k hk => ?_, fun k hk => ?_⟩
    · rw [z0, upd_n (by decide), upd_n (by decide), upd_n (by decide), upd_s]; exact f2
    · rw [z0, upd_n (by decide), upd_n (by decide), upd_s]; exact f3
    · rw [z0, upd_n (by decide), upd_s]; exact f4
    · rw [z0, upd_s]; exact f5
    · rw [z _ (by omega) (by omega) (by omega), r8 _ (by omega), hS4]
      show (if t + 1 = t + 1 then _ else _) = _
      rw [if_pos rfl]
    · rw [z _ (by omega) (by omega) (by omega), r8 _ (by omega), hS4]
      show (if t + 2 = t + 1 then _ else S1.2.1 (t + 2)) w = _
      rw [if_neg (by omega)]
      exact b2.2.2.2.2.2 w hw
    · rw [z _ (by omega) (by omega) (by omega), z _ (by omega) (by omega) (by omega), z _ (by omega) (by omega) (by omega), z _ (by omega) (by omega) (by omega), z _ (by omega) (by omega) (by omega)]
      exact d3
    · rw [z8, cpy_at hk]; exact hgv k hk
    · rw [z9, cpy_at (by omega)]; exact hch k hk
/-- where a state stands -/
def stl (s : Nat) : Bool := s == 13 || (decide (25 ≤ s) && decide (s < 185) && (s - 25) % 10 == 0) || s == 195 || s == 206
theorem stl_k1 : ∀ s, s < 233 → stl s = true → s + 9 < 233 ∧ kd s = 5 := by decide +kernel
theorem stl_k2 : ∀ s, s < 233 → stl s = true → kd (s + 1) = 4 ∧ kd (s + 2) = 10 ∧ ln (s + 2) = 8 := by decide +kernel
theorem stl_k3 : ∀ s, s < 233 → stl s = true → kd (s + 3) = 7 := by decide +kernel
theorem stl_k4 : ∀ s, s < 233 → ∀ j, j < 5 → stl s = true → 1 ≤ j → kd (s + 3 + j) = 10 ∧ ln (s + 3 + j) = 16 := by decide +kernel
theorem stl_k5 : ∀ s, s < 233 → stl s = true → kd (s + 8) = 10 ∧ ln (s + 8) = 8 := by decide +kernel
theorem stl_k6 : ∀ s, s < 233 → stl s = true → kd (s + 9) = 10 ∧ ln (s + 9) = 6 := by decide +kernel
theorem stl_r1 : ∀ s, s < 233 → stl s = true → RF 2 s 0 = some (s + 1) ∧ RF 2 s 1 = some (s + 3) := by decide +kernel
theorem stl_r2 : ∀ s, s < 233 → stl s = true → RF 2 s 6 = some (s + 8) ∧ RF 2 s 7 = some (s + 9) := by decide +kernel
theorem stl_r3 : ∀ s, s < 233 → stl s = true → RF 2 (s + 1) 7 = some (s + 2) := by decide +kernel
theorem stl_r4 : ∀ s, s < 233 → ∀ j, j < 5 → stl s = true → 1 ≤ j → RF 2 (s + 3) (j + 1) = some (s + 3 + j) := by decide +kernel
theorem stl_q1 : ∀ s, s < 233 → stl s = true → RF 8 s 0 = some (s + 1) ∧ RF 8 s 1 = some (s + 3) := by decide +kernel
theorem stl_q2 : ∀ s, s < 233 → stl s = true → RF 8 s 6 = some (s + 8) ∧ RF 8 s 7 = some (s + 9) := by decide +kernel
theorem stl_q3 : ∀ s, s < 233 → stl s = true → RF 8 (s + 1) 7 = some (s + 2) := by decide +kernel
theorem stl_q4 : ∀ s, s < 233 → ∀ j, j < 5 → stl s = true → 1 ≤ j → RF 8 (s + 3) (j + 1) = some (s + 3 + j) := by decide +kernel
theorem stk_ {S : Mem} {p s : Nat} (hR : rfC S p) (h : s < 233) (hs : stl s = true) : STk S s := by
  obtain ⟨k1, k2⟩ := stl_k1 s h hs
  obtain ⟨k3, k4, k5⟩ := stl_k2 s h hs
  have k6 := stl_k3 s h hs
  have k7 := stl_k4 s h
  have k8 := stl_k5 s h hs
  have k9 := stl_k6 s h hs
  have e : RF p s 0 = some (s + 1) ∧ RF p s 1 = some (s + 3) ∧ RF p s 6 = some (s + 8) ∧ RF p s 7 = some (s + 9) ∧ RF p (s + 1) 7 = some (s + 2) ∧ ∀ j, j < 5 → 1 ≤ j → RF p (s + 3) (j + 1) = some (s + 3 + j) := by
    rcases hR.2.1 with rfl | rfl
    · exact ⟨(stl_r1 s h hs).1, (stl_r1 s h hs).2, (stl_r2 s h hs).1, (stl_r2 s h hs).2, stl_r3 s h hs, fun j h1 h2 => stl_r4 s h j h1 hs h2⟩
    · exact ⟨(stl_q1 s h hs).1, (stl_q1 s h hs).2, (stl_q2 s h hs).1, (stl_q2 s h hs).2, stl_q3 s h hs, fun j h1 h2 => stl_q4 s h j h1 hs h2⟩
  obtain ⟨e0, e1, e6, e7, e8, e9⟩ := e
  have hS := hR.1
  refine ⟨by omega, k2, ⟨by omega, k3, k4, k5, ?_⟩, ⟨by omega, k6, fun j h1 h2 => ⟨(k7 j (by omega) hs h1).1, (k7 j (by omega) hs h1).2, ?_⟩⟩, k8, k9, ?_, ?_, ?_, ?_⟩
  · rw [hR.2.2 _ (by omega) 7 (by omega)]; exact e8
  · rw [hR.2.2 _ (by omega) (j + 1) (by omega)]; exact e9 j (by omega) h1
  · rw [hR.2.2 _ (by omega) 0 (by omega)]; exact e0
  · rw [hR.2.2 _ (by omega) 1 (by omega)]; exact e1
  · rw [hR.2.2 _ (by omega) 6 (by omega)]; exact e6
  · rw [hR.2.2 _ (by omega) 7 (by omega)]; exact e7
