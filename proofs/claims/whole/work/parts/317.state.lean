def PaR (S : Mem) (q : Nat) (P : Pal) : Prop := S.2.1 q 2 = nI (rms P) ∧ S.2.1 q 3 = nI (drs P) ∧ S.2.1 q 4 = nI (pts P) ∧ (∀ d, d < drs P → S.2.1 (q + 1) d = nI (dfr P d)) ∧ (∀ d, d < drs P → S.2.1 (q + 2) d = nI (dto P d)) ∧ (∀ p, p < pts P → S.2.1 (q + 4) p = nI (wor P p))
def StR (S : Mem) (a : Nat) (P : Pal) (n : Nat → Nat) : Prop :=
  (S.2.1 a 2 = nI (n 1) ∧ S.2.1 a 3 = nI (n 6) ∧ S.2.1 a 4 = nI (n 7) ∧ S.2.1 a 5 = nI (n 8)) ∧ S.2.1 (a + 1) = slF P n ∧ (∀ w, w < 8 → S.2.1 (a + 2) w = nI (bes P (n 6) w)) ∧ WyR (S.2.1 (a + 3)) (S.2.1 (a + 4)) (S.2.1 (a + 5)) (S.2.1 (a + 6)) (S.2.1 (a + 7)) P n ∧ (∀ k, k < 8 → S.2.1 (a + 8) k = nI (n (18 + k))) ∧ (∀ k, k < pts P → S.2.1 (a + 9) k = nI (n (26 + k)))
def hm (S : Mem) (v : Nat → Nat) : Mem := rowI S 13 (upd (upd (S.2.1 13) 4 (nI (v 7))) 5 (nI (v 8)))
theorem setb_t (s k : Nat) : setb s k true = s ||| 2 ^ k := rfl
theorem c_hear_b {S : Mem} {p hh : Nat} {P : Pal} {n : Nat → Nat} (hR : rfC S p) (hP : wfP P) (hq : PaR S p P) (hs : S.2.1 14 = slF P n) (hw : wfN P hh n) (hch : ∀ k, k < pts P → S.2.1 22 k = nI (n (26 + k))) : ∀ (m k fu : Nat), pts P = k + m → m < fu → f_X5_hearAll_b2 fu 13 p (nI k) (hm S (heaN P k n)) = some (hm S (heaN P (pts P) n)) := by
  have hS := hR.1
  have hp := hR.2.1
  have hpt := hP.2.2.1
  have hp13 : p ≠ 13 := by omega
  intro m
  induction m with
  | zero =>
    intro k fu hk hf
    obtain ⟨fu, rfl⟩ : ∃ z, fu = z + 1 := ⟨fu - 1, by omega⟩
    have h1 : gI 2 4 (hm S (heaN P k n)) p = some (nI (pts P)) := by
      rw [g_p (S := hm S (heaN P k n)) hS hp]
      show some ((if p = 13 then _ else S.2.1 p) 4) = _
      rw [if_neg hp13, hq.2.2.1]
    rw [f_X5_hearAll_b2, h1, Option.bind_some, if_pos ((nI_leI (by omega) (by omega)).mpr (by omega)), show k = pts P by omega]
  | succ m ih =>
    intro k fu hk hf
    obtain ⟨fu, rfl⟩ : ∃ z, fu = z + 1 := ⟨fu - 1, by omega⟩
    have ih := ih (k + 1) fu (by omega) (by omega)
    have e26 : heaN P k n (26 + k) = n (26 + k) := hea_at _ _ (by omega) (by omega)
    have e2 : heaN P k n 2 = n 2 := hea_at _ _ (by omega) (by omega)
    obtain ⟨w0, w1, w2, w3, w4, w5, w6, w7, w8, w9, wn, wg, wc⟩ := wfb hP (hea_wf hw (k := k) (by omega))
    have wck := wc k (by omega)
    have hwo := hP.2.2.2.2.2 k (by omega)
    have hwr := hq.2.2.2.2.2 k (by omega)
    have hck := hch k (by omega)
    rw [e26] at wck
    rw [e2] at w2
    rw [heaN, hea1, e26, e2] at ih
    generalize heaN P k n = v at *
    have hR' : rfC (hm S v) p := hR
    have hS' : (hm S v).1 = 233 := hS
    have h13 : (hm S v).2.1 13 = upd (upd (S.2.1 13) 4 (nI (v 7))) 5 (nI (v 8)) := rfl
    have hne : ∀ b, b ≠ 13 → (hm S v).2.1 b = S.2.1 b := fun b hb => by show (if b = 13 then _ else _) = _; rw [if_neg hb]
    have g1 : gI 2 4 (hm S v) p = some (nI (pts P)) := by rw [g_p hS' hp, hne p hp13, hq.2.2.1]
    have g2 : ldI (hm S v) 22 (nI k) = some (nI (n (26 + k))) := by rw [ld_22 hS' (by omega), hne 22 (by decide), hck]
    have g3 : gI 4 1 (hm S v) 14 = some (nI (n 2)) := by rw [g_14 hS', hne 14 (by decide), hs, slF_at.2.1]
    have g4 : gI 5 4 (hm S v) 13 = some (nI (v 7)) := by rw [g_13 hS', h13, upd_n (by decide), upd_s]
    have hb := c_bit (s := v 7) (k := k) (by omega) (by omega)
    rw [f_X5_hearAll_b2]
    simp only [g1, g2, g3, g4, r_13_7 hR', r_13_0 hR', Option.bind_some, hb]
    rw [if_neg (fun z => by have := (nI_leI (by omega) (by omega)).mp z; omega)]
    have b70 : f_X5_hearAll_b70 (fun a0 a1 x2 S => f_X5_hearAll_b2 fu a0 a1 x2 S) 13 p (nI k) = fun S => f_X5_hearAll_b2 fu 13 p (nI (k + 1)) S := by
      funext S
      unfold f_X5_hearAll_b70
      rw [Option.bind_some, zi 1, nI_add]
    rw [b70]
    dsimp only
    by_cases q1 : n (26 + k) = n 2
    · rw [if_pos (by rw [q1])]
      by_cases q2 : (v 7).testBit k
      · rw [if_neg (by simp [q2])] at ih
        rw [q2]
        rw [if_neg (by decide)]
        exact ih
      · have q3 : (v 7).testBit k = false := by simpa using q2
        rw [if_pos ⟨q1, q3⟩] at ih
        rw [q3, if_pos (by decide)]
        have hwb := c_withBit (s := v 7) (k := k) (by omega) (by omega) true
        rw [if_pos rfl, setb_t] at hwb
        rw [show (1 : Int32) = nI 1 from rfl, hwb, Option.bind_some, p_13 hS', Option.bind_some, h13]
        generalize hA : rowI (hm S v) 13 (upd (upd (upd (S.2.1 13) 4 (nI (v 7))) 5 (nI (v 8))) 4 (nI (v 7 ||| 2 ^ k))) = A
        have hAR : rfC A p := by rw [← hA]; exact hR
        have hA13 : A.2.1 13 = upd (upd (upd (S.2.1 13) 4 (nI (v 7))) 5 (nI (v 8))) 4 (nI (v 7 ||| 2 ^ k)) := by rw [← hA, rI2, if_pos rfl]
        have g5 : gI 5 5 A 13 = some (nI (v 8)) := by rw [g_13 hAR.1, hA13, upd_n (by decide), upd_s]
        have g6 : ldI A (p + 4) (nI k) = some (nI (wor P k)) := by
          rw [ld_p4 hAR.1 hp (by omega), ← hA, rI2, if_neg (by omega), hne _ (by omega), hwr]
        have m1 : (if nI (v 8) + nI (wor P k) < (999999 : Int32) then nI (v 8) + nI (wor P k) else (999999 : Int32)) = nI (min 999999 (v 8 + wor P k)) := by
          simp (disch := omega) only [zi, nI_add, nI_ltI]
          by_cases q2 : v 8 + wor P k < 999999
          · rw [if_pos q2, show min 999999 (v 8 + wor P k) = v 8 + wor P k by omega]
          · rw [if_neg q2, show min 999999 (v 8 + wor P k) = 999999 by omega]
        rw [g5, Option.bind_some, r_p_10 hAR hp, Option.bind_some, g6, Option.bind_some, m1, p_13 hAR.1, Option.bind_some, hA13]
        have hfin : rowI A 13 (upd (upd (upd (upd (S.2.1 13) 4 (nI (v 7))) 5 (nI (v 8))) 4 (nI (v 7 ||| 2 ^ k))) 5 (nI (min 999999 (v 8 + wor P k)))) = hm S (va_up (va_up v 7 (v 7 ||| 2 ^ k)) 8 (min 999999 (v 8 + wor P k))) := by
          rw [← hA, rII]
          unfold hm
          rw [rII]
          congr 1
          funext j
          rw [va_up_self, va_up_ne _ _ (by decide), va_up_self]
          unfold upd
          by_cases j5 : j = 5
          · subst j5; simp
          · by_cases j4 : j = 4
            · subst j4; simp
            · simp [j5, j4]
        rw [hfin]
        exact ih
    · rw [if_neg (fun q => q1 q.1)] at ih
      rw [if_neg (fun z => q1 ((nI_eq (by omega) (by omega)).mp z))]
      exact ih
theorem c_hear {S : Mem} {p hh : Nat} {P : Pal} {n : Nat → Nat} (hR : rfC S p) (hP : wfP P) (hq : PaR S p P) (hs : S.2.1 14 = slF P n) (hw : wfN P hh n) (hch : ∀ k, k < pts P → S.2.1 22 k = nI (n (26 + k))) (h7 : S.2.1 13 4 = nI (n 7)) (h8 : S.2.1 13 5 = nI (n 8)) : f_X5_hearAll 13 p S = some (hm S (heaN P (pts P) n)) := by
  have := c_hear_b hR hP hq hs hw hch (pts P) 0 FU (by omega) (by have := hP.2.2.1; unfold FU; omega)
  have e : hm S (heaN P 0 n) = S := by
    unfold hm heaN
    have : upd (upd (S.2.1 13) 4 (nI (n 7))) 5 (nI (n 8)) = S.2.1 13 := by
      funext j
      unfold upd
      by_cases j5 : j = 5
      · subst j5; simp [h8]
      · by_cases j4 : j = 4
        · subst j4; simp [h7]
        · simp [j5, j4]
    rw [this]
    exact rI_same
  rw [e] at this
  unfold f_X5_hearAll
  exact this
