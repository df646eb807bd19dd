/-! what changes the present -/
theorem muta {S : Mem} {p : Nat} {A : Abs} {m : Nat → Nat} {v : Int32} {F : Option (Int32 × Mem)} {G : Mem → Option (Int32 × Mem)} (hC : IC S p A) (hM : IM S A) (hW : IW A) (hm : gdN A.1.1 m)
    (hF : ∀ S6, f_X3_remember 23 13 S = some S6 → IC S6 p (psh A) → ∃ S7, F = some (v, S7) ∧ fr X13 S6 S7 ∧ StR S7 13 A.1.1 m)
    (hG : ∀ S7 S8, rfC S7 p → IM S7 A → f_X9_notes 216 S7 = some S8 → IM S8 (psh A) → rfC S8 p → RMb S8 A.1.1 → G S7 = some (v, sn S8 m)) :
    ∃ S2, ((ck 8 S 0).bind fun _ => F.bind fun q2 => (ck 9 q2.2 216).bind fun _ => (G q2.2).bind fun q4 => if q2.1 = q4.1 then some q4.2 else none) = some S2 ∧ Inv S2 := by
  obtain ⟨S6, a1, a2, a3⟩ := c_push hC hW
  obtain ⟨S7, b1, b2, b3⟩ := hF S6 a1 a2
  have hR7 := rfC_fr a2.1 b2
  have hM7 := IM_fr hM (fr.tr a3 (lo_13 b2))
  obtain ⟨S8, d1, d2, d3⟩ := m_push hR7 hM7 hW
  have hR8 := rfC_fr hR7 d3
  have hm8 : RMb S8 A.1.1 := RMb_ hR8 d2.1 hW.1
  exact ⟨sn S8 m, pick2 b1 (hG S7 S8 hR7 hM7 d1 d2 hR8 hm8) hC.1.1 hR7.1, Inv_mk (IC_stn a2 b2 b3) (fr.tr d3 sn_hi) (IM_stn d2) (IW_stn (IW_psh hW) hm)⟩
theorem c_wbX {s k : Nat} (hs : s < 2 ^ 31) (hk : k < 31) (x : Int32) : f_X8_withBit (nI s) (nI k) x = some (nI (setb s k (!decide (x = 0)))) := by
  by_cases h : x = 0
  · subst h
    exact c_withBit hs hk false
  · have := c_withBit hs hk true
    unfold f_X8_withBit at this ⊢
    rw [if_neg (by decide)] at this
    rw [if_neg h, this]
    simp [h]
theorem zl_m1 : (-1 : Int64) = lN 18446744073709551615 := by decide +kernel
theorem zl_xor (a b : Nat) : lN a ^^^ lN b = lN (a ^^^ b) := fb_xorL a b
theorem zl_or (a b : Nat) : lN a ||| lN b = lN (a ||| b) := fb_orL a b
theorem m_clr {s k : Nat} (hk : k < 64) : lN s &&& (((1 : Int64) <<< ((nI k).toInt64 &&& 63)) ^^^ (-1 : Int64)) = lN (setb s k false) := by
  rw [zl_m1, zj 1, zl_shl 1 hk, Nat.one_mul, zl_xor, zl_and]
  apply zl_ext
  intro i hi
  rw [setb_bit, Nat.testBit_and, Nat.testBit_xor, Nat.testBit_two_pow, show (18446744073709551615 : Nat) = 2 ^ 64 - 1 from by decide, Nat.testBit_two_pow_sub_one]
  by_cases h : i = k
  · subst h; simp [hi]
  · have h' : ¬ k = i := fun q => h q.symm
    simp [hi, h, h']
theorem m_set {s k : Nat} (hk : k < 64) : lN s ||| ((1 : Int64) <<< ((nI k).toInt64 &&& 63)) = lN (setb s k true) := by
  rw [zj 1, zl_shl 1 hk, Nat.one_mul, zl_or]; rfl
/-- the model turns a bit -/
theorem m_turns {S7 S8 : Mem} {p f k : Nat} {A : Abs} (hR7 : rfC S7 p) (h1 : f_X9_notes 216 S7 = some S8) (hM : IM S8 (psh A)) (hR : rfC S8 p) (hf : f < 80) (hk : k < 31) (hb : A.1.2.2 f < 2 ^ 31) (x : Int32) :
    f_X9_turns 216 (nI f) (nI k) x S7 = some (nI (if (A.1.2.2 f).testBit k then 1 else 0), sn S8 (va_up A.1.2.2 f (setb (A.1.2.2 f) k (!decide (x = 0))))) := by
  have hS := hR.1
  have hn : S8.2.2.1 220 = LL A.1.2.2 := hM.2.1
  have e1 : S8 = sn S8 A.1.2.2 := (sn_self hn).symm
  have ld : ldJ S8 220 (nI f) = some (lN (A.1.2.2 f)) := ldn_ hS hn hf
  have key : ∀ t0, f_X9_turns_b22 216 (nI f) (nI k) x t0 S8 = some (t0, sn S8 (va_up A.1.2.2 f (setb (A.1.2.2 f) k (!decide (x = 0))))) := by
    intro t0
    unfold f_X9_turns_b22
    by_cases h : x = 0
    · refine bs (R_7 hR) (bp h (bs (R_7 hR) (bs ld ?_)))
      rw [m_clr (by omega), e1, sn_st hS hf]
      simp only [Option.bind_some, h, decide_true, Bool.not_true]
      rw [← e1]
    · refine bs (R_7 hR) (bn h (bs (R_7 hR) (bs ld ?_)))
      rw [m_set (by omega), e1, sn_st hS hf]
      simp only [Option.bind_some, h, decide_false, Bool.not_false]
      rw [← e1]
  unfold f_X9_turns
  refine bs (mck hR7.1) (bs h1 (bs (R_7 hR) (bs ld (bs (m_has (by omega) (by omega)) ?_))))
  cases hb : (A.1.2.2 f).testBit k with
  | false => exact bp nI00 (key _)
  | true => exact bn nI10 (key _)
def slI (k : Nat) : Nat := if k = 0 then 0 else if k = 2 then 3 else if k = 5 then 4 else 5
theorem slF_k {P : Pal} {n : Nat → Nat} {k v : Nat} (hr : rms P ≤ 8) (hk : k = 0 ∨ k = 2 ∨ k = 5 ∨ k = 6) : upd (slF P n) k (nI v) = slF P (va_up n (slI k) v) := by
  have hs : slI k = 0 ∨ slI k = 3 ∨ slI k = 4 ∨ slI k = 5 := by unfold slI; split <;> (try split) <;> (try split) <;> omega
  have e1 : noiN P (va_up n (slI k) v) = noiN P n := noi_up hr (by omega)
  have e2 : cntN P (va_up n (slI k) v) = cntN P n := cnt_up hr (by omega)
  rcases hk with rfl | rfl | rfl | rfl
  · funext j
    by_cases h : j = 0
    · subst h; rw [upd_s]; rfl
    · rw [upd_n h]
      unfold slF
      rw [e1, e2]
      simp only [h, if_false]
      rfl
  · funext j
    by_cases h : j = 2
    · subst h; rw [upd_s]; rfl
    · rw [upd_n h]
      unfold slF
      rw [e1, e2]
      simp only [h, if_false]
      rfl
  · funext j
    by_cases h : j = 5
    · subst h; rw [upd_s]; rfl
    · rw [upd_n h]
      unfold slF
      rw [e1, e2]
      simp only [h, if_false]
      rfl
  · funext j
    by_cases h : j = 6
    · subst h; rw [upd_s]; rfl
    · rw [upd_n h]
      unfold slF
      rw [e1, e2]
      simp only [h, if_false]
      rfl
theorem StR_up {S : Mem} {P : Pal} {n : Nat → Nat} {k v : Nat} (h : StR S 13 P n) (h9 : n 9 ≤ 16) (hp : pts P ≤ 6) (hk : k = 0 ∨ k = 3 ∨ k = 4 ∨ k = 5 ∨ (10 ≤ k ∧ k < 18)) : StR (rowI S 14 (slF P (va_up n k v))) 13 P (va_up n k v) := by
  obtain ⟨⟨f2, f3, f4, f5⟩, hs, hbs, hy, hgv, hch⟩ := h
  refine ⟨⟨?_, ?_, ?_, ?_⟩, rfl, fun w hw => ?_, ?_, fun j hj => ?_, fun j hj => ?_⟩
  · rw [up_at, if_neg (by omega)]; exact f2
  · rw [up_at, if_neg (by omega)]; exact f3
  · rw [up_at, if_neg (by omega)]; exact f4
  · rw [up_at, if_neg (by omega)]; exact f5
  · rw [up_at, if_neg (by omega)]; exact hbs w hw
  · exact wy_congr (by rw [up_at, if_neg (by omega)]) (fun j h1 h2 => by rw [up_at, if_neg (by omega)]) h9 hy
  · rw [up_at, if_neg (by omega)]; exact hgv j hj
  · rw [up_at, if_neg (by omega)]; exact hch j hj
theorem gd_up {P : Pal} {n : Nat → Nat} {k v : Nat} (h : ∀ a, a < 8 → n (18 + a) ≤ n 1) (hk : k = 0 ∨ (2 ≤ k ∧ k < 18) ∨ 26 ≤ k) : ∀ a, a < 8 → (va_up n k v) (18 + a) ≤ (va_up n k v) 1 := by
  intro a ha
  rw [up_at, if_neg (by omega), up_at, if_neg (by omega)]
  exact h a ha
