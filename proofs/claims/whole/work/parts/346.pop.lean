/-! how many bits -/
def pcf : Nat → Nat → Nat
  | 0, _ => 0
  | n + 1, k => k % 2 + pcf n (k / 2)
theorem pcf_le : ∀ n k, pcf n k ≤ n
  | 0, _ => Nat.le_refl _
  | n + 1, k => by have := pcf_le n (k / 2); rw [pcf]; omega
theorem pcf_0 : ∀ n k, k < 2 ^ n → pcf n k = 0 → k = 0
  | 0, k, h, _ => by simpa using h
  | n + 1, k, h, e => by
    rw [pcf] at e
    have := pcf_0 n (k / 2) (by rw [Nat.pow_succ] at h; omega) (by omega)
    omega
theorem pcf_z : ∀ n, pcf n 0 = 0
  | 0 => rfl
  | n + 1 => by rw [pcf, Nat.zero_div, pcf_z n]
theorem and_odd (m : Nat) : (2 * m + 1) &&& (2 * m) = 2 * m := by
  apply Nat.eq_of_testBit_eq
  intro i
  rw [Nat.testBit_and]
  cases i with
  | zero => simp [Nat.testBit_zero]
  | succ i => simp [Nat.testBit_succ, show (2 * m + 1) / 2 = m by omega]
theorem and_even (m z : Nat) : (2 * m) &&& (2 * z + 1) = 2 * (m &&& z) := by
  apply Nat.eq_of_testBit_eq
  intro i
  rw [Nat.testBit_and]
  cases i with
  | zero => simp [Nat.testBit_zero]
  | succ i => simp [Nat.testBit_succ, show (2 * z + 1) / 2 = z by omega]
theorem pcf_dec : ∀ n k, k < 2 ^ n → 0 < k → pcf n (k &&& (k - 1)) + 1 = pcf n k
  | 0, k, h, h0 => by simp at h; omega
  | n + 1, k, h, h0 => by
    rw [Nat.pow_succ] at h
    rcases Nat.mod_two_eq_zero_or_one k with e | e
    · obtain ⟨m, rfl⟩ : ∃ m, k = 2 * m := ⟨k / 2, by omega⟩
      have e1 : 2 * m - 1 = 2 * (m - 1) + 1 := by omega
      have := pcf_dec n m (by omega) (by omega)
      rw [e1, and_even, pcf, pcf, Nat.mul_div_cancel_left _ (by omega), Nat.mul_div_cancel_left _ (by omega)]
      omega
    · obtain ⟨m, rfl⟩ : ∃ m, k = 2 * m + 1 := ⟨k / 2, by omega⟩
      rw [Nat.add_sub_cancel, and_odd, pcf, pcf, Nat.mul_div_cancel_left _ (by omega), show (2 * m + 1) / 2 = m by omega]
      omega
theorem m_many_b : ∀ c k fu a, pcf 12 k = c → k < 4096 → c < fu → f_X9_many_b4 fu (nI a) (nI k) = some (nI (a + c)) := by
  intro c
  induction c with
  | zero =>
    intro k fu a h1 h2 h3
    obtain ⟨fu, rfl⟩ : ∃ z, fu = z + 1 := ⟨fu - 1, by omega⟩
    have := pcf_0 12 k h2 h1
    subst this
    rw [f_X9_many_b4]
    exact bp rfl rfl
  | succ c ih =>
    intro k fu a h1 h2 h3
    obtain ⟨fu, rfl⟩ : ∃ z, fu = z + 1 := ⟨fu - 1, by omega⟩
    have k0 : 0 < k := by
      rcases Nat.eq_zero_or_pos k with z | z
      · subst z; rw [pcf_z] at h1; omega
      · exact z
    have hd := pcf_dec 12 k h2 k0
    have hl : k &&& (k - 1) < 4096 := Nat.lt_of_le_of_lt Nat.and_le_left h2
    rw [f_X9_many_b4]
    refine bn (nI_ne0 k0 (by omega)) ?_
    rw [Option.bind_some, Option.bind_some]
    obtain ⟨z, rfl⟩ : ∃ z, k = z + 1 := ⟨k - 1, by omega⟩
    rw [nI_pred, z_and, nI_1]
    rw [Nat.add_sub_cancel] at hd hl
    rw [ih _ fu (a + 1) (by omega) hl (by omega)]
    congr 2; omega
theorem m_many {k : Nat} (h : k < 4096) : f_X9_many (nI k) = some (nI (pcf 12 k)) := by
  have := pcf_le 12 k
  unfold f_X9_many
  rw [zi 0, m_many_b _ k FU 0 rfl h (by unfold FU; omega), Nat.zero_add]
theorem bc_ab : ∀ a, a < 64 → ∀ b, b < 64 → f_J6_bitCount_0f7a4 (nI (64 * a + b)) = nI (pcf 12 (64 * a + b)) := by decide +kernel
theorem c_bc {k : Nat} (h : k < 4096) : f_J6_bitCount_0f7a4 (nI k) = nI (pcf 12 k) := by
  have := bc_ab (k / 64) (by omega) (k % 64) (Nat.mod_lt _ (by decide))
  rwa [Nat.div_add_mod] at this
/-- of two sets, the class says which is better -/
theorem c_better {k b : Nat} (hk : k < 4096) (hb : b < 4096) : f_X8_isBetterSet (nI k) (nI b) = some (nI (if pcf 12 k < pcf 12 b ∨ (pcf 12 k = pcf 12 b ∧ k < b) then 1 else 0)) := by
  have l1 := pcf_le 12 k
  have l2 := pcf_le 12 b
  unfold f_X8_isBetterSet f_X8_isBetterSet_b32
  rw [if_neg (show ¬ nI b = (-1 : Int32) from z_nem1 (by omega)), Option.bind_some, Option.bind_some, c_bc hk, c_bc hb]
  by_cases q : pcf 12 k < pcf 12 b
  · rw [if_pos (nI_lt q (by omega)), if_pos (Or.inl q)]; rfl
  · rw [if_neg (nI_nlt (by omega) (by omega))]
    by_cases e : pcf 12 k = pcf 12 b
    · rw [if_pos (by rw [e])]
      by_cases z : b ≤ k
      · rw [if_pos (nI_le z (by omega)), if_neg (by omega)]; rfl
      · rw [if_neg (nI_ge (by omega) (by omega)), if_pos (by omega)]; rfl
    · rw [if_neg (fun z => e ((nI_eq (by omega) (by omega)).mp z)), if_neg (by omega)]; rfl
theorem c_better0 {x : Int32} : f_X8_isBetterSet x (-1 : Int32) = some (nI 1) := by
  unfold f_X8_isBetterSet
  rw [if_pos rfl]; rfl
