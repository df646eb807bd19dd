/-! numbers: ints and longs as naturals -/
theorem shl31 : ∀ k, k < 32 → ((nI k &&& 31).toBitVec.smod 32).toNat = k := by decide +kernel
theorem ush31 : ∀ k, k < 32 → (((nI k).toUInt32 &&& Int32.toUInt32 31).toBitVec % 32).toNat = k := by decide +kernel
theorem z_shl (a : Nat) {k : Nat} (hk : k < 32) : nI a <<< (nI k &&& 31) = nI (a * 2 ^ k) := by
  apply Int32.toBitVec.inj
  apply BitVec.eq_of_toNat_eq
  rw [pk_shl _ _ k (shl31 k hk)]
  show (BitVec.ofNat 32 a).toNat * 2 ^ k % 2 ^ 32 = (BitVec.ofNat 32 (a * 2 ^ k)).toNat
  rw [BitVec.toNat_ofNat, BitVec.toNat_ofNat, Nat.mod_mul_mod]
theorem z_shr {a k : Nat} (ha : a < 2 ^ 31) (hk : k < 32) : nI a >>> (nI k &&& 31) = nI (a / 2 ^ k) := pk_shrN ha _ k (shl31 k hk)
theorem z_ush {a k : Nat} (ha : a < 2 ^ 32) (hk : k < 32) : usI (nI a) (nI k) = nI (a / 2 ^ k) := pk_ushrN ha _ k (ush31 k hk)
theorem z_and (a b : Nat) : nI a &&& nI b = nI (a &&& b) := fa_and a b
theorem z_or (a b : Nat) : nI a ||| nI b = nI (a ||| b) := fa_or a b
theorem z_xor (a b : Nat) : nI a ^^^ nI b = nI (a ^^^ b) := fb_xorI a b
theorem z_rem {a d : Nat} (ha : a < 2 ^ 31) (h0 : 0 < d) (hd : d < 2 ^ 31) : irI (nI a) (nI d) = nI (a % d) := pk_rem ha h0 hd
theorem z_m1 : (-(nI 1)) = nI 4294967295 := by decide +kernel
theorem z_mod (a : Nat) : nI (a % 2 ^ 32) = nI a := by
  apply Int32.toBitVec.inj
  apply BitVec.eq_of_toNat_eq
  show (BitVec.ofNat 32 (a % 2 ^ 32)).toNat = (BitVec.ofNat 32 a).toNat
  rw [BitVec.toNat_ofNat, BitVec.toNat_ofNat, Nat.mod_mod]
theorem z_inj {a b : Nat} (ha : a < 2 ^ 32) (hb : b < 2 ^ 32) : nI a = nI b ↔ a = b := by
  constructor
  · intro h
    have := congrArg (fun x : Int32 => x.toBitVec.toNat) h
    rwa [pk_tn ha, pk_tn hb] at this
  · rintro rfl; rfl
theorem z_ext {a b : Nat} (h : ∀ i, i < 32 → a.testBit i = b.testBit i) : nI a = nI b := by
  rw [← z_mod a, ← z_mod b]
  congr 1
  apply Nat.eq_of_testBit_eq
  intro i
  rw [Nat.testBit_mod_two_pow, Nat.testBit_mod_two_pow]
  by_cases hi : i < 32
  · simp [hi, h i hi]
  · simp [hi]
theorem z_nem1 {a : Nat} (h : a < 2 ^ 31) : ¬ nI a = -(nI 1) := by
  rw [z_m1, z_inj (by omega) (by omega)]; omega
theorem z_nlt0 {a : Nat} (h : a < 2 ^ 31) : ¬ nI a < nI 0 := by
  rw [nI_ltI h (by omega)]; omega
theorem z_cl {a : Nat} (h : a < 2 ^ 31) : (nI a).toNatClampNeg = a := nI_clamp h
/-! longs -/
theorem zl_shl (a : Nat) {k : Nat} (hk : k < 64) : lN a <<< ((nI k).toInt64 &&& 63) = lN (a * 2 ^ k) := wb_shl a hk
theorem zl_63 : ∀ k, k < 64 → (((nI k).toInt64 &&& 63).toBitVec.smod 64).toNat = k := by decide +kernel
theorem zl_shr {a k : Nat} (ha : a < 2 ^ 62) (hk : k < 64) : lN a >>> ((nI k).toInt64 &&& 63) = lN (a / 2 ^ k) := pf_shr (zl_63 k hk) ha
theorem zl_rem {a d : Nat} (ha : a < 2 ^ 63) (h0 : 0 < d) (hd : d < 2 ^ 63) : irJ (lN a) (lN d) = lN (a % d) := pk_lRem ha h0 hd
theorem zl_ext {a b : Nat} (h : ∀ i, i < 64 → a.testBit i = b.testBit i) : lN a = lN b := by
  rw [wb_mod a, wb_mod b]
  congr 1
  apply Nat.eq_of_testBit_eq
  intro i
  rw [Nat.testBit_mod_two_pow, Nat.testBit_mod_two_pow]
  by_cases hi : i < 64
  · simp [hi, h i hi]
  · simp [hi]
theorem lc_eq {a b : Nat} (ha : a < 2 ^ 63) (hb : b < 2 ^ 63) : lg_cmp (lN a) (lN b) = nI 0 ↔ a = b := by
  unfold lg_cmp
  have h1 := pk_lLT hb ha
  have h2 := pk_lEQ ha hb
  by_cases q : b < a
  · rw [if_pos (h1.mpr q)]
    constructor
    · intro h; exact absurd h (by decide)
    · intro h; omega
  · rw [if_neg (fun h => q (h1.mp h))]
    by_cases q2 : a = b
    · rw [if_pos (h2.mpr q2)]; exact ⟨fun _ => q2, fun _ => rfl⟩
    · rw [if_neg (fun h => q2 (h2.mp h))]
      exact ⟨fun h => absurd h (by decide), fun h => absurd h q2⟩
theorem lc_le {a b : Nat} (ha : a < 2 ^ 63) (hb : b < 2 ^ 63) : lg_cmp (lN a) (lN b) ≤ nI 0 ↔ a ≤ b := by
  unfold lg_cmp
  have h1 := pk_lLT hb ha
  have h2 := pk_lEQ ha hb
  by_cases q : b < a
  · rw [if_pos (h1.mpr q)]
    exact ⟨fun h => absurd h (by decide), fun h => by omega⟩
  · rw [if_neg (fun h => q (h1.mp h))]
    refine ⟨fun _ => by omega, fun _ => ?_⟩
    split <;> decide
theorem lc_lt {a b : Nat} (ha : a < 2 ^ 63) (hb : b < 2 ^ 63) : lg_cmp (lN a) (lN b) < nI 0 ↔ a < b := by
  unfold lg_cmp
  have h1 := pk_lLT hb ha
  have h2 := pk_lEQ ha hb
  by_cases q : b < a
  · rw [if_pos (h1.mpr q)]
    exact ⟨fun h => absurd h (by decide), fun h => by omega⟩
  · rw [if_neg (fun h => q (h1.mp h))]
    by_cases q2 : a = b
    · rw [if_pos (h2.mpr q2)]; exact ⟨fun h => absurd h (by decide), fun h => by omega⟩
    · rw [if_neg (fun h => q2 (h2.mp h))]; exact ⟨fun _ => by omega, fun _ => by decide⟩
theorem lc_ge {a b : Nat} (ha : a < 2 ^ 63) (hb : b < 2 ^ 63) : nI 0 ≤ lg_cmp (lN a) (lN b) ↔ b ≤ a := by
  have h := lg_cmp_ge (lN a) (lN b)
  rw [pk_lLE hb ha] at h
  exact h
theorem lc_gt {a b : Nat} (ha : a < 2 ^ 63) (hb : b < 2 ^ 63) : nI 0 < lg_cmp (lN a) (lN b) ↔ b < a := by
  unfold lg_cmp
  have h1 := pk_lLT hb ha
  by_cases q : b < a
  · rw [if_pos (h1.mpr q)]; exact ⟨fun _ => q, fun _ => by decide⟩
  · rw [if_neg (fun h => q (h1.mp h))]
    refine ⟨fun h => ?_, fun h => absurd h q⟩
    split at h <;> exact absurd h (by decide)
/-! sets -/
def setb (s k : Nat) (b : Bool) : Nat := if b then s ||| 2 ^ k else if s.testBit k then s ^^^ 2 ^ k else s
theorem setb_bit (s k : Nat) (b : Bool) (i : Nat) : (setb s k b).testBit i = if i = k then b else s.testBit i := by
  unfold setb
  cases b with
  | true =>
    simp only [if_true, Nat.testBit_or, Nat.testBit_two_pow]
    by_cases h : i = k
    · subst h; simp
    · have h' : ¬ k = i := fun q => h q.symm
      simp [h, h']
  | false =>
    by_cases hk : s.testBit k
    · simp only [hk, if_true, Bool.false_eq_true, if_false, Nat.testBit_xor, Nat.testBit_two_pow]
      by_cases h : i = k
      · subst h; simp [hk]
      · have h' : ¬ k = i := fun q => h q.symm
        simp [h, h']
    · simp only [hk, if_false, Bool.false_eq_true]
      by_cases h : i = k
      · subst h; simp [hk]
      · simp [h]
theorem setb_lt {s k N : Nat} {b : Bool} (hs : s < 2 ^ N) (hk : k < N) : setb s k b < 2 ^ N := by
  have h2 : 2 ^ k < 2 ^ N := Nat.pow_lt_pow_right (by decide) hk
  unfold setb
  split
  · exact Nat.or_lt_two_pow hs h2
  · split
    · exact Nat.xor_lt_two_pow hs h2
    · exact hs
theorem bit01 (s k : Nat) : s / 2 ^ k &&& 1 = if s.testBit k then 1 else 0 := by
  rw [Nat.and_one_is_mod, Nat.testBit_eq_decide_div_mod_eq]
  rcases Nat.mod_two_eq_zero_or_one (s / 2 ^ k) with h | h <;> simp [h]
theorem c_bit {s k : Nat} (hs : s < 2 ^ 31) (hk : k < 32) : f_X8_bit (nI s) (nI k) = nI (if s.testBit k then 1 else 0) := by
  unfold f_X8_bit
  rw [z_shr hs hk, show (1 : Int32) = nI 1 from rfl, z_and, bit01]
theorem c_withBit {s k : Nat} (hs : s < 2 ^ 31) (hk : k < 31) (b : Bool) : f_X8_withBit (nI s) (nI k) (nI (if b then 1 else 0)) = some (nI (setb s k b)) := by
  unfold f_X8_withBit
  cases b with
  | true =>
    rw [if_neg (by decide)]
    rw [show (1 : Int32) = nI 1 from rfl, z_shl 1 (by omega), z_or, Nat.one_mul]
    rfl
  | false =>
    rw [if_pos (by decide)]
    rw [show (1 : Int32) = nI 1 from rfl, z_shl 1 (by omega), Nat.one_mul, z_m1, z_xor, z_and]
    congr 1
    apply z_ext
    intro i hi
    rw [setb_bit, Nat.testBit_and, Nat.testBit_xor, Nat.testBit_two_pow, show (4294967295 : Nat) = 2 ^ 32 - 1 from by decide, Nat.testBit_two_pow_sub_one]
    by_cases h : i = k
    · subst h; simp [hi]
    · have h' : ¬ k = i := fun q => h q.symm
      simp [hi, h, h']
/-! figures of four bits, packed -/
def pn (f : Nat → Nat) : Nat → Nat
  | 0 => 0
  | n + 1 => 2 ^ (4 * n) * f n + pn f n
theorem pn_lt {f : Nat → Nat} (hf : ∀ a, f a < 16) : ∀ n, pn f n < 2 ^ (4 * n)
  | 0 => by simp [pn]
  | n + 1 => by
    have ih := pn_lt hf n
    have h1 := hf n
    have e : 2 ^ (4 * (n + 1)) = 2 ^ (4 * n) * 16 := by rw [show 4 * (n + 1) = 4 * n + 4 from by omega, Nat.pow_add]
    rw [pn, e]
    have : 2 ^ (4 * n) * f n + 2 ^ (4 * n) ≤ 2 ^ (4 * n) * 16 := by
      rw [← Nat.mul_succ]; exact Nat.mul_le_mul_left _ h1
    omega
theorem pn_bit {f : Nat → Nat} (hf : ∀ a, f a < 16) : ∀ n i, (pn f n).testBit i = (decide (i < 4 * n) && (f (i / 4)).testBit (i % 4))
  | 0, i => by simp [pn]
  | n + 1, i => by
    rw [pn, Nat.testBit_two_pow_mul_add _ (pn_lt hf n)]
    by_cases h : i < 4 * n
    · rw [if_pos h, pn_bit hf n i]
      simp [h, show i < 4 * (n + 1) from by omega]
    · rw [if_neg h]
      by_cases h2 : i < 4 * (n + 1)
      · have e1 : i / 4 = n := by omega
        have e2 : i - 4 * n = i % 4 := by omega
        simp [h2, e1, e2]
      · have : f n < 2 ^ (i - 4 * n) := Nat.lt_of_lt_of_le (hf n) (by
          have : 2 ^ 4 ≤ 2 ^ (i - 4 * n) := Nat.pow_le_pow_right (by decide) (by omega)
          omega)
        rw [Nat.testBit_lt_two_pow this]
        simp [h2]
theorem pn_at {f : Nat → Nat} (hf : ∀ a, f a < 16) {n a : Nat} (ha : a < n) : pn f n / 2 ^ (4 * a) % 16 = f a := by
  apply Nat.eq_of_testBit_eq
  intro i
  rw [show (16 : Nat) = 2 ^ 4 from rfl, Nat.testBit_mod_two_pow, Nat.testBit_div_two_pow, pn_bit hf]
  by_cases h : i < 4
  · have e1 : (4 * a + i) / 4 = a := by omega
    have e2 : (4 * a + i) % 4 = i := by omega
    have e3 : i + 4 * a = 4 * a + i := by omega
    simp [h, e1, e2, e3, show 4 * a + i < 4 * n from by omega]
  · have : f a < 2 ^ i := Nat.lt_of_lt_of_le (hf a) (by
      have : 2 ^ 4 ≤ 2 ^ i := Nat.pow_le_pow_right (by decide) (by omega)
      omega)
    rw [Nat.testBit_lt_two_pow this]
    simp [h]
theorem pn_congr {f g : Nat → Nat} : ∀ n, (∀ a, a < n → f a = g a) → pn f n = pn g n
  | 0, _ => rfl
  | n + 1, h => by rw [pn, pn, pn_congr n (fun a ha => h a (by omega)), h n (by omega)]
theorem pn_more {f : Nat → Nat} {n : Nat} : ∀ k, (∀ a, n ≤ a → f a = 0) → pn f (n + k) = pn f n
  | 0, _ => rfl
  | k + 1, h => by rw [← Nat.add_assoc, pn, pn_more k h, h (n + k) (by omega), Nat.mul_zero, Nat.zero_add]
theorem and15 (x : Nat) : x &&& 15 = x % 16 := by
  rw [show (15 : Nat) = 2 ^ 4 - 1 from rfl, Nat.and_two_pow_sub_one_eq_mod]
theorem c_packedAt {f : Nat → Nat} (hf : ∀ a, f a < 16) {a : Nat} (ha : a < 8) : f_X8_packedAt (nI (pn f 8)) (nI a) = nI (f a) := by
  unfold f_X8_packedAt
  have hl : pn f 8 < 2 ^ 32 := pn_lt hf 8
  rw [show (4 : Int32) = nI 4 from rfl, pk_mul, z_ush hl (by omega), show (15 : Int32) = nI 15 from rfl, z_and, and15, pn_at hf ha]
theorem c_withPacked {f : Nat → Nat} (hf : ∀ a, f a < 16) {a v : Nat} (ha : a < 8) (hv : v < 16) : f_X8_withPacked (nI (pn f 8)) (nI a) (nI v) = nI (pn (va_up f a v) 8) := by
  unfold f_X8_withPacked
  have hg : ∀ b, va_up f a v b < 16 := by
    intro b; by_cases h : b = a
    · subst h; rw [va_up_self]; exact hv
    · rw [va_up_ne _ _ h]; exact hf b
  rw [show (4 : Int32) = nI 4 from rfl, pk_mul, show (15 : Int32) = nI 15 from rfl, z_shl 15 (by omega), z_shl v (by omega), show (-1 : Int32) = nI 4294967295 from by decide +kernel, z_xor, z_and, z_or]
  apply z_ext
  intro i hi
  rw [Nat.testBit_or, Nat.testBit_and, Nat.testBit_xor, pn_bit hf, pn_bit hg, Nat.testBit_mul_two_pow, Nat.testBit_mul_two_pow, show (4294967295 : Nat) = 2 ^ 32 - 1 from by decide, Nat.testBit_two_pow_sub_one, show (15 : Nat) = 2 ^ 4 - 1 from rfl, Nat.testBit_two_pow_sub_one]
  by_cases h : i / 4 = a
  · have e1 : 4 * a ≤ i := by omega
    have e2 : i - 4 * a < 4 := by omega
    have e3 : i - 4 * a = i % 4 := by omega
    rw [h, va_up_self]
    simp [hi, e1, e2, e3, show i % 4 < 4 from by omega]
  · rw [va_up_ne _ _ h]
    by_cases h1 : 4 * a ≤ i
    · have e2 : ¬ i - 4 * a < 4 := by omega
      have : v < 2 ^ (i - 4 * a) := Nat.lt_of_lt_of_le hv (by
        have : 2 ^ 4 ≤ 2 ^ (i - 4 * a) := Nat.pow_le_pow_right (by decide) (by omega)
        omega)
      rw [Nat.testBit_lt_two_pow this]
      simp [hi, h1, e2]
    · simp [hi, h1]
