/-! how many bits, of a long -/
theorem and_split (k a M r : Nat) (hr : r < 2 ^ k) : a &&& (2 ^ k * M + r) = 2 ^ k * ((a / 2 ^ k) &&& M) + ((a % 2 ^ k) &&& r) := by
  have hl : (a % 2 ^ k) &&& r < 2 ^ k := Nat.lt_of_le_of_lt Nat.and_le_right hr
  apply Nat.eq_of_testBit_eq
  intro i
  rw [Nat.testBit_and, Nat.testBit_two_pow_mul_add _ hr, Nat.testBit_two_pow_mul_add _ hl]
  by_cases h : i < k
  · rw [if_pos h, if_pos h, Nat.testBit_and, Nat.testBit_mod_two_pow]; simp [h]
  · rw [if_neg h, if_neg h, Nat.testBit_and, Nat.testBit_div_two_pow, show i - k + k = i by omega]
def rpB (b : Nat) : Nat → Nat
  | 0 => 0
  | j + 1 => 256 * rpB b j + b
def swA (j s : Nat) : Nat := s - ((s / 2) &&& rpB 85 j)
def swB (j s : Nat) : Nat := (s &&& rpB 51 j) + ((s / 4) &&& rpB 51 j)
def swC (j s : Nat) : Nat := (s + s / 16) &&& rpB 15 j
def by1 (c : Nat) : Nat := c - ((c / 2) &&& 85)
def by2 (c : Nat) : Nat := (c &&& 51) + ((c / 4) &&& 51)
theorem k_a : ∀ t, t < 2 → ∀ c, c < 128 → (128 * t + c) &&& 85 = c &&& 85 := by decide +kernel
theorem k_b : ∀ t, t < 4 → ∀ c, c < 64 → (64 * t + c) &&& 51 = c &&& 51 := by decide +kernel
theorem k_c : ∀ c, c < 256 → by2 (by1 c) ≤ 68 ∧ by2 (by1 c) % 16 ≤ 4 ∧ by2 (by1 c) / 16 ≤ 4 ∧ (by2 (by1 c) + by2 (by1 c) / 16) % 16 = pcf 8 c := by decide +kernel
theorem swA_s {j t c : Nat} (hc : c < 256) : swA (j + 1) (256 * t + c) = 256 * swA j t + by1 c := by
  unfold swA by1
  have h1 := and_split 8 ((256 * t + c) / 2) (rpB 85 j) 85 (by decide)
  have e : rpB 85 (j + 1) = 2 ^ 8 * rpB 85 j + 85 := rfl
  rw [e, h1, show (256 * t + c) / 2 / 2 ^ 8 = t / 2 by omega, show (256 * t + c) / 2 % 2 ^ 8 = 128 * (t % 2) + c / 2 by omega, k_a (t % 2) (by omega) (c / 2) (by omega)]
  have := Nat.and_le_left (n := t / 2) (m := rpB 85 j)
  have := Nat.and_le_left (n := c / 2) (m := 85)
  omega
theorem by1_lt {c : Nat} (hc : c < 256) : by1 c < 256 := by unfold by1; omega
theorem swB_s {j t c : Nat} (hc : c < 256) : swB (j + 1) (256 * t + c) = 256 * swB j t + by2 c := by
  unfold swB by2
  have h1 := and_split 8 (256 * t + c) (rpB 51 j) 51 (by decide)
  have h2 := and_split 8 ((256 * t + c) / 4) (rpB 51 j) 51 (by decide)
  have e : rpB 51 (j + 1) = 2 ^ 8 * rpB 51 j + 51 := rfl
  rw [e, h1, h2, show (256 * t + c) / 2 ^ 8 = t by omega, show (256 * t + c) % 2 ^ 8 = c by omega, show (256 * t + c) / 4 / 2 ^ 8 = t / 4 by omega, show (256 * t + c) / 4 % 2 ^ 8 = 64 * (t % 4) + c / 4 by omega, k_b (t % 4) (by omega) (c / 4) (by omega)]
  omega
/-- the sums of the bytes -/
def swS : Nat → Nat → Nat
  | 0, _ => 0
  | j + 1, s => 256 * swS j (s / 256) + pcf 8 (s % 256)
theorem swB_m : ∀ (j s : Nat), swB j (swA j s) % 16 ≤ 4
  | 0, s => by simp [swB, rpB]
  | j + 1, s => by
    have e : 256 * (s / 256) + s % 256 = s := by omega
    have hc : s % 256 < 256 := Nat.mod_lt _ (by decide)
    rw [← e, swA_s hc, swB_s (by1_lt hc)]
    have := (k_c _ hc).2.1
    omega
theorem swC_s : ∀ (j s : Nat), swC j (swB j (swA j s)) = swS j s
  | 0, s => by simp [swC, swS, rpB]
  | j + 1, s => by
    have hc : s % 256 < 256 := Nat.mod_lt _ (by decide)
    have e : swA (j + 1) s = 256 * swA j (s / 256) + by1 (s % 256) := by
      rw [← swA_s hc, show 256 * (s / 256) + s % 256 = s by omega]
    rw [e, swB_s (by1_lt hc), swS, ← swC_s j (s / 256)]
    obtain ⟨k1, k2, k3, k4⟩ := k_c _ hc
    have hm := swB_m j (s / 256)
    generalize swB j (swA j (s / 256)) = b at hm ⊢
    generalize by2 (by1 (s % 256)) = q at k1 k2 k3 k4 ⊢
    unfold swC
    have er : rpB 15 (j + 1) = 2 ^ 8 * rpB 15 j + 15 := rfl
    rw [er, and_split 8 _ _ 15 (by decide), show (256 * b + q + (256 * b + q) / 16) / 2 ^ 8 = b + b / 16 by omega, and15, show (256 * b + q + (256 * b + q) / 16) % 2 ^ 8 % 16 = (q + q / 16) % 16 by omega, k4]
theorem pcf_add : ∀ m n k, pcf (m + n) k = pcf m (k % 2 ^ m) + pcf n (k / 2 ^ m)
  | 0, n, k => by simp [pcf]
  | m + 1, n, k => by
    rw [show m + 1 + n = m + n + 1 by omega, pcf, pcf_add m n (k / 2), pcf, Nat.div_div_eq_div_mul, show 2 * 2 ^ m = 2 ^ (m + 1) by rw [Nat.pow_succ]; omega]
    have h1 : k % 2 ^ (m + 1) % 2 = k % 2 := by rw [Nat.pow_succ', Nat.mod_mul_right_mod]
    have h2 : k % 2 ^ (m + 1) / 2 = k / 2 % 2 ^ m := by rw [Nat.pow_succ', Nat.mod_mul_right_div_self]
    rw [h1, h2]; omega
theorem swS_8 (s : Nat) : ∃ p0 p1 p2 p3 p4 p5 p6 p7 : Nat, p0 ≤ 8 ∧ p1 ≤ 8 ∧ p2 ≤ 8 ∧ p3 ≤ 8 ∧ p4 ≤ 8 ∧ p5 ≤ 8 ∧ p6 ≤ 8 ∧ p7 ≤ 8 ∧ swS 8 s = p0 + 256 * (p1 + 256 * (p2 + 256 * (p3 + 256 * (p4 + 256 * (p5 + 256 * (p6 + 256 * p7)))))) ∧ pcf 64 s = p0 + p1 + p2 + p3 + p4 + p5 + p6 + p7 := by
  have a : ∀ n k, pcf (8 + n) k = pcf 8 (k % 256) + pcf n (k / 256) := fun n k => pcf_add 8 n k
  have b : pcf 64 s = pcf 8 (s % 256) + (pcf 8 (s / 256 % 256) + (pcf 8 (s / 256 / 256 % 256) + (pcf 8 (s / 256 / 256 / 256 % 256) + (pcf 8 (s / 256 / 256 / 256 / 256 % 256) + (pcf 8 (s / 256 / 256 / 256 / 256 / 256 % 256) + (pcf 8 (s / 256 / 256 / 256 / 256 / 256 / 256 % 256) + (pcf 8 (s / 256 / 256 / 256 / 256 / 256 / 256 / 256 % 256) + pcf 0 (s / 256 / 256 / 256 / 256 / 256 / 256 / 256 / 256)))))))) := by
    rw [show (64 : Nat) = 8 + (8 + (8 + (8 + (8 + (8 + (8 + (8 + 0))))))) from rfl, a, a, a, a, a, a, a, a]
  have e : swS 8 s = 256 * (256 * (256 * (256 * (256 * (256 * (256 * (256 * 0 + pcf 8 (s / 256 / 256 / 256 / 256 / 256 / 256 / 256 % 256)) + pcf 8 (s / 256 / 256 / 256 / 256 / 256 / 256 % 256)) + pcf 8 (s / 256 / 256 / 256 / 256 / 256 % 256)) + pcf 8 (s / 256 / 256 / 256 / 256 % 256)) + pcf 8 (s / 256 / 256 / 256 % 256)) + pcf 8 (s / 256 / 256 % 256)) + pcf 8 (s / 256 % 256)) + pcf 8 (s % 256) := by
    rw [swS, swS, swS, swS, swS, swS, swS, swS, swS]
  have z : pcf 0 (s / 256 / 256 / 256 / 256 / 256 / 256 / 256 / 256) = 0 := rfl
  rw [z] at b
  refine ⟨_, _, _, _, _, _, _, _, pcf_le 8 (s % 256), pcf_le 8 (s / 256 % 256), pcf_le 8 (s / 256 / 256 % 256), pcf_le 8 (s / 256 / 256 / 256 % 256), pcf_le 8 (s / 256 / 256 / 256 / 256 % 256), pcf_le 8 (s / 256 / 256 / 256 / 256 / 256 % 256), pcf_le 8 (s / 256 / 256 / 256 / 256 / 256 / 256 % 256), pcf_le 8 (s / 256 / 256 / 256 / 256 / 256 / 256 / 256 % 256), ?_, ?_⟩
  · rw [e]
    generalize pcf 8 (s / 256 / 256 / 256 / 256 / 256 / 256 / 256 % 256) = x7
    generalize pcf 8 (s / 256 / 256 / 256 / 256 / 256 / 256 % 256) = x6
    generalize pcf 8 (s / 256 / 256 / 256 / 256 / 256 % 256) = x5
    generalize pcf 8 (s / 256 / 256 / 256 / 256 % 256) = x4
    generalize pcf 8 (s / 256 / 256 / 256 % 256) = x3
    generalize pcf 8 (s / 256 / 256 % 256) = x2
    generalize pcf 8 (s / 256 % 256) = x1
    generalize pcf 8 (s % 256) = x0
    clear b e
    simp only [Nat.mul_zero, Nat.zero_add, Nat.add_zero, Nat.add_comm]
  · rw [b, Nat.add_zero]
    simp only [Nat.add_assoc]
theorem dv_l {a b X : Nat} (h : a < b) : (a + b * X) / b = X := by
  rw [Nat.add_mul_div_left _ _ (by omega), Nat.div_eq_of_lt h, Nat.zero_add]
theorem sw_sum {p0 p1 p2 p3 p4 p5 p6 p7 C : Nat} (h0 : p0 ≤ 8) (h1 : p1 ≤ 8) (h2 : p2 ≤ 8) (h3 : p3 ≤ 8) (h4 : p4 ≤ 8) (h5 : p5 ≤ 8) (h6 : p6 ≤ 8) (h7 : p7 ≤ 8) (hC : C = p0 + 256 * (p1 + 256 * (p2 + 256 * (p3 + 256 * (p4 + 256 * (p5 + 256 * (p6 + 256 * p7))))))) :
    C < 2 ^ 60 ∧ C + C / 256 < 2 ^ 61 ∧ C + C / 256 + (C + C / 256) / 65536 < 2 ^ 62 ∧ (C + C / 256 + (C + C / 256) / 65536 + (C + C / 256 + (C + C / 256) / 65536) / 4294967296) % 128 = p0 + p1 + p2 + p3 + p4 + p5 + p6 + p7 := by
  have lC : C < 2 ^ 60 := by omega
  have d1 : C / 256 = p1 + 256 * (p2 + 256 * (p3 + 256 * (p4 + 256 * (p5 + 256 * (p6 + 256 * p7))))) := by rw [hC]; exact dv_l (by omega)
  have eD : C + C / 256 = ((p0 + p1) + 256 * (p1 + p2)) + 65536 * ((p2 + p3) + 256 * (p3 + p4) + 65536 * ((p4 + p5) + 256 * (p5 + p6) + 65536 * ((p6 + p7) + 256 * p7))) := by rw [d1, hC]; clear d1 lC hC; omega
  have lD : C + C / 256 < 2 ^ 61 := by
    have := Nat.div_le_self C 256; omega
  have d2 : (C + C / 256) / 65536 = (p2 + p3) + 256 * (p3 + p4) + 65536 * ((p4 + p5) + 256 * (p5 + p6) + 65536 * ((p6 + p7) + 256 * p7)) := by rw [eD]; exact dv_l (by clear d1 eD lC lD hC; omega)
  have lE : C + C / 256 + (C + C / 256) / 65536 < 2 ^ 62 := by
    have := Nat.div_le_self (C + C / 256) 65536; omega
  have eE : C + C / 256 + (C + C / 256) / 65536 = ((p0 + p1 + p2 + p3) + 256 * (p1 + p2 + p3 + p4) + 65536 * ((p2 + p3 + p4 + p5) + 256 * (p3 + p4 + p5 + p6))) + 4294967296 * ((p4 + p5 + p6 + p7) + 256 * (p5 + p6 + p7) + 65536 * ((p6 + p7) + 256 * p7)) := by
    rw [d2, eD]; clear d1 d2 eD lC lD lE hC; omega
  have d3 : (C + C / 256 + (C + C / 256) / 65536) / 4294967296 = (p4 + p5 + p6 + p7) + 256 * (p5 + p6 + p7) + 65536 * ((p6 + p7) + 256 * p7) := by rw [eE]; exact dv_l (by clear d1 d2 eD eE lC lD lE hC; omega)
  refine ⟨lC, lD, lE, ?_⟩
  rw [d3, eE]
  have eF : ((p0 + p1 + p2 + p3) + 256 * (p1 + p2 + p3 + p4) + 65536 * ((p2 + p3 + p4 + p5) + 256 * (p3 + p4 + p5 + p6))) + 4294967296 * ((p4 + p5 + p6 + p7) + 256 * (p5 + p6 + p7) + 65536 * ((p6 + p7) + 256 * p7)) + ((p4 + p5 + p6 + p7) + 256 * (p5 + p6 + p7) + 65536 * ((p6 + p7) + 256 * p7)) = (p0 + p1 + p2 + p3 + p4 + p5 + p6 + p7) + 128 * (2 * (p1 + p2 + p3 + p4) + 512 * ((p2 + p3 + p4 + p5) + 256 * (p3 + p4 + p5 + p6)) + 33554432 * ((p4 + p5 + p6 + p7) + 256 * (p5 + p6 + p7) + 65536 * ((p6 + p7) + 256 * p7)) + 2 * (p5 + p6 + p7) + 512 * ((p6 + p7) + 256 * p7)) := by
    clear d1 d2 d3 eD eE lC lD lE hC; omega
  rw [eF, Nat.add_mul_mod_self_left, Nat.mod_eq_of_lt (by clear d1 d2 d3 eD eE eF lC lD lE hC; omega)]
theorem us_l {s k : Nat} (hs : s < 2 ^ 64) (hk : k < 64) : usJ (lN s) (nI k) = lN (s / 2 ^ k) := wb_shr hs hk
theorem swA_le (j s : Nat) : swA j s ≤ s := Nat.sub_le _ _
theorem c_bc64 {s : Nat} (hs : s < 2 ^ 64) : f_J13_bitCount_95d88 (lN s) = nI (pcf 64 s) := by
  have m1 : (6148914691236517205 : Int64) = lN (rpB 85 8) := by decide +kernel
  have m2 : (3689348814741910323 : Int64) = lN (rpB 51 8) := by decide +kernel
  have m4 : (1085102592571150095 : Int64) = lN (rpB 15 8) := by decide +kernel
  obtain ⟨p0, p1, p2, p3, p4, p5, p6, p7, h0, h1, h2, h3, h4, h5, h6, h7, hC, hp⟩ := swS_8 s
  obtain ⟨s0, s1, s2, s3⟩ := sw_sum h0 h1 h2 h3 h4 h5 h6 h7 hC
  have la := swA_le 8 s
  have b51 : rpB 51 8 < 2 ^ 62 := by decide +kernel
  have eA : lN s - (usJ (lN s) (1 : Int32) &&& (6148914691236517205 : Int64)) = lN (swA 8 s) := by
    rw [zi 1, us_l hs (by decide), m1, fb_andL, lN_sub]
    · rfl
    · have := Nat.and_le_left (n := s / 2 ^ 1) (m := rpB 85 8); omega
  have eB : (lN (swA 8 s) &&& (3689348814741910323 : Int64)) + (usJ (lN (swA 8 s)) (2 : Int32) &&& (3689348814741910323 : Int64)) = lN (swB 8 (swA 8 s)) := by
    rw [zi 2, us_l (by omega) (by decide), m2, fb_andL, fb_andL, lN_add]; rfl
  have lb : swB 8 (swA 8 s) < 2 ^ 63 := by
    have q1 := Nat.and_le_right (n := swA 8 s) (m := rpB 51 8)
    have q2 := Nat.and_le_right (n := swA 8 s / 4) (m := rpB 51 8)
    unfold swB; omega
  have eC : (lN (swB 8 (swA 8 s)) + usJ (lN (swB 8 (swA 8 s))) (4 : Int32)) &&& (1085102592571150095 : Int64) = lN (swS 8 s) := by
    rw [zi 4, us_l (by omega) (by decide), m4, lN_add, fb_andL, ← swC_s]; rfl
  have eD : lN (swS 8 s) + usJ (lN (swS 8 s)) (8 : Int32) = lN (swS 8 s + swS 8 s / 256) := by
    rw [zi 8, us_l (by omega) (by decide), lN_add]
  have eE : lN (swS 8 s + swS 8 s / 256) + usJ (lN (swS 8 s + swS 8 s / 256)) (16 : Int32) = lN (swS 8 s + swS 8 s / 256 + (swS 8 s + swS 8 s / 256) / 65536) := by
    rw [zi 16, us_l (by omega) (by decide), lN_add]
  have eF : lN (swS 8 s + swS 8 s / 256 + (swS 8 s + swS 8 s / 256) / 65536) + usJ (lN (swS 8 s + swS 8 s / 256 + (swS 8 s + swS 8 s / 256) / 65536)) (32 : Int32) = lN (swS 8 s + swS 8 s / 256 + (swS 8 s + swS 8 s / 256) / 65536 + (swS 8 s + swS 8 s / 256 + (swS 8 s + swS 8 s / 256) / 65536) / 4294967296) := by
    rw [zi 32, us_l (by omega) (by decide), lN_add]
  unfold f_J13_bitCount_95d88
  rw [eA, eB, eC, eD, eE, eF, lN_i, show (127 : Int32) = nI (2 ^ 7 - 1) from rfl, fa_mask, hp]
  exact congrArg nI s3
theorem pcf_ct : ∀ n k, pcf n k = fb_ct (fun i => k.testBit i) n
  | 0, _ => rfl
  | n + 1, k => by
    rw [pcf, pcf_ct n (k / 2), show n + 1 = 1 + n by omega, fb_ct_split]
    have e : fb_ct (fun i => (k / 2).testBit i) n = fb_ct (fun i => k.testBit (1 + i)) n := fb_ct_cong (fun i _ => by rw [show 1 + i = i + 1 by omega, Nat.testBit_succ])
    rw [e]
    have : fb_ct (fun i => k.testBit i) 1 = k % 2 := by
      rw [fb_ct_succ]
      show 0 + (if k.testBit 0 then 1 else 0) = _
      rw [Nat.testBit_zero]
      rcases Nat.mod_two_eq_zero_or_one k with h | h <;> simp [h]
    omega
theorem pc_sto {g : Nat → Bool} : pcf 64 (sto g 64) = fb_ct g 64 := by
  rw [pcf_ct]
  exact fb_ct_cong (fun i hi => by rw [sto_bit]; simp [hi])
