/-! the model is made, and both stand alike -/
def mkF (i : Nat) : Nat := [4, 5, 6, 7, 9, 14, 15, 17, 18, 19, 20, 21, 22, 23, 25, 26].getD i 0
def Mq : Nat → List ((Nat × Nat) × Nat)
  | 0 => Lg
  | i + 1 => ((216, mkF i), 217 + i) :: Mq i
theorem Mq_w : ∀ i, i < 17 → wfL (217 + i) (Mq i) = true := by decide +kernel
theorem mst {i k q n : Nat} (hi : i < 16) (hk : kd (217 + i) = q ∧ ln (217 + i) = n) (h31 : n < 2 ^ 31) (hm : Mq (i + 1) = ((216, k), 217 + i) :: Mq i) {K : Mem → Option Mem} {r : Option Mem} (hK : K (zm (217 + (i + 1)) I1 (Mq (i + 1))) = r) : ((newA q (nI n) (zm (217 + i) I1 (Mq i))).bind fun S1 => (pR 9 k S1 216 (zm (217 + i) I1 (Mq i)).1).bind fun S2 => K S2) = r := by
  refine bs (nA (Mq_w i (by omega)) (zI1 (by omega)) hk.1 hk.2 h31) (bs (a := zm (217 + (i + 1)) I1 (Mq (i + 1))) ?_ hK)
  rw [hm]
  exact zR (by omega) (by decide +kernel)
def I2 : Nat → Nat → Int32 := fun x => if x = 216 then upd (fun _ => 0) 13 (-1) else I1 x
theorem i_X9 : f_X9_init 216 (zm 217 I1 Lg) = some (zm 233 I2 (Mq 16)) := by
  have e : pI 9 13 (zm 233 I1 (Mq 16)) 216 (-1 : Int32) = some (zm 233 I2 (Mq 16)) := if_pos ⟨by decide, by decide +kernel⟩
  unfold f_X9_init
  refine mst (i := 0) (k := 4) (q := 10) (n := 12) (by decide) (by decide +kernel) (by decide) rfl (mst (i := 1) (k := 5) (q := 10) (n := 12) (by decide) (by decide +kernel) (by decide) rfl (mst (i := 2) (k := 6) (q := 10) (n := 6) (by decide) (by decide +kernel) (by decide) rfl (mst (i := 3) (k := 7) (q := 11) (n := 80) (by decide) (by decide +kernel) (by decide) rfl (mst (i := 4) (k := 9) (q := 10) (n := 240) (by decide) (by decide +kernel) (by decide) rfl (mst (i := 5) (k := 14) (q := 10) (n := 56) (by decide) (by decide +kernel) (by decide) rfl (mst (i := 6) (k := 15) (q := 11) (n := 1280) (by decide) (by decide +kernel) (by decide) rfl (mst (i := 7) (k := 17) (q := 11) (n := 80) (by decide) (by decide +kernel) (by decide) rfl ?_)))))))
  exact mst (i := 8) (k := 18) (q := 10) (n := 8) (by decide) (by decide +kernel) (by decide) rfl (mst (i := 9) (k := 19) (q := 12) (n := 64) (by decide) (by decide +kernel) (by decide) rfl (mst (i := 10) (k := 20) (q := 10) (n := 8) (by decide) (by decide +kernel) (by decide) rfl (mst (i := 11) (k := 21) (q := 10) (n := 8) (by decide) (by decide +kernel) (by decide) rfl (mst (i := 12) (k := 22) (q := 10) (n := 101) (by decide) (by decide +kernel) (by decide) rfl (mst (i := 13) (k := 23) (q := 10) (n := 30) (by decide) (by decide +kernel) (by decide) rfl (mst (i := 14) (k := 25) (q := 11) (n := 162) (by decide) (by decide +kernel) (by decide) rfl (mst (i := 15) (k := 26) (q := 12) (n := 2) (by decide) (by decide +kernel) (by decide) rfl (bs e rfl))))))))
/-- the same, one cell at a time -/
def look : List ((Nat × Nat) × Nat) → Nat → Nat → Option Nat
  | [], _ => fun _ => none
  | x :: L, a => if a = x.1.1 then (fun k => if k = x.1.2 then some x.2 else look L a k) else look L a
theorem look_lk {a k : Nat} : ∀ L, lk L a k = look L a k
  | [] => rfl
  | x :: L => by
    show (if a = x.1.1 ∧ k = x.1.2 then some x.2 else lk L a k) = look (x :: L) a k
    rw [look, look_lk L]
    by_cases q : a = x.1.1
    · rw [if_pos q]
      by_cases z : k = x.1.2
      · rw [if_pos ⟨q, z⟩, if_pos z]
      · rw [if_neg (fun w => z w.2), if_neg z]
    · rw [if_neg (fun w => q w.1), if_neg q]
theorem rf_1 : ∀ a, a < 60 → ∀ k, k < 27 → look (Mq 16) a k = RF 8 a k := by decide +kernel
theorem rf_2 : ∀ a, a < 60 → ∀ k, k < 27 → look (Mq 16) (60 + a) k = RF 8 (60 + a) k := by decide +kernel
theorem rf_3 : ∀ a, a < 60 → ∀ k, k < 27 → look (Mq 16) (120 + a) k = RF 8 (120 + a) k := by decide +kernel
theorem rf_4 : ∀ a, a < 53 → ∀ k, k < 27 → look (Mq 16) (180 + a) k = RF 8 (180 + a) k := by decide +kernel
theorem rf_ok : ∀ a, a < 233 → ∀ k, k < 27 → lk (Mq 16) a k = RF 8 a k := by
  intro a ha k hk
  rw [look_lk]
  by_cases q1 : a < 60
  · exact rf_1 a q1 k hk
  · by_cases q2 : a < 120
    · have := rf_2 (a - 60) (by omega) k hk
      rwa [show 60 + (a - 60) = a by omega] at this
    · by_cases q3 : a < 180
      · have := rf_3 (a - 120) (by omega) k hk
        rwa [show 120 + (a - 120) = a by omega] at this
      · have := rf_4 (a - 180) (by omega) k hk
        rwa [show 180 + (a - 180) = a by omega] at this
def P0 : Pal := ((0, 0, 0), (fun _ => 0), (fun _ => 0), (fun _ => 0))
def A0 : Abs := ((P0, false, fun _ => 0), ((fun _ _ => 0), 0), ((fun _ _ => 0), (fun _ => false), (fun _ => 0), 0), ((fun _ => 0), 0, -1), ((fun _ => 0), (fun _ => 0), 0))
theorem I2_0 {x : Nat} (h1 : x ≠ 1) (h2 : x ≠ 216) : I2 x = fun _ => 0 := by
  unfold I2 I1
  rw [if_neg h2, if_neg h1]
theorem sl_0 : slF P0 (fun _ => 0) = fun _ => 0 := by
  funext k
  unfold slF
  have e1 : noiN P0 (fun _ => 0) = 0 := rfl
  have e2 : cntN P0 (fun _ => 0) = 0 := rfl
  rw [e1, e2]
  split
  · rfl
  · split
    · rfl
    · split
      · rfl
      · split
        · rfl
        · split
          · rfl
          · split
            · rfl
            · split <;> rfl
theorem bes_0 {w : Nat} : bes P0 0 w = 0 := by
  apply Nat.eq_of_testBit_eq
  intro i
  unfold bes
  rw [sto_bit, Nat.zero_testBit]
  have : opd P0 w 0 i = false := rfl
  rw [this, Bool.and_false]
theorem st_0 {a : Nat} (ha : 1 < a) (hb : a + 9 < 216) : StR (zm 233 I2 (Mq 16)) a P0 (fun _ => 0) := by
  have e : ∀ b, a ≤ b → b ≤ a + 9 → (zm 233 I2 (Mq 16)).2.1 b = fun _ => 0 := fun b h1 h2 => I2_0 (by omega) (by omega)
  unfold StR
  rw [e a (by omega) (by omega), e (a + 1) (by omega) (by omega), e (a + 2) (by omega) (by omega), e (a + 3) (by omega) (by omega), e (a + 4) (by omega) (by omega), e (a + 5) (by omega) (by omega), e (a + 6) (by omega) (by omega), e (a + 7) (by omega) (by omega), e (a + 8) (by omega) (by omega), e (a + 9) (by omega) (by omega)]
  refine ⟨⟨rfl, rfl, rfl, rfl⟩, sl_0.symm, fun w hw => by rw [bes_0]; rfl, ⟨0, by decide, rfl, rfl, fun _ => rfl, fun i hi => absurd hi (Nat.not_lt_zero i)⟩, fun k hk => rfl, fun k hk => absurd hk (Nat.not_lt_zero k)⟩
theorem inv_0 : Inv (zm 233 I2 (Mq 16)) := by
  have z : ∀ b, b ≠ 1 → b ≠ 216 → (zm 233 I2 (Mq 16)).2.1 b = fun _ => 0 := fun b h1 h2 => I2_0 h1 h2
  refine ⟨8, A0, ⟨⟨rfl, Or.inr rfl, rf_ok⟩, ⟨⟨?_, ?_, ?_, fun d hd => absurd hd (Nat.not_lt_zero d), fun d hd => absurd hd (Nat.not_lt_zero d), fun d hd => absurd hd (Nat.not_lt_zero d)⟩, ?_⟩, st_0 (by decide) (by decide), ⟨0, by decide, ?_, ?_, fun i hi => absurd hi (Nat.not_lt_zero i)⟩, fun i hi => ⟨?_, fun hk => absurd hk (by simp [A0])⟩, ?_, ⟨rfl, rfl, fun k hk => absurd hk (Nat.not_lt_zero k)⟩, ⟨?_, fun k hk => absurd hk (Nat.not_lt_zero k)⟩, fun a ha hk k h7 => ?_⟩, ⟨⟨rfl, rfl, rfl, rfl, fun d hd => absurd hd (Nat.not_lt_zero d), fun d hd => absurd hd (Nat.not_lt_zero d), fun d hd => absurd hd (Nat.not_lt_zero d)⟩, rfl, ⟨rfl, fun i hi => absurd hi (Nat.not_lt_zero i)⟩, fun i hi => ⟨?_, fun hk => absurd hk (by simp [A0])⟩, rfl, ⟨rfl, rfl, fun k hk => absurd hk (Nat.not_lt_zero k)⟩, ⟨rfl, fun k hk => absurd hk (Nat.not_lt_zero k)⟩⟩, ?_⟩
  · rw [z 8 (by decide) (by decide)]; rfl
  · rw [z 8 (by decide) (by decide)]; rfl
  · rw [z 8 (by decide) (by decide)]; rfl
  · rw [z 8 (by decide) (by decide)]; rfl
  · rw [z 23 (by decide) (by decide)]; rfl
  · rw [z 23 (by decide) (by decide)]; rfl
  · rw [z _ (by omega) (by omega)]; rfl
  · rw [z 0 (by decide) (by decide)]; rfl
  · rw [z 186 (by decide) (by decide)]; rfl
  · have h1 : a ≠ 1 := fun w => by subst w; exact absurd hk (by decide +kernel)
    rw [z a h1 (by omega)]
  · rw [z 232 (by decide) (by decide)]; rfl
  · refine ⟨⟨by decide, by decide, by decide, fun d hd => absurd hd (Nat.not_lt_zero d), fun d e hd => absurd hd (Nat.not_lt_zero d), fun d hd => absurd hd (Nat.not_lt_zero d)⟩, fun _ => rfl, ⟨?_, fun a ha => Nat.le_refl _⟩, Nat.zero_le _, fun i hi => absurd hi (Nat.not_lt_zero i), fun i hi hk => absurd hk (by simp [A0]), by decide, Nat.zero_le _, fun k hk => absurd hk (Nat.not_lt_zero k), Nat.zero_le _, fun k hk => absurd hk (Nat.not_lt_zero k)⟩
    exact ⟨by decide, Nat.zero_le _, Or.inr rfl, Nat.zero_le _, by decide, by decide, by decide, by decide, Nat.zero_le _, Nat.zero_le _, fun a => Or.inl (Nat.zero_le _), fun a h1 h2 => rfl, fun a ha => Nat.zero_le _, fun a h1 h2 => rfl, fun p hp => absurd hp (Nat.not_lt_zero p)⟩
theorem init_ok : ∃ S02 S03 S04, f_X8_init 0 (newC S00) = some S02 ∧ S02.1 = 216 ∧ newO 9 S02 = some S03 ∧ f_X9_init 216 S03 = some S04 ∧ Inv S04 :=
  ⟨zm 216 I1 Lg, zm 217 I1 Lg, zm 233 I2 (Mq 16), i_X8, rfl, nO (N := 216) Lw.2.2.2.2.2.2.2.2.2.2.2 (zI1 (by decide)) (by decide +kernel), i_X9, inv_0⟩
theorem st_if {c : Prop} [Decidable c] {A B : Option Mem} (h1 : ∃ S1, A = some S1 ∧ Inv S1) (h2 : ∃ S1, B = some S1 ∧ Inv S1) : ∃ S1, (if c then A else B) = some S1 ∧ Inv S1 := by
  by_cases q : c
  · rw [if_pos q]; exact h1
  · rw [if_neg q]; exact h2
theorem step_ok (k x y : Int32) (S : Mem) (h : Inv S) : ∃ S1, stepL k x y S = some S1 ∧ Inv S1 := by
  unfold stepL
  exact (st_if (op_0 x y S h) (st_if (op_1 x y S h) (st_if (op_2 x y S h) (st_if (op_3 x y S h) (st_if (op_4 x y S h) (st_if (op_5 x y S h) (st_if (op_6 x y S h) (st_if (op_7 x y S h) (st_if (op_8 x y S h) (st_if (op_9 x y S h) (st_if (op_10 x y S h) (st_if (op_11 x y S h) (st_if (op_12 x y S h) (st_if (op_13 x y S h) (st_if (op_14 x y S h) (st_if (op_15 x y S h) (st_if (op_16 x y S h) (st_if (op_17 x y S h) (st_if (op_18 x y S h) (st_if (op_19 x y S h) (st_if (op_20 x y S h) (st_if (op_21 x y S h) (st_if (op_22 x y S h) (st_if (op_23 x y S h) (st_if (op_24 x y S h) (st_if (op_25 x y S h) (st_if (op_26 x y S h) (st_if (op_27 x y S h) (st_if (op_28 x y S h) (st_if (op_29 x y S h) (st_if (op_30 x y S h) (st_if (op_31 x y S h) (st_if (op_32 x y S h) (st_if (op_33 x y S h) (st_if (op_34 x y S h) (st_if (op_35 x y S h) (st_if (op_36 x y S h) ⟨S, rfl, h⟩)))))))))))))))))))))))))))))))))))))
