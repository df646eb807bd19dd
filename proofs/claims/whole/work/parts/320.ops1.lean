theorem at_ {S : Mem} {n : Nat → Nat} (h : rfM S) (hn : S.2.2.1 220 = LL n) {k : Nat} (hk : k < 80) : f_X9_at 216 (nI k) S = some (nI (n k)) := by
  have := m_at (n := n) h hk
  rwa [sn_self hn] at this
theorem ldn_ {S : Mem} {n : Nat → Nat} (h : S.1 = 233) (hn : S.2.2.1 220 = LL n) {k : Nat} (hk : k < 80) : ldJ S 220 (nI k) = some (lN (n k)) := by
  rw [ld_220 h hk, hn]; rfl
theorem RMb_ {S : Mem} {p : Nat} {P : Pal} {pal : Bool} (h : rfC S p) (m : Mpal S P pal) (hP : wfP P) : RMb S P := ⟨rfC_M h, m.2.1, m.2.2.1, m.2.2.2.1, m.2.2.2.2.1, m.2.2.2.2.2.1, m.2.2.2.2.2.2, hP⟩
theorem pick {S : Mem} {v : Int32} {F G : Option Int32} (h1 : F = some v) (h2 : G = F) (hc : S.1 = 233) : ((ck 8 S 0).bind fun _ => F.bind fun v2 => (ck 9 S 216).bind fun _ => G.bind fun v4 => if v2 = v4 then some S else none) = some S := by
  rw [h2, h1, c_0 hc, mck hc]
  simp
theorem ex_if {α : Type} {c : Prop} [Decidable c] {A B : Option α} (h1 : ∃ v, A = some v) (h2 : ∃ v, B = some v) : ∃ v, (if c then A else B) = some v := by
  by_cases h : c
  · rw [if_pos h]; exact h1
  · rw [if_neg h]; exact h2
theorem op_2 (x y : Int32) (S : Mem) (h : Inv S) : ∃ S1, sk_2 x y S = some S1 ∧ Inv S1 := by
  obtain ⟨p, ⟨⟨P, pal, n⟩, ⟨us, uc⟩, ⟨im, ik, isd, sd⟩, ⟨tx, tn, lf⟩, ⟨bk, bo, bc⟩⟩, ⟨c1, c2, c3, c4, c5, c6, c7, c8, c9⟩, ⟨m1, m2, m3, m4, m5, m6, m7⟩, hw⟩ := id h
  refine ⟨S, ?_, h⟩
  have e1 : f_X8_fault 0 S = some lf := by
    unfold f_X8_fault
    rw [r_0_0 c1, Option.bind_some, g_1 c1.1, c7.2.1]; rfl
  have e2 : f_X9_fault 216 S = some lf := by
    unfold f_X9_fault
    rw [mgI c1.1, m6.2.1]; rfl
  exact pick e1 (e2.trans e1.symm) c1.1
theorem op_3 (x y : Int32) (S : Mem) (h : Inv S) : ∃ S1, sk_3 x y S = some S1 ∧ Inv S1 := by
  obtain ⟨p, ⟨⟨P, pal, n⟩, ⟨us, uc⟩, ⟨im, ik, isd, sd⟩, ⟨tx, tn, lf⟩, ⟨bk, bo, bc⟩⟩, ⟨c1, c2, c3, c4, c5, c6, c7, c8, c9⟩, ⟨m1, m2, m3, m4, m5, m6, m7⟩, hw⟩ := id h
  dsimp only at c2 c3 c4 c7 c8 m1 m2 m3 m6 m7 hw
  refine ⟨S, ?_, h⟩
  have hS := c1.1
  have hp := c1.2.1
  obtain ⟨⟨f2, f3, f4, f5⟩, hs, hbs, hy, hgv, hch⟩ := c3
  obtain ⟨pf, q1, q2, q3, q4⟩ := c4
  obtain ⟨fp, y1, y2, y3⟩ := hy
  obtain ⟨s0, s1, s2, s3, s4, s5, s6⟩ := slF_at (P := P) (n := n)
  have hr8 := hw.1.1
  have hat : ∀ k, k < 80 → f_X9_at 216 (nI k) S = some (nI (n k)) := fun k hk => at_ (rfC_M c1) m2 hk
  have e0 : ∀ r, r ≤ 8 → (nI r ≤ nI 0 ↔ nI r = nI 0) := fun r hr => by rw [nI_leI (by omega) (by omega), nI_eq (by omega) (by omega)]; omega
  have e2 : f_X9_told 216 x S = f_X8_told 0 x S := by
    unfold f_X9_told f_X8_told
    simp only [zi, r_0_1 c1, r_0_0 c1, r_0_2 c1, r_0_3 c1, r_0_5 c1, r_13_0 c1, r_13_1 c1, g_p hS hp, g_1 hS, g_13 hS, g_14 hS, g_16 hS, g_186 hS, g_23 hS, mgI hS, mck hS, Option.bind_some, c2.1.1, c2.1.2.1, c2.1.2.2.1, c2.2, f2, f3, f4, f5, hs, s0, s1, s2, s5, s6, y2, q2, c7.1, c8.1, m1.1, m1.2.1, m1.2.2.1, m1.2.2.2.1, m3.1, m6.1, m7.1, hat 0 (by decide), hat 1 (by decide), hat 2 (by decide), hat 3 (by decide), hat 4 (by decide), hat 5 (by decide), hat 6 (by decide), hat 7 (by decide), hat 8 (by decide), hat 9 (by decide), e0 _ hr8]
  have e1 : ∃ v, f_X8_told 0 x S = some v := by
    unfold f_X8_told
    simp only [zi, r_0_1 c1, r_0_0 c1, r_0_2 c1, r_0_3 c1, r_0_5 c1, r_13_0 c1, r_13_1 c1, g_p hS hp, g_1 hS, g_13 hS, g_14 hS, g_16 hS, g_186 hS, g_23 hS, Option.bind_some]
    repeat' (first | exact ⟨_, rfl⟩ | apply ex_if)
  obtain ⟨v, e1⟩ := e1
  exact pick e1 e2 hS
