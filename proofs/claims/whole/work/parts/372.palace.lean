/-! palace: the class -/
def swp (S : Mem) (p : Nat) : Mem := rowR (rowR S 0 (va_up (S.2.2.2 0) 1 (some (10 - p)))) 1 (va_up (S.2.2.2 1) 3 (some p))
theorem rfC_swp {S : Mem} {p : Nat} (h : rfC S p) : rfC (swp S p) (10 - p) := by
  obtain ⟨h1, h2, h3⟩ := h
  refine ⟨h1, by omega, fun a ha k hk => ?_⟩
  have e : (swp S p).2.2.2 a k = (if a = 1 then va_up (S.2.2.2 1) 3 (some p) else if a = 0 then va_up (S.2.2.2 0) 1 (some (10 - p)) else S.2.2.2 a) k := rfl
  rw [e]
  by_cases a1 : a = 1
  · subst a1
    rw [if_pos rfl]
    by_cases k3 : k = 3
    · subst k3
      show (if 3 = 3 then some p else _) = _
      rw [if_pos rfl]
      unfold RF
      simp
      omega
    · rw [va_up_ne _ _ k3, h3 1 (by decide) k hk]
      unfold RF
      simp [k3]
  · rw [if_neg a1]
    by_cases a0 : a = 0
    · subst a0
      rw [if_pos rfl]
      by_cases k1 : k = 1
      · subst k1
        show (if 1 = 1 then some (10 - p) else _) = _
        rw [if_pos rfl]
        unfold RF
        simp
      · rw [va_up_ne _ _ k1, h3 0 (by decide) k hk]
        unfold RF
        simp [k1]
    · rw [if_neg a0, h3 a ha k hk]
      unfold RF
      simp [a0, a1]
theorem pz_i {S : Mem} {i : Nat} (h : S.1 = 233) (hi : i < 2) : pZ 1 0 S (194 + 11 * i) (0 : Int32) = some (rowI S (194 + 11 * i) (upd (S.2.1 (194 + 11 * i)) 0 0)) := by
  have hk : kd (194 + 11 * i) = 1 := by rcases (by omega : i = 0 ∨ i = 1) with rfl | rfl <;> decide +kernel
  exact if_pos ⟨⟨by rw [h]; omega, hk⟩, Or.inl rfl⟩
theorem c_imgs {S : Mem} {p r : Nat} (hR : rfC S p) (hr : S.2.1 p 2 = nI r) : f_X8_palace_b88 FU 0 (nI 0) S = some (nI r, rowI (rowI S 194 (upd (S.2.1 194) 0 0)) 205 (upd (S.2.1 205) 0 0)) := by
  have hS := hR.1
  have hp := hR.2.1
  have hR1 : rfC (rowI S 194 (upd (S.2.1 194) 0 0)) p := rfC_e hR rfl rfl
  have hR2 : rfC (rowI (rowI S 194 (upd (S.2.1 194) 0 0)) 205 (upd (S.2.1 205) 0 0)) p := rfC_e hR rfl rfl
  have z0 : pZ 1 0 S 194 (0 : Int32) = some (rowI S 194 (upd (S.2.1 194) 0 0)) := pz_i (i := 0) hS (by decide)
  have z1 : pZ 1 0 (rowI S 194 (upd (S.2.1 194) 0 0)) 205 (0 : Int32) = some (rowI (rowI S 194 (upd (S.2.1 194) 0 0)) 205 (upd (S.2.1 205) 0 0)) := pz_i (S := rowI S 194 (upd (S.2.1 194) 0 0)) (i := 1) hS (by decide)
  unfold FU
  rw [f_X8_palace_b88]
  refine bn (by decide) (bs (r_0_4 hR) (bs (ldR185 (i := 0) hR (by decide)) (bs z0 ?_)))
  rw [Option.bind_some, f_X8_palace_b88]
  refine bn (by decide) (bs (r_0_4 hR1) (bs (ldR185 (i := 1) hR1 (by decide)) (bs z1 ?_)))
  rw [Option.bind_some, f_X8_palace_b88]
  refine bp (by decide) (bs (r_0_1 hR2) (bs (g_p (by exact hS) hp 2) ?_))
  rw [row_n (by omega), row_n (by omega), hr]
/-- what stands when a palace has been told -/
def nwA (A : Abs) (D : Dft) : Abs := ((D.2.1, D.1.isSome, nwN D A.1.2.2), (A.2.1.1, 0), (A.2.2.1.1, (fun _ => false), A.2.2.1.2.2), (A.2.2.2.1.1, 0, -1), (A.2.2.2.2.1, A.2.2.2.2.2.1, 0))
/-- and with a fault -/
def erA (A : Abs) (lf : Int32) : Abs := (A.1, A.2.1, A.2.2.1, (A.2.2.2.1.1, 0, lf), A.2.2.2.2)
def txx (A : Abs) : Nat → Nat := fun k => if k < A.2.2.2.1.2.1 then A.2.2.2.1.1 k else 0
theorem RdC_A {S : Mem} {p : Nat} {A : Abs} (hC : IC S p A) (hW : IW A) : RdC S p (txx A) A.2.2.2.1.2.1 := by
  refine ⟨hC.1, fun k hk => ?_, hW.2.2.2.2.2.2.2.1, fun k => ?_⟩
  · unfold txx; rw [if_pos hk]; exact hC.2.2.2.2.2.2.1.2.2 k hk
  · unfold txx
    split
    · next q => exact hW.2.2.2.2.2.2.2.2.1 k q
    · decide
theorem c_pal {S : Mem} {p : Nat} {A : Abs} (hC : IC S p A) (hW : IW A) :
    (∀ e, aTxt (txx A) A.2.2.2.1.2.1 = .error e → ∃ T, f_X8_palace 0 S = some ((-10 : Int32) - nI e.1, T) ∧ fr lo S T ∧ IC T p (erA A (nI e.2))) ∧
    (∀ D, aTxt (txx A) A.2.2.2.1.2.1 = .ok D → ∃ T, f_X8_palace 0 S = some (nI (rms D.2.1), T) ∧ T.1 = 233 ∧ (∀ a, 216 ≤ a → T.2.1 a = S.2.1 a ∧ T.2.2.1 a = S.2.2.1 a) ∧ IC T (10 - p) (nwA A D)) := by
  have hR := hC.1
  have hS := hR.1
  have hp := hR.2.1
  have h := RdC_A hC hW
  obtain ⟨S', F', r1, r2, r3, r4⟩ := c_read h hC.2.2.2.2.2.2.1.1
  have hR' := rfC_fr hR r2
  have hS' := hR'.1
  have hRT : ∀ F, rfC (rowI S' 1 F) p := fun F => rfC_e hR' rfl rfl
  have e' : ∀ b, (b = 0 ∨ b = 7 ∨ 13 ≤ b ∨ (p ≤ b ∧ b ≤ p + 4)) → S'.2.1 b = S.2.1 b := fun b hb => (r2.2.2 b (XD_no hp (by omega))).1
  have e2' : ∀ b, (b = 0 ∨ b = 7 ∨ 13 ≤ b ∨ (p ≤ b ∧ b ≤ p + 4)) → S'.2.2.1 b = S.2.2.1 b := fun b hb => (r2.2.2 b (XD_no hp (by omega))).2
  obtain ⟨F5, hF5⟩ : ∃ F5, F5 = upd F' 0 (nI 0) := ⟨_, rfl⟩
  have eT : ∀ b, (b = 0 ∨ b = 7 ∨ 13 ≤ b ∨ (p ≤ b ∧ b ≤ p + 4)) → (rowI S' 1 F5).2.1 b = S.2.1 b := fun b hb => by rw [row_n (by omega)]; exact e' b hb
  have flo : fr lo S (rowI S' 1 F5) := by
    refine fr.tr (r2.mono (fun a ha => ?_)) (fr.rowI (by decide))
    have : ¬ a < 216 := of_decide_eq_false ha
    exact XD_no hp (by omega)
  have g0 : (rowI S' 1 F5).2.1 1 0 = nI 0 := by rw [row_s, hF5, upd_s]
  have start : ∀ r, (if F5 1 = (0 : Int32) then
      (gR 8 1 (rowI S' 1 F5) 0).bind fun r8 => (gR 8 0 (rowI S' 1 F5) 0).bind fun r9 => (gR 6 3 (rowI S' 1 F5) r9).bind fun r10 => (pR 8 1 (rowI S' 1 F5) 0 r10).bind fun S11 => (gR 8 0 S11 0).bind fun r12 => (pR 6 3 S11 r12 r8).bind fun S13 => (gR 8 2 S13 0).bind fun r14 => (gR 8 1 S13 0).bind fun r15 => (ck 5 S13 r14).bind fun c16 => (f_X5_begin r14 r15 S13).bind fun S17 => (gR 8 3 S17 0).bind fun r18 => (ck 3 S17 r18).bind fun c19 => (f_X3_forget r18 S17).bind fun S20 => (gR 8 5 S20 0).bind fun r21 => (pI 0 0 S20 r21 (0 : Int32)).bind fun S22 => f_X8_palace_b88 FU 0 (0 : Int32) S22
      else (gR 8 0 (rowI S' 1 F5) 0).bind fun r29 => (gI 6 1 (rowI S' 1 F5) r29).bind fun v30 => some (((-10 : Int32) - v30), rowI S' 1 F5)) = r → f_X8_palace 0 S = r := by
    intro r hr
    unfold f_X8_palace
    refine bs (r_0_0 hR) (bs (c_1 hS) (bs r1 (bs (r_0_0 (hRT _)) (bs (t1_p hS' 0 _) (bs (r_0_0 (rfC_e hR' rfl rfl)) (bs (t1_g hS' 1) ?_))))))
    rw [hF5] at hr
    exact hr
  refine ⟨fun e he => ?_, fun D hD => ?_⟩
  · have hf := r4 e he
    have hg := aPar_er _ _ _ _ he
    refine ⟨rowI S' 1 F5, start _ (bn ?_ (bs (r_0_0 (hRT F5)) (bs (t1_g hS' 1) ?_))), flo, ?_⟩
    · rw [hF5, upd_n (by decide), hf.2.1]; exact nI_ne0 (by omega) (by omega)
    · rw [hF5, upd_n (by decide), hf.2.1]
    · obtain ⟨c1, c2, c3, c4, c5, c6, c7, c8, c9⟩ := hC
      refine ⟨hRT F5, Cpal_fr c2 (fun b h1 h2 => eT b (by omega)), StR_fr c3 (fun b h1 h2 => eT b (by omega)), Cpast_fr c4 (fun b h1 h2 => eT b (by omega)), Cimg_fr c5 (fun b h1 h2 => eT b (by omega)), by rw [eT 0 (by omega)]; exact c6, ⟨g0, ?_, fun k hk => absurd hk (Nat.not_lt_zero k)⟩, Cbook_fr c8 (eT _ (by omega)) (eT _ (by omega)) (eT _ (by omega)), Ctail_fr c9 (fun a ha hk => Or.inl (eT a ?_))⟩
      · rw [row_s, hF5, upd_n (by decide)]; exact hf.2.2.1
      · have : ∀ a, a < 13 → kd a ≠ 4 := by decide +kernel
        by_cases q : a < 13
        · exact absurd hk (this a q)
        · omega
  · obtain ⟨f0, f1, f2, fC⟩ := r3 D hD
    have hwD : wfD D := aPar_wf _ _ _ _ D0f_wf hD
    have hd : 10 - p = 2 ∨ 10 - p = 8 := by omega
    have hR5 := hRT F5
    have hR13 : rfC (swp (rowI S' 1 F5) p) (10 - p) := rfC_swp hR5
    have hC13 : CRd (swp (rowI S' 1 F5) p) (10 - p) D := by
      show CRg ((rowI S' 1 F5).2.1 (10 - p)) ((rowI S' 1 F5).2.1 (10 - p + 1)) ((rowI S' 1 F5).2.1 (10 - p + 2)) ((rowI S' 1 F5).2.1 (10 - p + 3)) ((rowI S' 1 F5).2.1 (10 - p + 4)) D
      rw [row_n (by omega), row_n (by omega), row_n (by omega), row_n (by omega), row_n (by omega)]
      exact fC
    have ht14 : ∀ k, 7 ≤ k → (swp (rowI S' 1 F5) p).2.1 14 k = 0 := fun k hk => by
      show (rowI S' 1 F5).2.1 14 k = 0
      rw [eT 14 (by omega)]; exact hC.2.2.2.2.2.2.2.2 14 (by decide) (by decide +kernel) k hk
    obtain ⟨S17, b1, b2, b3⟩ := c_begin (n0 := A.1.2.2) hR13 hC13 hwD ht14
    have hR17 := rfC_fr hR13 b2
    obtain ⟨S22, hS22⟩ : ∃ S22, S22 = rowI (rowI S17 23 (upd (S17.2.1 23) 0 0)) 186 (upd (S17.2.1 186) 0 0) := ⟨_, rfl⟩
    have hR22 : rfC S22 (10 - p) := by rw [hS22]; exact rfC_e hR17 rfl rfl
    have e17 : ∀ b, b < 13 ∨ 22 < b → S17.2.1 b = (rowI S' 1 F5).2.1 b := fun b hb => (b2.2.2 b (by simp only [X13, Bool.and_eq_false_iff, decide_eq_false_iff_not]; omega)).1
    have e17' : ∀ b, b < 13 ∨ 22 < b → S17.2.2.1 b = S'.2.2.1 b := fun b hb => (b2.2.2 b (by simp only [X13, Bool.and_eq_false_iff, decide_eq_false_iff_not]; omega)).2
    have r22 : S22.2.1 (10 - p) 2 = nI (rms D.2.1) := by
      rw [hS22, row_n (by omega), row_n (by omega), e17 _ (by omega), row_n (by omega)]; exact fC.2.2.1
    have him := c_imgs hR22 r22
    obtain ⟨T, hT⟩ : ∃ T, T = rowI (rowI S22 194 (upd (S22.2.1 194) 0 0)) 205 (upd (S22.2.1 205) 0 0) := ⟨_, rfl⟩
    rw [← hT] at him
    have tT : ∀ b, b ≠ 23 → b ≠ 186 → b ≠ 194 → b ≠ 205 → T.2.1 b = S17.2.1 b := fun b h1 h2 h3 h4 => by
      rw [hT, row_n h4, row_n h3, hS22, row_n h2, row_n h1]
    have tS : ∀ b, b ≠ 23 → b ≠ 186 → b ≠ 194 → b ≠ 205 → (b = 0 ∨ b = 7 ∨ 22 < b) → T.2.1 b = S.2.1 b := fun b h1 h2 h3 h4 h5 => by
      rw [tT b h1 h2 h3 h4, e17 b (by omega)]; exact eT b (by omega)
    refine ⟨T, start _ (bp ?_ ?_), by rw [hT, hS22]; exact hR17.1, fun a ha => ⟨tS a (by omega) (by omega) (by omega) (by omega) (by omega), ?_⟩, ?_⟩
    · rw [hF5, upd_n (by decide), f1]; rfl
    · have hk0 : (0 : Nat) < (rowI S' 1 F5).1 ∧ kd 0 = 8 := ⟨by show 0 < S'.1; omega, by decide +kernel⟩
      have hk1 : (1 : Nat) < (rowI S' 1 F5).1 ∧ kd 1 = 6 := ⟨by show 1 < S'.1; omega, by decide +kernel⟩
      have p1 : pR 8 1 (rowI S' 1 F5) 0 (10 - p) = some (rowR (rowI S' 1 F5) 0 (va_up ((rowI S' 1 F5).2.2.2 0) 1 (some (10 - p)))) := if_pos hk0
      have g1 : gR 8 0 (rowR (rowI S' 1 F5) 0 (va_up ((rowI S' 1 F5).2.2.2 0) 1 (some (10 - p)))) 0 = some 1 := by
        have : gR 8 0 (rowR (rowI S' 1 F5) 0 (va_up ((rowI S' 1 F5).2.2.2 0) 1 (some (10 - p)))) 0 = (rowI S' 1 F5).2.2.2 0 0 := if_pos hk0
        rw [this, hR5.2.2 0 (by decide) 0 (by decide)]; rfl
      have p2 : pR 6 3 (rowR (rowI S' 1 F5) 0 (va_up ((rowI S' 1 F5).2.2.2 0) 1 (some (10 - p)))) 1 p = some (swp (rowI S' 1 F5) p) := if_pos hk1
      refine bs (r_0_1 hR5) (bs (r_0_0 hR5) (bs (r_1_3 hR5) (bs p1 (bs g1 (bs p2 (bs (r_0_2 hR13) (bs (r_0_1 hR13) (bs (c_13 hR13.1) (bs b1 (bs (r_0_3 hR17) (bs (c_23 hR17.1) ?_)))))))))))
      unfold f_X3_forget
      have hq : rfC (rowI S17 23 (upd (S17.2.1 23) 0 0)) (10 - p) := rfC_e hR17 rfl rfl
      refine bs (a := rowI S17 23 (upd (S17.2.1 23) 0 0)) (bs (p_23 hR17.1 0 _) rfl) (bs (r_0_5 hq) (bs (a := S22) ?_ him))
      rw [p_186 hq.1, row_n (by decide), hS22]
    · have : T.2.2.1 = S17.2.2.1 := by rw [hT, hS22]; rfl
      rw [this, e17' a (by omega)]; exact e2' a (by omega)
    · obtain ⟨c1, c2, c3, c4, c5, c6, c7, c8, c9⟩ := hC
      refine ⟨by rw [hT]; exact rfC_e hR22 rfl rfl, ⟨?_, ?_⟩, StR_fr b3 (fun b h1 h2 => tT b (by omega) (by omega) (by omega) (by omega)), ?_, ?_, by rw [tS 0 (by omega) (by omega) (by omega) (by omega) (by omega)]; exact c6, ⟨?_, ?_, fun k hk => absurd hk (Nat.not_lt_zero k)⟩, ⟨?_, fun k hk => absurd hk (Nat.not_lt_zero k)⟩, ?_⟩
      · have q := PaF_P fC
        have eq : ∀ b, 10 - p ≤ b → b ≤ 10 - p + 4 → T.2.1 b = S'.2.1 b := fun b h1 h2 => by
          rw [tT b (by omega) (by omega) (by omega) (by omega), e17 b (by omega), row_n (by omega)]
        obtain ⟨q1, q2, q3, q4, q5, q6⟩ := q
        exact ⟨by rw [eq _ (by omega) (by omega)]; exact q1, by rw [eq _ (by omega) (by omega)]; exact q2, by rw [eq _ (by omega) (by omega)]; exact q3, fun d hd => by rw [eq _ (by omega) (by omega)]; exact q4 d hd, fun d hd => by rw [eq _ (by omega) (by omega)]; exact q5 d hd, fun d hd => by rw [eq _ (by omega) (by omega)]; exact q6 d hd⟩
      · rw [tT _ (by omega) (by omega) (by omega) (by omega), e17 _ (by omega), row_n (by omega)]; exact fC.1
      · obtain ⟨pf, u1, u2, u3, u4⟩ := c4
        have t23 : T.2.1 23 = upd (S.2.1 23) 0 0 := by
          rw [hT, row_n (by decide), row_n (by decide), hS22, row_n (by decide), row_s, e17 23 (by omega), eT 23 (by omega)]
        exact ⟨pf, u1, by rw [t23]; rfl, by rw [t23, upd_n (by decide)]; exact u3, fun i hi => absurd hi (Nat.not_lt_zero i)⟩
      · intro i hi
        refine ⟨?_, fun hk => absurd hk (by simp [nwA])⟩
        have t194 : T.2.1 194 0 = 0 := by rw [hT, row_n (by decide), row_s, upd_s]
        have t205 : T.2.1 205 0 = 0 := by rw [hT, row_s, upd_s]
        rcases (by omega : i = 0 ∨ i = 1) with rfl | rfl
        · exact t194
        · exact t205
      · rw [tT 1 (by omega) (by omega) (by omega) (by omega), e17 1 (by omega)]; exact g0
      · rw [tT 1 (by omega) (by omega) (by omega) (by omega), e17 1 (by omega), row_s, hF5, upd_n (by decide)]; exact f2
      · have : T.2.1 186 0 = 0 := by rw [hT, row_n (by decide), row_n (by decide), hS22, row_s, upd_s]
        exact this
      · refine Ctail_fr c9 (fun a ha hk => ?_)
        have n13 : ∀ a, a < 13 → kd a ≠ 4 := by decide +kernel
        by_cases q : a < 13
        · exact absurd hk (n13 a q)
        · by_cases q2 : a ≤ 22
          · have := kd4_in 13 (by decide) (a - 13) (by omega) (by decide) (by rw [show 13 + (a - 13) = a by omega]; exact hk)
            have a14 : a = 13 + 1 := by omega
            refine Or.inr (fun k h7 => ?_)
            rw [a14, tT _ (by omega) (by omega) (by omega) (by omega), b3.2.1]; exact slF_tl h7
          · refine Or.inl (tS a ?_ ?_ ?_ ?_ (by omega)) <;> (intro z; subst z; exact absurd hk (by decide +kernel))
