def lo (x : Nat) : Bool := decide (x < 216)
def hi (x : Nat) : Bool := decide (216 ≤ x)
theorem IM_fr {S S' : Mem} {A : Abs} (h : IM S A) (f : fr lo S S') : IM S' A := by
  obtain ⟨m1, m2, m3, m4, m5, m6, m7⟩ := h
  have e : ∀ b, 216 ≤ b → S'.2.1 b = S.2.1 b := fun b hb => (f.2.2 b (decide_eq_false (by omega))).1
  have e' : ∀ b, 216 ≤ b → S'.2.2.1 b = S.2.2.1 b := fun b hb => (f.2.2 b (decide_eq_false (by omega))).2
  exact ⟨Mpal_fr m1 (fun k hk => by rw [e 216 (by omega)]) (e _ (by omega)) (e _ (by omega)) (e _ (by omega)), by rw [e' 220 (by omega)]; exact m2, Mpast_fr m3 (by rw [e 216 (by omega)]) (e' _ (by omega)), Mimg_fr m4 (e _ (by omega)) (e' _ (by omega)), by rw [e' 216 (by omega)]; exact m5, Mtext_fr m6 (by rw [e 216 (by omega)]) (by rw [e 216 (by omega)]) (e _ (by omega)), Mbook_fr m7 (by rw [e 216 (by omega)]) (e _ (by omega))⟩
theorem IC_fr {S S' : Mem} {p : Nat} {A : Abs} (h : IC S p A) (f : fr hi S S') : IC S' p A := by
  obtain ⟨c1, c2, c3, c4, c5, c6, c7, c8, c9⟩ := h
  have e : ∀ b, b < 216 → S'.2.1 b = S.2.1 b := fun b hb => (f.2.2 b (decide_eq_false (by omega))).1
  have hp := c1.2.1
  exact ⟨rfC_fr c1 f, Cpal_fr c2 (fun b h1 h2 => e b (by omega)), StR_fr c3 (fun b h1 h2 => e b (by omega)), Cpast_fr c4 (fun b h1 h2 => e b (by omega)), Cimg_fr c5 (fun b h1 h2 => e b (by omega)), by rw [e 0 (by omega)]; exact c6, Ctext_fr c7 (e _ (by omega)) (e _ (by omega)), Cbook_fr c8 (e _ (by omega)) (e _ (by omega)) (e _ (by omega)), Ctail_fr c9 (fun a ha hk => Or.inl (e a ha))⟩
theorem Inv_mk {S1 S2 : Mem} {p : Nat} {A : Abs} (hC : IC S1 p A) (f : fr hi S1 S2) (hM : IM S2 A) (hW : IW A) : Inv S2 := ⟨p, A, IC_fr hC f, hM, hW⟩
def psU (us : Nat → Nat → Nat) (uc : Nat) (n : Nat → Nat) : Nat → Nat → Nat := fun i => if uc < 16 then (if i < uc then us i else n) else (if i < 15 then us (i + 1) else n)
def psC (uc : Nat) : Nat := if uc < 16 then uc + 1 else 16
def psh (A : Abs) : Abs := (A.1, (psU A.2.1.1 A.2.1.2 A.1.2.2, psC A.2.1.2), A.2.2)
def stn (A : Abs) (m : Nat → Nat) : Abs := ((A.1.1, A.1.2.1, m), A.2)
theorem IW_psh {A : Abs} (h : IW A) : IW (psh A) := by
  obtain ⟨a1, a2, a3, a4, a5, a6⟩ := h
  refine ⟨a1, a2, a3, ?_, fun i hi => ?_, a6⟩
  · show psC A.2.1.2 ≤ 16
    unfold psC; split <;> omega
  · show gdN A.1.1 (psU A.2.1.1 A.2.1.2 A.1.2.2 i)
    have hi' : i < psC A.2.1.2 := hi
    unfold psC at hi'
    unfold psU
    by_cases q : A.2.1.2 < 16
    · rw [if_pos q]
      by_cases q2 : i < A.2.1.2
      · rw [if_pos q2]; exact a5 i q2
      · rw [if_neg q2]; exact a3
    · rw [if_neg q]
      by_cases q2 : i < 15
      · rw [if_pos q2]; exact a5 (i + 1) (by omega)
      · rw [if_neg q2]; exact a3
theorem IW_stn {A : Abs} {m : Nat → Nat} (h : IW A) (hm : gdN A.1.1 m) : IW (stn A m) := by
  obtain ⟨a1, a2, a3, a4⟩ := h
  exact ⟨a1, a2, hm, a4⟩
theorem slF_tl {P : Pal} {n : Nat → Nat} {k : Nat} (hk : 7 ≤ k) : slF P n k = 0 := by
  unfold slF
  rw [if_neg (by omega), if_neg (by omega), if_neg (by omega), if_neg (by omega), if_neg (by omega), if_neg (by omega), if_neg (by omega)]
theorem stl_p : ∀ i, i < 16 → stl (25 + 10 * i) = true := by decide +kernel
/-- which slips lie in a state's rows -/
theorem kd4_in : ∀ s, s < 233 → ∀ j, j < 10 → stl s = true → kd (s + j) = 4 → j = 1 := by decide +kernel
theorem tl_copy {S S' : Mem} {s : Nat} {P : Pal} {n : Nat → Nat} (h : Ctail S) (hs : s < 233) (h1 : stl s = true) (f : fr (btw s (s + 9)) S S') (hst : StR S' s P n) : Ctail S' := by
  refine Ctail_fr h (fun a ha hk => ?_)
  by_cases q : s ≤ a ∧ a ≤ s + 9
  · have := kd4_in s hs (a - s) (by omega) h1 (by rw [show s + (a - s) = a by omega]; exact hk)
    have : a = s + 1 := by omega
    refine Or.inr (fun k h7 => ?_)
    rw [this, hst.2.1]; exact slF_tl h7
  · exact Or.inl (f.2.2 a (btw_f (by omega))).1
theorem ldR24 {S : Mem} {p i : Nat} (hR : rfC S p) (hi : i < 16) : ldR 14 S 24 (nI i) = some (25 + 10 * i) := by
  have l24 : ln 24 = 16 := by decide +kernel
  have e : (nI i).toNatClampNeg = i := nI_clamp (by omega)
  rw [ldR, if_pos ⟨⟨by rw [hR.1]; decide, by decide +kernel⟩, nI_pos (by omega), by rw [e, l24]; exact hi⟩, e, hR.2.2 24 (by decide) i (by omega)]
  unfold RF
  rw [if_neg (by decide), if_neg (by decide), if_neg (by decide), if_pos rfl, if_pos hi]
theorem c_push {S : Mem} {p : Nat} {A : Abs} (hC : IC S p A) (hW : IW A) : ∃ S6, f_X3_remember 23 13 S = some S6 ∧ IC S6 p (psh A) ∧ fr lo S S6 := by
  obtain ⟨c1, c2, c3, ⟨pf, hpf, u0, u1, u2⟩, c5, c6, c7, c8, c9⟩ := hC
  have hS := c1.1
  have hp := c1.2.1
  have huc : A.2.1.2 ≤ 16 := hW.2.2.2.1
  have hpt := hW.1.2.2.1
  have hst := stl_p pf hpf
  obtain ⟨S5, d1, d2, d3⟩ := c_copySt (stk_ c1 (by omega) hst) (stk_ c1 (s := 13) (by decide) (by decide)) (by omega) c3 hpt (fun k hk => c9 _ (by omega) (stl_k2 _ (by omega) hst).1 k hk)
  have e5 : ∀ b, b < 25 + 10 * pf ∨ 25 + 10 * pf + 9 < b → S5.2.1 b = S.2.1 b := fun b hb => (d2.2.2 b (btw_f hb)).1
  have hR5 := rfC_fr c1 d2
  have w0 : S5.2.1 23 0 = nI A.2.1.2 := by rw [e5 23 (by omega)]; exact u0
  have w1 : S5.2.1 23 1 = nI pf := by rw [e5 23 (by omega)]; exact u1
  have fl : fr lo S S5 := d2.mono (fun a ha => by
    have : ¬ a < 216 := of_decide_eq_false ha
    exact btw_f (by omega))
  refine ⟨rowI (rowI S5 23 (upd (S5.2.1 23) 1 (nI ((pf + 1) % 16)))) 23 (upd (upd (S5.2.1 23) 1 (nI ((pf + 1) % 16))) 0 (nI (psC A.2.1.2))), ?_, ?_, ?_⟩
  · unfold f_X3_remember
    refine bs (r_23_2 c1) (bs (a := nI pf) ((g_23 hS 1).trans (congrArg some u1)) (bs (ldR24 c1 hpf) (bs (if_pos ⟨by rw [hS]; omega, (stl_k1 _ (by omega) hst).2⟩) (bs d1 (bs (a := nI pf) ((g_23 hR5.1 1).trans (congrArg some w1)) (bs (a := rowI S5 23 (upd (S5.2.1 23) 1 (nI ((pf + 1) % 16)))) ?_ (bs (a := nI A.2.1.2) ((g_23 hR5.1 0).trans (congrArg some w0)) (bs (a := rowI (rowI S5 23 (upd (S5.2.1 23) 1 (nI ((pf + 1) % 16)))) 23 (upd (upd (S5.2.1 23) 1 (nI ((pf + 1) % 16))) 0 (nI (psC A.2.1.2)))) ?_ rfl))))))))
    · rw [zi 1, zi 16, nI_add, z_rem (by omega) (by omega) (by omega)]
      exact p_23 hR5.1 1 _
    · have : (if nI A.2.1.2 + (1 : Int32) < (16 : Int32) then nI A.2.1.2 + (1 : Int32) else (16 : Int32)) = nI (psC A.2.1.2) := by
        unfold psC
        rw [zi 1, nI_add, zi 16]
        by_cases q : A.2.1.2 + 1 < 16
        · rw [if_pos ((nI_ltI (by omega) (by omega)).mpr q), if_pos (by omega)]
        · rw [if_neg (fun z => q ((nI_ltI (by omega) (by omega)).mp z))]
          by_cases q2 : A.2.1.2 < 16
          · rw [if_pos q2, show A.2.1.2 + 1 = 16 by omega]
          · rw [if_neg q2]
      rw [this]
      exact p_23 (S := rowI S5 23 (upd (S5.2.1 23) 1 (nI ((pf + 1) % 16)))) hR5.1 0 _
  · rw [rII]
    have eb : ∀ {f : Nat → Int32} (b : Nat), b ≠ 23 → (rowI S5 23 f).2.1 b = S5.2.1 b := fun b hb => by rw [rI2, if_neg hb]
    refine ⟨rfC_e hR5 rfl rfl, Cpal_fr c2 (fun b h1 h2 => by rw [eb b (by omega), e5 b (by omega)]), StR_fr c3 (fun b h1 h2 => by rw [eb b (by omega), e5 b (by omega)]), ?_, Cimg_fr c5 (fun b h1 h2 => by rw [eb b (by omega), e5 b (by omega)]), by rw [eb 0 (by omega), e5 0 (by omega)]; exact c6, Ctext_fr c7 (by rw [eb 1 (by omega), e5 1 (by omega)]) (by rw [eb 7 (by omega), e5 7 (by omega)]), Cbook_fr c8 (by rw [eb 186 (by omega), e5 186 (by omega)]) (by rw [eb 187 (by omega), e5 187 (by omega)]) (by rw [eb 188 (by omega), e5 188 (by omega)]), ?_⟩
    · refine ⟨(pf + 1) % 16, Nat.mod_lt _ (by decide), ?_, ?_, fun i hi => ?_⟩
      · show upd (upd (S5.2.1 23) 1 (nI ((pf + 1) % 16))) 0 (nI (psC A.2.1.2)) 0 = _
        rw [upd_s]; rfl
      · show upd (upd (S5.2.1 23) 1 (nI ((pf + 1) % 16))) 0 (nI (psC A.2.1.2)) 1 = _
        rw [upd_n (by decide), upd_s]
      · have hi' : i < psC A.2.1.2 := hi
        show StR _ (25 + 10 * (((pf + 1) % 16 + 16 - psC A.2.1.2 + i) % 16)) A.1.1 (psU A.2.1.1 A.2.1.2 A.1.2.2 i)
        unfold psC at hi' ⊢
        unfold psU
        by_cases q : A.2.1.2 < 16
        · rw [if_pos q] at hi' ⊢
          rw [if_pos q]
          by_cases q2 : i < A.2.1.2
          · rw [if_pos q2]
            have sl : ((pf + 1) % 16 + 16 - (A.2.1.2 + 1) + i) % 16 = (pf + 16 - A.2.1.2 + i) % 16 := by omega
            have ne : (pf + 16 - A.2.1.2 + i) % 16 ≠ pf := by omega
            have lt : (pf + 16 - A.2.1.2 + i) % 16 < 16 := Nat.mod_lt _ (by decide)
            rw [sl]
            exact StR_fr (u2 i q2) (fun b h1 h2 => by rw [eb b (by omega), e5 b (by omega)])
          · rw [if_neg q2]
            have sl : ((pf + 1) % 16 + 16 - (A.2.1.2 + 1) + i) % 16 = pf := by omega
            rw [sl]
            exact StR_fr d3 (fun b h1 h2 => eb b (by omega))
        · rw [if_neg q] at hi' ⊢
          rw [if_neg q]
          have q16 : A.2.1.2 = 16 := by omega
          by_cases q2 : i < 15
          · rw [if_pos q2]
            have sl : ((pf + 1) % 16 + 16 - 16 + i) % 16 = (pf + 16 - A.2.1.2 + (i + 1)) % 16 := by omega
            have ne : (pf + 16 - A.2.1.2 + (i + 1)) % 16 ≠ pf := by omega
            have lt : (pf + 16 - A.2.1.2 + (i + 1)) % 16 < 16 := Nat.mod_lt _ (by decide)
            rw [sl]
            exact StR_fr (u2 (i + 1) (by omega)) (fun b h1 h2 => by rw [eb b (by omega), e5 b (by omega)])
          · rw [if_neg q2]
            have sl : ((pf + 1) % 16 + 16 - 16 + i) % 16 = pf := by omega
            rw [sl]
            exact StR_fr d3 (fun b h1 h2 => eb b (by omega))
    · refine Ctail_fr (tl_copy c9 (by omega) hst d2 d3) (fun a ha hk => Or.inl (eb a (tl_ne (b := 23) (by decide +kernel) hk)))
  · exact fr.tr fl (fr.tr (fr.rowI (by decide)) (fr.rowI (by decide)))
