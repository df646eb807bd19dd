/-! a palace begins: the class's state, and all else -/
theorem g14r {S : Mem} {G : Nat → Int32} (h : S.1 = 233) (k : Nat) (v : Int32) : pI 4 k (rowI S 14 G) 14 v = some (rowI S 14 (upd G k v)) := by rw [p_14 (by exact h), row_s, rII]
theorem g13r {S : Mem} {G : Nat → Int32} (h : S.1 = 233) (k : Nat) (v : Int32) : pI 5 k (rowI S 13 G) 13 v = some (rowI S 13 (upd G k v)) := by rw [p_13 (by exact h), row_s, rII]
theorem g16r {S : Mem} {G : Nat → Int32} (h : S.1 = 233) (k : Nat) (v : Int32) : pI 7 k (rowI S 16 G) 16 v = some (rowI S 16 (upd G k v)) := by rw [p_16 (by exact h), row_s, rII]
/-- PaR, and what else the plan holds -/
def PaF (S : Mem) (p : Nat) (D : Dft) : Prop := CRd S p D
theorem PaF_P {S : Mem} {p : Nat} {D : Dft} (h : CRd S p D) : PaR S p D.2.1 := ⟨h.2.2.1, h.2.2.2.1, h.2.2.2.2.1, h.2.2.2.2.2.2.2.1, h.2.2.2.2.2.2.2.2.1, h.2.2.2.2.2.2.2.2.2.2⟩
theorem c_sbeg {S : Mem} {p : Nat} {D : Dft} {n0 : Nat → Nat} (hR : rfC S p) (hC : CRd S p D) (hD : wfD D) (ht : ∀ k, 7 ≤ k → S.2.1 14 k = 0) :
    ∃ G, (∀ w, w < 8 → G w = nI (bes D.2.1 0 w)) ∧ f_X4_begin 14 p S = some (rowI (rowI S 14 (slF D.2.1 (nwN D n0))) 15 G) := by
  have hS := hR.1
  have hp := hR.2.1
  obtain ⟨c0, c1, c2, c3, c4, c5, c6, c7, c8, c9, c10⟩ := id hC
  have hsl : upd (upd (upd (upd (upd (upd (upd (S.2.1 14) 0 (nI (D.1.getD 0))) 1 0) 2 0) 3 (nI (pn D.2.2.1 8))) 4 0) 5 (nI D.2.2.2.1)) 6 0 = slF D.2.1 (nwN D n0) := by
    funext k
    unfold slF
    rw [nw_noi hD, nw_cnt hD, nw_0, nw_4, nw_z (k := 2) (by omega), nw_z (k := 3) (by omega), nw_z (k := 5) (by omega)]
    by_cases h0 : k = 0
    · subst h0; rfl
    · by_cases h1 : k = 1
      · subst h1; rfl
      · by_cases h2 : k = 2
        · subst h2; rfl
        · by_cases h3 : k = 3
          · subst h3; rfl
          · by_cases h4 : k = 4
            · subst h4; rfl
            · by_cases h5 : k = 5
              · subst h5; rfl
              · by_cases h6 : k = 6
                · subst h6; rfl
                · rw [upd_n h6, upd_n h5, upd_n h4, upd_n h3, upd_n h2, upd_n h1, upd_n h0, ht k (by omega), if_neg h0, if_neg h1, if_neg h2, if_neg h3, if_neg h4, if_neg h5, if_neg h6]
  have g1 : gI 2 1 S p = some (nI (D.1.getD 0)) := (g_p hS hp 1).trans (congrArg some c1)
  have g5 : ∀ G, gI 2 5 (rowI S 14 G) p = some (nI (pn D.2.2.1 8)) := fun G => by rw [g_p (by exact hS) hp, row_n (by omega), c5]
  have g6 : ∀ G, gI 2 6 (rowI S 14 G) p = some (nI D.2.2.2.1) := fun G => by rw [g_p (by exact hS) hp, row_n (by omega), c6]
  have hR1 : rfC (rowI S 14 (slF D.2.1 (nwN D n0))) p := rfC_e hR rfl rfl
  have hC1 : PaR (rowI S 14 (slF D.2.1 (nwN D n0))) p D.2.1 := by
    obtain ⟨q1, q2, q3, q4, q5, q6⟩ := PaF_P hC
    exact ⟨by rw [row_n (by omega)]; exact q1, by rw [row_n (by omega)]; exact q2, by rw [row_n (by omega)]; exact q3, fun d hd => by rw [row_n (by omega)]; exact q4 d hd, fun d hd => by rw [row_n (by omega)]; exact q5 d hd, fun d hd => by rw [row_n (by omega)]; exact q6 d hd⟩
  have hfl := c_fill (S := rowI S 14 (slF D.2.1 (nwN D n0))) (a := 15) (N := 8) (x := (0 : Int32)) ⟨by rw [hR1.1]; decide, by decide +kernel⟩ (by decide +kernel) (by decide)
  obtain ⟨G, y1, y2⟩ := c_begd hR1 hC1 hD.1 (drs D.2.1) 0 FU (fa_fill (fun _ => (0 : Int32)) ((rowI S 14 (slF D.2.1 (nwN D n0))).2.1 15) 8) (by omega) (by have := hD.1.2.1; unfold FU; omega) (fun w hw => by rw [fa_fill_in hw, bsk_0]; rfl)
  refine ⟨G, y1, ?_⟩
  unfold f_X4_begin
  refine bs g1 (bs (p_14 hS 0 _) (bs (g14r hS 1 _) (bs (g14r hS 2 _) (bs (g5 _) (bs (g14r hS 3 _) (bs (g14r hS 4 _) (bs (g6 _) (bs (g14r hS 5 _) (bs (g14r hS 6 _) ?_)))))))))
  rw [hsl]
  exact bs (r_14_7 hR1) (bs hfl y2)
theorem c_begin {S : Mem} {p : Nat} {D : Dft} {n0 : Nat → Nat} (hR : rfC S p) (hC : CRd S p D) (hD : wfD D) (ht : ∀ k, 7 ≤ k → S.2.1 14 k = 0) :
    ∃ S', f_X5_begin 13 p S = some S' ∧ fr X13 S S' ∧ StR S' 13 D.2.1 (nwN D n0) := by
  have hS := hR.1
  have hp := hR.2.1
  have h6 := hD.1.2.2.1
  obtain ⟨G, y1, y2⟩ := c_sbeg (n0 := n0) hR hC hD ht
  obtain ⟨S3, hS3⟩ : ∃ S3, S3 = rowI (rowI S 14 (slF D.2.1 (nwN D n0))) 15 G := ⟨_, rfl⟩
  rw [← hS3] at y2
  have f3 : fr X13 S S3 := by rw [hS3]; exact fr.tr (fr.rowI (by decide)) (fr.rowI (by decide))
  have hR3 := rfC_fr hR f3
  obtain ⟨S6, hS6⟩ : ∃ S6, S6 = rowI S3 16 (upd (upd (S3.2.1 16) 0 0) 1 0) := ⟨_, rfl⟩
  have f6 : fr X13 S3 S6 := by rw [hS6]; exact fr.rowI (by decide)
  have hR6 := rfC_fr hR3 f6
  have hcl : f_X7_clear 16 S3 = some S6 := by
    unfold f_X7_clear
    rw [hS6]
    exact bs (p_16 hR3.1 0 _) (bs (g16r hR3.1 1 _) rfl)
  obtain ⟨S10, hS10⟩ : ∃ S10, S10 = rowI S6 13 (upd (upd (upd (upd (S6.2.1 13) 2 0) 3 0) 4 0) 5 0) := ⟨_, rfl⟩
  have f10 : fr X13 S6 S10 := by rw [hS10]; exact fr.rowI (by decide)
  have hR10 := rfC_fr hR6 f10
  have hfl := c_fill (S := S10) (a := 21) (N := 8) (x := (0 : Int32)) ⟨by rw [hR10.1]; decide, by decide +kernel⟩ (by decide +kernel) (by decide)
  obtain ⟨S12, hS12⟩ : ∃ S12, S12 = rowI S10 21 (fa_fill (fun _ => (0 : Int32)) (S10.2.1 21) 8) := ⟨_, rfl⟩
  rw [← hS12] at hfl
  have f12 : fr X13 S10 S12 := by rw [hS12]; exact fr.rowI (by decide)
  have hR12 := rfC_fr hR10 f12
  have hcp := cp_row (S := S12) (t := 22) (a := p + 3) (N := 6) ⟨by rw [hR12.1]; omega, by rcases hp with rfl | rfl <;> decide +kernel⟩ ⟨by rw [hR12.1]; decide, by decide +kernel⟩ (by rcases hp with rfl | rfl <;> decide +kernel) (by decide +kernel) (by decide)
  have fall : fr X13 S S12 := fr.tr f3 (fr.tr f6 (fr.tr f10 f12))
  have ep : ∀ b, b < 13 → S12.2.1 b = S.2.1 b := fun b hb => (fall.2.2 b (by simp only [X13, Bool.and_eq_false_iff, decide_eq_false_iff_not]; omega)).1
  refine ⟨rowI S12 22 (va_cpy (S12.2.1 (p + 3)) (S12.2.1 22) 0 0 6), ?_, fr.tr fall (fr.rowI (by decide)), ?_⟩
  · unfold f_X5_begin
    refine bs (r_13_0 hR) (bs (c_14 hS) (bs y2 (bs (r_13_1 hR3) (bs (c_16 hR3.1) (bs hcl (bs (p_13 hR6.1 2 _) (bs (g13r hR6.1 3 _) (bs (g13r hR6.1 4 _) (bs (g13r hR6.1 5 _) ?_)))))))))
    rw [← hS10]
    exact bs (r_13_6 hR10) (bs hfl (bs (r_p_9 hR12 hp) (bs (r_13_7 hR12) (bs hcp rfl))))
  · have r14 : S12.2.1 14 = slF D.2.1 (nwN D n0) := by
      rw [hS12, row_n (by decide), hS10, row_n (by decide), hS6, row_n (by decide), hS3, row_n (by decide), row_s]
    have r15 : S12.2.1 15 = G := by
      rw [hS12, row_n (by decide), hS10, row_n (by decide), hS6, row_n (by decide), hS3, row_s]
    have r16 : S12.2.1 16 = upd (upd (S3.2.1 16) 0 0) 1 0 := by
      rw [hS12, row_n (by decide), hS10, row_n (by decide), hS6, row_s]
    have r13 : S12.2.1 13 = upd (upd (upd (upd (S6.2.1 13) 2 0) 3 0) 4 0) 5 0 := by
      rw [hS12, row_n (by decide), hS10, row_s]
    have r21 : S12.2.1 21 = fa_fill (fun _ => (0 : Int32)) (S10.2.1 21) 8 := by rw [hS12, row_s]
    refine ⟨?_, ?_, fun w hw => ?_, ?_, fun k hk => ?_, fun k hk => ?_⟩
    · rw [row_n (by decide), r13, nw_z (k := 1) (by omega), nw_z (k := 6) (by omega), nw_z (k := 7) (by omega), nw_z (k := 8) (by omega)]
      exact ⟨rfl, rfl, rfl, rfl⟩
    · rw [row_n (by decide)]; exact r14
    · rw [row_n (by decide), nw_z (k := 6) (by omega)]
      show S12.2.1 15 w = _
      rw [r15]; exact y1 w hw
    · rw [row_n (by decide), row_n (by decide), row_n (by decide), row_n (by decide), row_n (by decide)]
      have h9 : nwN D n0 9 = 0 := nw_z (by omega)
      show WyR (S12.2.1 16) _ _ _ _ _ _
      rw [r16]
      exact ⟨0, by decide, by rw [h9]; rfl, rfl, fun _ => h9.symm, fun i hi => by rw [h9] at hi; exact absurd hi (Nat.not_lt_zero i)⟩
    · rw [row_n (by decide), nw_z (k := 18 + k) (by omega)]
      show S12.2.1 21 k = _
      rw [r21, fa_fill_in hk]; rfl
    · rw [nw_26 h6 hk]
      show (rowI S12 22 _).2.1 22 k = _
      rw [row_s, cpy_at (by omega), ep _ (by omega)]
      exact hC.2.2.2.2.2.2.2.2.2.1 k hk
