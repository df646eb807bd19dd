theorem isD_sym {P : Pal} {a b d : Nat} : isD P a b d = isD P b a d := by unfold isD; exact Bool.or_comm _ _
theorem isD_self {P : Pal} {d : Nat} : isD P (dfr P d) (dto P d) d = true := by simp [isD]
theorem dB_some {P : Pal} {a b d : Nat} (h : isD P a b d = true) : ∀ k, d < k → ∃ e, dB P a b k = some e
  | 0, hk => absurd hk (Nat.not_lt_zero _)
  | k + 1, hk => by
    rw [dB]
    by_cases q : isD P a b k = true
    · rw [if_pos q]; exact ⟨k, rfl⟩
    · rw [if_neg q]
      by_cases z : d = k
      · subst z; exact absurd h q
      · exact dB_some h k (by omega)
theorem isD_cases {P : Pal} {a b d : Nat} (h : isD P a b d = true) : (a = dfr P d ∧ b = dto P d) ∨ (a = dto P d ∧ b = dfr P d) := by
  simp only [isD, Bool.or_eq_true, Bool.and_eq_true, decide_eq_true_eq] at h
  omega
theorem dB_door {P : Pal} (hP : wfP P) {d : Nat} (hd : d < drs P) : dB P (dfr P d) (dto P d) (drs P) = some d ∧ dB P (dto P d) (dfr P d) (drs P) = some d := by
  have key : ∀ a b, isD P a b d = true → dB P a b (drs P) = some d := by
    intro a b h
    obtain ⟨e, he⟩ := dB_some h (drs P) hd
    have h2 := dB_lt he
    have : isD P (dfr P d) (dto P d) e = true := by
      rcases isD_cases h with ⟨rfl, rfl⟩ | ⟨rfl, rfl⟩
      · exact h2.2
      · rw [isD_sym]; exact h2.2
    rw [he, hP.2.2.2.2.1 d e hd h2.1 this]
  exact ⟨key _ _ isD_self, key _ _ (by rw [isD_sym]; exact isD_self)⟩
theorem opd_brick {P : Pal} {w b br d : Nat} {v : Bool} : opd P w (setb br d v) b = if dB P w b (drs P) = some d then !v else opd P w br b := by
  unfold opd
  cases h : dB P w b (drs P) with
  | none => rfl
  | some e =>
    dsimp only
    rw [setb_bit]
    by_cases q : e = d
    · subst q; rw [if_pos rfl, if_pos rfl]
    · rw [if_neg q, if_neg (fun z => q (Option.some.inj z))]
theorem bes_brick {P : Pal} (hP : wfP P) {d br : Nat} {v : Bool} (hd : d < drs P) : (bes P (setb br d v) (dfr P d) = setb (bes P br (dfr P d)) (dto P d) (!v)) ∧ (bes P (setb br d v) (dto P d) = setb (bes P br (dto P d)) (dfr P d) (!v)) ∧ ∀ w, w ≠ dfr P d → w ≠ dto P d → bes P (setb br d v) w = bes P br w := by
  obtain ⟨f1, f2, f3⟩ := hP.2.2.2.1 d hd
  have hr := hP.1
  have gen : ∀ w u, (dB P w u (drs P) = some d) → (∀ i, i ≠ u → dB P w i (drs P) ≠ some d) → u < 8 → bes P (setb br d v) w = setb (bes P br w) u (!v) := by
    intro w u h1 h2 hu
    apply Nat.eq_of_testBit_eq
    intro i
    rw [setb_bit]
    unfold bes
    rw [sto_bit, sto_bit, opd_brick]
    by_cases q : i = u
    · subst q; rw [if_pos h1, if_pos rfl]; simp [hu]
    · rw [if_neg (h2 i q), if_neg q]
  refine ⟨gen _ _ (dB_door hP hd).1 (fun i hi z => ?_) (by omega), gen _ _ (dB_door hP hd).2 (fun i hi z => ?_) (by omega), fun w h1 h2 => ?_⟩
  · rcases isD_cases (dB_lt z).2 with ⟨-, q⟩ | ⟨q, -⟩
    · exact hi q
    · exact f3 q
  · rcases isD_cases (dB_lt z).2 with ⟨q, -⟩ | ⟨-, q⟩
    · exact f3 q.symm
    · exact hi q
  · apply Nat.eq_of_testBit_eq
    intro i
    unfold bes
    rw [sto_bit, sto_bit, opd_brick, if_neg]
    intro z
    rcases isD_cases (dB_lt z).2 with ⟨q, -⟩ | ⟨q, -⟩
    · exact h1 q
    · exact h2 q
theorem bes_lt {P : Pal} {br w : Nat} : bes P br w < 2 ^ 8 := sto_lt _ 8
theorem op_11a (x y : Int32) (S : Mem) (h : Inv S) : ∃ S1, ((ck 8 S 0).bind fun _ => (f_X8_brick 0 x y S).bind fun q2 => (ck 9 q2.2 216).bind fun _ => (f_X9_brick 216 x y q2.2).bind fun q4 => if q2.1 = q4.1 then some q4.2 else none) = some S1 ∧ Inv S1 := by
  obtain ⟨p, A, hC, hM, hW⟩ := id h
  have hR := hC.1
  have hS := hR.1
  have hP : wfP A.1.1 := hW.1
  have hr8 := hP.1
  have hd12 := hP.2.1
  have h6 := hP.2.2.1
  have hw : wfN A.1.1 9060 A.1.2.2 := hW.2.2.1.1
  have ed : ∀ {T : Mem}, rfC T p → PaR T p A.1.1 → gI 2 3 T p = some (nI (drs A.1.1)) := fun h1 h2 => by rw [g_p h1.1 h1.2.1, h2.2.1]
  rcases tri x (r := drs A.1.1) (by omega) with hx | ⟨d, hd, rfl⟩
  · refine ⟨_, pick2 (v := -1000000001) (S1 := S) (S2 := S) (F := f_X8_brick 0 x y S) (G := f_X9_brick 216 x y) ?_ ?_ hS hS, h⟩
    · unfold f_X8_brick
      by_cases h0 : x < 0
      · exact bp h0 rfl
      · refine bn h0 (bs (r_0_1 hR) (bs (ed hR hC.2.1.1) (bn (fun z => ?_) rfl)))
        have a := Int32.lt_iff_toInt_lt.mp z
        have b := Int32.le_iff_toInt_le.mp (hx.resolve_left h0)
        omega
    · unfold f_X9_brick f_X9_isDoor
      exact bs (mck hS) (bs (a := nI 0) (bs ((mgI hS 2).trans (congrArg some hM.1.2.2.1)) (bs (in_r0 (by omega) hx) (bs zok0 rfl))) (bp nI00 rfl))
  · obtain ⟨w0, w1, w2, w3, w4, w5, w6, w7, w8, w9, wn, wg, wc⟩ := wfb hP hw
    obtain ⟨f1, f2, f3⟩ := hP.2.2.2.1 d hd
    obtain ⟨k1, k2, k3⟩ := bes_brick hP (br := A.1.2.2 6) (v := !decide (y = 0)) hd
    refine muta (m := va_up A.1.2.2 6 (setb (A.1.2.2 6) d (!decide (y = 0)))) (v := nI (if (A.1.2.2 6).testBit d then 1 else 0)) hC hM hW ⟨wu_6 hw (setb_lt hw.2.2.2.2.2.2.1 hd), gd_up (P := A.1.1) hW.2.2.1.2 (by omega)⟩ ?_ ?_
    · intro S6 a1 a2
      have hR6 := a2.1
      have hS6 := hR6.1
      have hp := hR6.2.1
      have hPa6 : PaR S6 p A.1.1 := a2.2.1.1
      obtain ⟨⟨g2, g3, g4, g5⟩, hs, hbs, hy, hgv, hch⟩ : StR S6 13 A.1.1 A.1.2.2 := a2.2.2.1
      have eb : ∀ w, w < 8 → S6.2.1 15 w = nI (bes A.1.1 (A.1.2.2 6) w) := hbs
      obtain ⟨S14, hS14⟩ : ∃ S14, S14 = rowI S6 13 (upd (S6.2.1 13) 3 (nI (setb (A.1.2.2 6) d (!decide (y = 0))))) := ⟨_, rfl⟩
      have r14 : rfC S14 p := by rw [hS14]; exact rfC_e hR6 rfl rfl
      have row : ∀ b, b ≠ 13 → S14.2.1 b = S6.2.1 b := fun b hb => by rw [hS14, rI2, if_neg hb]
      have od : ∀ z : Int32, z = 0 ∨ z = 1 → (!decide (z = 0)) = decide (y = 0) → f_X4_openDoor 14 (nI (dfr A.1.1 d)) (nI (dto A.1.1 d)) z S14 = some (rowI S14 15 (upd (upd (S6.2.1 15) (dfr A.1.1 d) (nI (bes A.1.1 (setb (A.1.2.2 6) d (!decide (y = 0))) (dfr A.1.1 d)))) (dto A.1.1 d) (nI (bes A.1.1 (setb (A.1.2.2 6) d (!decide (y = 0))) (dto A.1.1 d))))) := by
        intro z hz hz2
        have hb1 := bes_lt (P := A.1.1) (br := A.1.2.2 6) (w := dfr A.1.1 d)
        have hb2 := bes_lt (P := A.1.1) (br := A.1.2.2 6) (w := dto A.1.1 d)
        have c1 := c_wbX (s := bes A.1.1 (A.1.2.2 6) (dfr A.1.1 d)) (k := dto A.1.1 d) (by omega) (by omega) z
        have c2 := c_wbX (s := bes A.1.1 (A.1.2.2 6) (dto A.1.1 d)) (k := dfr A.1.1 d) (by omega) (by omega) z
        rw [hz2] at c1 c2
        rw [k1, k2, Bool.not_not]
        unfold f_X4_openDoor
        refine bs (r_14_7 r14) (bs (r_14_7 r14) (bs (a := nI (bes A.1.1 (A.1.2.2 6) (dfr A.1.1 d))) ?_ (bs c1 (bs (st_15 r14.1 (by omega) _) (bs (r_14_7 (rfC_e r14 rfl rfl)) (bs (r_14_7 (rfC_e r14 rfl rfl)) (bs (a := nI (bes A.1.1 (A.1.2.2 6) (dto A.1.1 d))) ?_ (bs c2 (bs (st_15 (by exact r14.1) (by omega) _) ?_)))))))))
        · rw [ld_15 r14.1 (by omega), row 15 (by decide), eb _ (by omega)]
        · rw [ld_15 (by exact r14.1) (by omega)]
          show some (upd (S14.2.1 15) _ _ _) = _
          rw [upd_n (fun q => f3 q.symm), row 15 (by decide), eb _ (by omega)]
        · rw [rII]
          show some (rowI S14 15 (upd (upd (S14.2.1 15) _ _) _ _)) = _
          rw [row 15 (by decide)]
      refine ⟨rowI S14 15 (upd (upd (S6.2.1 15) (dfr A.1.1 d) (nI (bes A.1.1 (setb (A.1.2.2 6) d (!decide (y = 0))) (dfr A.1.1 d)))) (dto A.1.1 d) (nI (bes A.1.1 (setb (A.1.2.2 6) d (!decide (y = 0))) (dto A.1.1 d)))), ?_, ?_, ?_⟩
      · unfold f_X8_brick
        refine bn (nI_pos (by omega)) (bs (r_0_1 hR) (bs (ed hR hC.2.1.1) (bp ((nI_ltI (by omega) (by omega)).mpr hd) (bs (r_0_3 hR) (bs (r_0_2 hR) (bs (c_23 hS) (bs a1 (bs (r_0_2 hR6) (bs ((g_13 hS6 3).trans (congrArg some g3)) ?_)))))))))
        rw [c_bit (by omega) (by omega), Option.bind_some]
        refine bs (r_0_2 hR6) (bs (r_0_2 hR6) (bs ((g_13 hS6 3).trans (congrArg some g3)) (bs (c_wbX (by omega) (by omega) y) (bs (a := S14) (by rw [hS14]; exact p_13 hS6 3 _) (bs (r_0_2 r14) (bs (r_13_0 r14) (bs (r_0_1 r14) (bs (r_p_7 r14 hp) (bs (a := nI (dfr A.1.1 d)) ?_ (bs (r_0_1 r14) (bs (r_p_8 r14 hp) (bs (a := nI (dto A.1.1 d)) ?_ ?_))))))))))))
        · rw [ld_p1 r14.1 hp (by omega), row _ (by omega), hPa6.2.2.2.1 d hd]
        · rw [ld_p2 r14.1 hp (by omega), row _ (by omega), hPa6.2.2.2.2.1 d hd]
        · unfold f_X8_brick_b94
          by_cases z : y = 0
          · exact bp z (bs (c_14 r14.1) (bs (od 1 (Or.inr rfl) (by simp [z])) rfl))
          · exact bn z (bs (c_14 r14.1) (bs (od 0 (Or.inl rfl) (by simp [z])) rfl))
      · rw [hS14]
        exact fr.tr (fr.rowI (by decide)) (fr.rowI (by decide))
      · have u : ∀ i, i ≠ 6 → va_up A.1.2.2 6 (setb (A.1.2.2 6) d (!decide (y = 0))) i = A.1.2.2 i := fun i h1 => by rw [up_at, if_neg h1]
        have u6 : va_up A.1.2.2 6 (setb (A.1.2.2 6) d (!decide (y = 0))) 6 = setb (A.1.2.2 6) d (!decide (y = 0)) := by rw [up_at, if_pos rfl]
        rw [hS14]
        refine ⟨⟨?_, ?_, ?_, ?_⟩, ?_, fun w hw => ?_, ?_, fun k hk => ?_, fun k hk => ?_⟩
        · rw [u 1 (by omega)]; exact g2
        · rw [u6]; rfl
        · rw [u 7 (by omega)]; exact g4
        · rw [u 8 (by omega)]; exact g5
        · have : slF A.1.1 (va_up A.1.2.2 6 (setb (A.1.2.2 6) d (!decide (y = 0)))) = slF A.1.1 A.1.2.2 := slF_congr (u 0 (by omega)) (u 2 (by omega)) (u 3 (by omega)) (u 4 (by omega)) (u 5 (by omega)) (noi_congr (fun i h1 h2 => u i (by omega))) (cnt_congr (fun i h1 h2 => u i (by omega)))
          rw [this]; exact hs
        · rw [u6]
          show upd (upd (S6.2.1 15) (dfr A.1.1 d) _) (dto A.1.1 d) _ w = _
          by_cases z1 : w = dto A.1.1 d
          · rw [z1, upd_s]
          · rw [upd_n z1]
            by_cases z2 : w = dfr A.1.1 d
            · rw [z2, upd_s]
            · rw [upd_n z2, k3 w z2 z1]; exact eb w hw
        · exact wy_congr (u 9 (by omega)) (fun i h1 h2 => u i (by omega)) w9 hy
        · rw [u (18 + k) (by omega)]; exact hgv k hk
        · rw [u (26 + k) (by omega)]; exact hch k hk
    · intro S7 S8 hR7 hM7 b1 b2 b3 b4
      unfold f_X9_brick f_X9_isDoor
      exact bs (mck hR7.1) (bs (a := nI 1) (bs ((mgI hR7.1 2).trans (congrArg some hM7.1.2.2.1)) (bs (in_r1 (by omega) hd) (bs zok1 rfl))) (bn nI10 (bs (mck hR7.1) (bs (m_turns (f := 6) hR7 b1 b2 b3 (by decide) (by omega) (by omega) y) rfl))))
theorem op_11 (x y : Int32) (S : Mem) (h : Inv S) : ∃ S1, sk_11 x y S = some S1 ∧ Inv S1 := by
  unfold sk_11
  by_cases q : y = 0
  · rw [if_pos q]; exact op_11a x 0 S h
  · rw [if_neg q]; exact op_11a x 1 S h
