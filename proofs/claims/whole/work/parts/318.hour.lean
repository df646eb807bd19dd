theorem wy_congr {w F T U O : Nat → Int32} {P : Pal} {n m : Nat → Nat} (h9 : m 9 = n 9) (h : ∀ j, 32 ≤ j → j < 80 → m j = n j) (h16 : n 9 ≤ 16) (hy : WyR w F T U O P n) : WyR w F T U O P m := by
  obtain ⟨fp, a, b, c, d, e⟩ := hy
  refine ⟨fp, a, by rw [h9]; exact b, c, by rw [h9]; exact d, fun i hi => ?_⟩
  rw [h9] at hi ⊢
  rw [h (32 + 3 * i) (by omega) (by omega), h (33 + 3 * i) (by omega) (by omega), h (34 + 3 * i) (by omega) (by omega)]
  exact e i hi
theorem slb_fr {S S' : Mem} {a br : Nat} {P : Pal} (h : SLb S a P br) (h1 : S'.1 = S.1) (h2 : S'.2.2.2 = S.2.2.2) (h3 : S'.2.1 (a + 1) = S.2.1 (a + 1)) : SLb S' a P br :=
  ⟨by rw [h1]; exact h.1, h.2.1, h.2.2.1, h.2.2.2.1, by rw [h2]; exact h.2.2.2.2.1, fun w hw => by rw [h3]; exact h.2.2.2.2.2 w hw⟩
def X13 (x : Nat) : Bool := decide (13 ≤ x) && decide (x ≤ 22)
theorem c_passHour {S : Mem} {p hh : Nat} {P : Pal} {n : Nat → Nat} (hR : rfC S p) (hP : wfP P) (hq : PaR S p P) (hst : StR S 13 P n) (hw : wfN P hh n) (hh30 : hh < 2 ^ 30) (h0 : 0 < rms P) :
    ∃ S', f_X5_passHour 13 p S = some S' ∧ fr X13 S S' ∧ StR S' 13 P (gbN P n) := by
  obtain ⟨⟨f2, f3, f4, f5⟩, hs, hbs, hy, hgv, hch⟩ := hst
  obtain ⟨w0, w1, w2, w3, w4, w5, w6, w7, w8, w9, wn, wg, wc⟩ := wfb hP hw
  have hS := hR.1
  have hr8 := hP.1
  have h2 := wf_2 hw h0
  have hgn := wg (n 2) w2
  have hb : SLb S 14 P (n 6) := ⟨by rw [hS]; decide, by decide +kernel, by decide +kernel, by decide +kernel, (slk_14 hR).2.2.2.2, hbs⟩
  -- the room's count
  generalize hv : va_up n (18 + n 2) (n (18 + n 2) + 1) = v
  have hwv : wfN P (hh + 1) v := by rw [← hv]; exact wu_18 (wf_mono hw (by omega)) h2 hr8 (by omega)
  have a1 : gI 4 1 S 14 = some (nI (n 2)) := by rw [g_14 hS, hs, slF_at.2.1]
  have a2 : ldI S 21 (nI (n 2)) = some (nI (n (18 + n 2))) := by rw [ld_21 hS w2, hgv _ w2]
  have a3 : stI S 21 (nI (n 2)) (nI (n (18 + n 2)) + (1 : Int32)) = some (rowI S 21 (upd (S.2.1 21) (n 2) (nI (n (18 + n 2) + 1)))) := by rw [zi 1, nI_add, st_21 hS w2]
  generalize hS1 : rowI S 21 (upd (S.2.1 21) (n 2) (nI (n (18 + n 2) + 1))) = S1 at a3
  have F1 : fr X13 S S1 := by rw [← hS1]; exact fr.rowI (by decide)
  have R1 : rfC S1 p := rfC_fr hR F1
  have n1 : ∀ b, b ≠ 21 → S1.2.1 b = S.2.1 b := fun b hb => by rw [← hS1, rI2, if_neg hb]
  have s1 : S1.2.1 14 = slF P n := by rw [n1 14 (by decide)]; exact hs
  have b1 : SLb S1 14 P (n 6) := slb_fr hb F1.1 F1.2.1 (n1 15 (by decide))
  have a4 := c_feel hP b1 hw h0
  rw [ss_self s1, hv] at a4
  generalize hS2 : ss S1 14 P v = S2 at a4
  have F2 : fr X13 S1 S2 := by rw [← hS2]; exact fr.rowI (by decide)
  have R2 : rfC S2 p := rfC_fr R1 F2
  have n2 : ∀ b, b ≠ 14 → S2.2.1 b = S1.2.1 b := fun b hb => by rw [← hS2]; show (rowI S1 14 _).2.1 b = _; rw [rI2, if_neg hb]
  have s2 : S2.2.1 14 = slF P v := by rw [← hS2]; show (rowI S1 14 _).2.1 14 = _; rw [rI2, if_pos rfl]
  have m2 : ∀ b, b ≠ 14 → b ≠ 21 → S2.2.1 b = S.2.1 b := fun b h1 h2 => (n2 b h1).trans (n1 b h2)
  have hp := hR.2.1
  have q2 : PaR S2 p P := by
    obtain ⟨p1, p2, p3, p4, p5, p6⟩ := hq
    refine ⟨by rw [m2 p (by omega) (by omega)]; exact p1, by rw [m2 p (by omega) (by omega)]; exact p2, by rw [m2 p (by omega) (by omega)]; exact p3, fun d hd => by rw [m2 _ (by omega) (by omega)]; exact p4 d hd, fun d hd => by rw [m2 _ (by omega) (by omega)]; exact p5 d hd, fun d hd => by rw [m2 _ (by omega) (by omega)]; exact p6 d hd⟩
  have v26 : ∀ k, k < pts P → v (26 + k) = n (26 + k) := fun k hk => by rw [← hv, va_up_ne _ _ (by omega)]
  have vj : ∀ j, j < 18 → v j = n j := fun j hj => by rw [← hv, va_up_ne _ _ (by omega)]
  have v32 : ∀ j, 26 ≤ j → v j = n j := fun j hj => by rw [← hv, va_up_ne _ _ (by omega)]
  have a5 := c_hear R2 hP q2 s2 hwv (fun k hk => by rw [m2 22 (by decide) (by decide), v26 k hk]; exact hch k hk) (by rw [m2 13 (by decide) (by decide), vj 7 (by omega)]; exact f4) (by rw [m2 13 (by decide) (by decide), vj 8 (by omega)]; exact f5)
  have hw3 := hea_wf (k := pts P) hwv (Nat.le_refl _)
  have ea : ∀ j, j ≠ 7 → j ≠ 8 → heaN P (pts P) v j = v j := fun j h7 h8 => hea_at _ j h7 h8
  generalize hg : heaN P (pts P) v = g at a5 hw3 ea
  generalize hS3 : hm S2 g = S3 at a5
  have F3 : fr X13 S2 S3 := by rw [← hS3]; exact fr.rowI (by decide)
  have R3 : rfC S3 p := rfC_fr R2 F3
  have n3 : ∀ b, b ≠ 13 → S3.2.1 b = S2.2.1 b := fun b hb => by rw [← hS3]; show (rowI S2 13 _).2.1 b = _; rw [rI2, if_neg hb]
  have t3 : S3.2.1 13 = upd (upd (S2.2.1 13) 4 (nI (g 7))) 5 (nI (g 8)) := by rw [← hS3]; rfl
  have m3 : ∀ b, b ≠ 13 → b ≠ 14 → b ≠ 21 → S3.2.1 b = S.2.1 b := fun b h0 h1 h2 => (n3 b h0).trans (m2 b h1 h2)
  have en : noiN P g = noiN P v := noi_congr (fun j h1 h2 => ea j (by omega) (by omega))
  have ec : cntN P g = cntN P v := cnt_congr (fun j h1 h2 => ea j (by omega) (by omega))
  have s3 : S3.2.1 14 = slF P g := by
    rw [n3 14 (by decide), s2]
    exact (slF_congr (ea 0 (by omega) (by omega)) (ea 2 (by omega) (by omega)) (ea 3 (by omega) (by omega)) (ea 4 (by omega) (by omega)) (ea 5 (by omega) (by omega)) en ec).symm
  have g6 : g 6 = n 6 := by rw [ea 6 (by omega) (by omega), vj 6 (by omega)]
  have g2 : g 2 = n 2 := by rw [ea 2 (by omega) (by omega), vj 2 (by omega)]
  have g9 : g 9 = n 9 := by rw [ea 9 (by omega) (by omega), vj 9 (by omega)]
  have b3 : SLb S3 14 P (g 6) := by rw [g6]; exact slb_fr b1 ((rfC_fr R2 F3).1.trans R1.1.symm) (F3.2.1.trans F2.2.1) (by rw [m3 15 (by decide) (by decide) (by decide), n1 15 (by decide)])
  have w3g : g 0 < 64 := hw3.1
  have a6 := c_nextBy hP b3 hw3 (r := g 0) w3g
  rw [ss_self s3] at a6
  have hnx := nx_lt hP hw3 (g 0) (g 4)
  have y3 : WyR (S3.2.1 16) (S3.2.1 17) (S3.2.1 18) (S3.2.1 19) (S3.2.1 20) P g := by
    rw [m3 16 (by decide) (by decide) (by decide), m3 17 (by decide) (by decide) (by decide), m3 18 (by decide) (by decide) (by decide), m3 19 (by decide) (by decide) (by decide), m3 20 (by decide) (by decide) (by decide)]
    exact wy_congr g9 (fun j h1 h2 => by rw [ea j (by omega) (by omega), v32 j (by omega)]) w9 hy
  have hgbN : gbN P n = va_up (goN P (nxN P g (g 0) (g 4)) g) 1 ((goN P (nxN P g (g 0) (g 4)) g) 1 + 1) := by
    unfold gbN
    dsimp only
    rw [hv, hg]
  have a7 : gI 4 0 S3 14 = some (nI (g 0)) := by rw [g_14 R3.1, s3, slF_at.1]
  have a8 : gI 4 1 S3 14 = some (nI (g 2)) := by rw [g_14 R3.1, s3, slF_at.2.1]
  generalize hto : nxN P g (g 0) (g 4) = to at a6 hnx hgbN
  have gg2 : g 2 < 8 := by rw [g2]; exact w2
  -- his going
  have hgo : ∃ S4, (if nI to = nI (g 2) then f_X5_passHour_b74 13 S3 else (gR 5 1 S3 13).bind fun r20 => (gR 5 0 S3 13).bind fun r21 => (ck 7 S3 r20).bind fun _ => (f_X7_add r20 r21 (nI to) S3).bind fun S23 => (gR 5 0 S23 13).bind fun r24 => (ck 4 S23 r24).bind fun _ => (f_X4_stepTo r24 (nI to) S23).bind fun S26 => f_X5_passHour_b74 13 S26) = f_X5_passHour_b74 13 S4 ∧ fr X13 S3 S4 ∧ S4.2.1 14 = slF P (goN P to g) ∧ (∀ b, b = 13 ∨ b = 15 ∨ b = 21 ∨ b = 22 → S4.2.1 b = S3.2.1 b) ∧ WyR (S4.2.1 16) (S4.2.1 17) (S4.2.1 18) (S4.2.1 19) (S4.2.1 20) P (goN P to g) := by
    by_cases q : to = g 2
    · refine ⟨S3, by rw [if_pos (by rw [q])], fr.rf, ?_, fun _ _ => rfl, ?_⟩
      · unfold goN; rw [if_pos q]; exact s3
      · unfold goN; rw [if_pos q]; exact y3
    · obtain ⟨S4, k1, k2, k3⟩ := c_wayAdd R3 hP s3 b3 hw3 y3 hnx.1 q
      have k2' : fr X13 S3 S4 := k2.mono (fun a ha => by
        simp only [X13, Bool.and_eq_false_iff, decide_eq_false_iff_not] at ha
        simp only [Bool.or_eq_false_iff, beq_eq_false_iff_ne]
        omega)
      have s4 : S4.2.1 14 = slF P g := by rw [(k2.2.2 14 (by decide)).1]; exact s3
      have b4 : SLb S4 14 P (g 6) := slb_fr b3 k2.1 k2.2.1 (k2.2.2 15 (by decide)).1
      have R4 : rfC S4 p := rfC_fr R3 k2
      have a9 := c_stepTo (to := to) hP b4 hw3 hnx.1
      rw [ss_self s4] at a9
      refine ⟨ss S4 14 P (goN P to g), ?_, k2'.tr (fr.rowI (by decide)), ?_, ?_, ?_⟩
      · rw [if_neg (fun z => q ((nI_eq (by omega) (by omega)).mp z)), r_13_1 R3, Option.bind_some, r_13_0 R3, Option.bind_some, c_16 R3.1, Option.bind_some, k1, Option.bind_some, r_13_0 R4, Option.bind_some, c_14 R4.1, Option.bind_some, a9, Option.bind_some]
      · show (rowI S4 14 _).2.1 14 = _; rw [rI2, if_pos rfl]
      · intro b hb
        show (rowI S4 14 _).2.1 b = _
        rw [rI2, if_neg (by omega)]
        exact (k2.2.2 b (by simp only [Bool.or_eq_false_iff, beq_eq_false_iff_ne]; omega)).1
      · show WyR ((rowI S4 14 _).2.1 16) ((rowI S4 14 _).2.1 17) ((rowI S4 14 _).2.1 18) ((rowI S4 14 _).2.1 19) ((rowI S4 14 _).2.1 20) P _
        rw [rI2, rI2, rI2, rI2, rI2, if_neg (by decide), if_neg (by decide), if_neg (by decide), if_neg (by decide), if_neg (by decide)]
        unfold goN
        rw [if_neg q]
        have h916 : remN P to g 9 ≤ 16 := by rw [rem_9]; have := shf_9 (n := g) (by rw [g9]; exact w9); omega
        exact wy_congr (by rw [va_up_ne _ _ (by omega), va_up_ne _ _ (by omega)]) (fun j h1 h2 => by rw [va_up_ne _ _ (by omega), va_up_ne _ _ (by omega)]) h916 k3
  obtain ⟨S4, e4, F4, s4, n4, y4⟩ := hgo
  have R4 : rfC S4 p := rfC_fr R3 F4
  have t4 : S4.2.1 13 2 = nI (n 1) := by rw [n4 13 (by omega), t3, upd_n (by decide), upd_n (by decide), m2 13 (by decide) (by decide)]; exact f2
  have b74 : f_X5_passHour_b74 13 S4 = some (rowI S4 13 (upd (S4.2.1 13) 2 (nI (n 1 + 1)))) := by
    unfold f_X5_passHour_b74
    rw [g_13 R4.1, t4, Option.bind_some, zi 1, nI_add, p_13 R4.1, Option.bind_some]
  have go1 : goN P to g 1 = n 1 := by rw [go_1, ea 1 (by omega) (by omega), vj 1 (by omega)]
  refine ⟨rowI S4 13 (upd (S4.2.1 13) 2 (nI (n 1 + 1))), ?_, ((F1.tr F2).tr (F3.tr F4)).tr (fr.rowI (by decide)), ?_⟩
  · unfold f_X5_passHour
    simp only [r_13_6 hR, r_13_0 hR, a1, a2, a3, r_13_0 R1, c_14 R1.1, a4, c_13 R2.1, a5, r_13_0 R3, a7, c_14 R3.1, a6, a8, Option.bind_some]
    simp only [r_13_0 R3, Option.bind_some] at e4
    rw [e4, b74]
  · rw [hgbN]
    refine ⟨⟨?_, ?_, ?_, ?_⟩, ?_, ?_, ?_, ?_, ?_⟩
    · rw [rI2, if_pos rfl, upd_s, va_up_self, go1]
    · rw [rI2, if_pos rfl, upd_n (by decide), n4 13 (by omega), t3, upd_n (by decide), upd_n (by decide), m2 13 (by decide) (by decide), f3, va_up_ne _ _ (by omega), go_6 (by omega) (by omega) (by omega) (by omega), g6]
    · rw [rI2, if_pos rfl, upd_n (by decide), n4 13 (by omega), t3, upd_n (by decide), upd_s, va_up_ne _ _ (by omega), go_6 (by omega) (by omega) (by omega) (by omega)]
    · rw [rI2, if_pos rfl, upd_n (by decide), n4 13 (by omega), t3, upd_s, va_up_ne _ _ (by omega), go_6 (by omega) (by omega) (by omega) (by omega)]
    · show (rowI S4 13 _).2.1 14 = _
      rw [rI2, if_neg (by decide), s4]
      exact (slF_congr (va_up_ne _ _ (by omega)) (va_up_ne _ _ (by omega)) (va_up_ne _ _ (by omega)) (va_up_ne _ _ (by omega)) (va_up_ne _ _ (by omega)) (noi_up hr8 (by omega)) (cnt_up hr8 (by omega))).symm
    · intro w hw
      show (rowI S4 13 _).2.1 15 w = _
      rw [rI2, if_neg (by decide), n4 15 (by omega), m3 15 (by decide) (by decide) (by decide), hbs w hw, va_up_ne _ _ (by omega), go_6 (by omega) (by omega) (by omega) (by omega), g6]
    · show WyR ((rowI S4 13 _).2.1 16) ((rowI S4 13 _).2.1 17) ((rowI S4 13 _).2.1 18) ((rowI S4 13 _).2.1 19) ((rowI S4 13 _).2.1 20) P _
      rw [rI2, rI2, rI2, rI2, rI2, if_neg (by decide), if_neg (by decide), if_neg (by decide), if_neg (by decide), if_neg (by decide)]
      have h916 : goN P to g 9 ≤ 16 := by
        have hwx : wfN P (hh + 1) (goN P to g) := go_wf hw3 hP.2.2.1 (fun q => (hnx.2 q).1)
        exact hwx.2.2.2.2.2.2.2.2.2.1
      exact wy_congr (va_up_ne _ _ (by omega)) (fun j h1 h2 => va_up_ne _ _ (by omega)) h916 y4
    · intro k hk
      show (rowI S4 13 _).2.1 21 k = _
      rw [rI2, if_neg (by decide), n4 21 (by omega), n3 21 (by decide), n2 21 (by decide), va_up_ne _ _ (by omega), go_6 (by omega) (by omega) (by omega) (by omega), ea _ (by omega) (by omega), ← hS1, rI2, if_pos rfl, ← hv]
      by_cases q : k = n 2
      · subst q; rw [upd_s, va_up_self]
      · rw [upd_n q, va_up_ne _ _ (by omega)]; exact hgv k hk
    · intro k hk
      have := hP.2.2.1
      show (rowI S4 13 _).2.1 22 k = _
      rw [rI2, if_neg (by decide), n4 22 (by omega), m3 22 (by decide) (by decide) (by decide), hch k hk, va_up_ne _ _ (by omega), go_6 (by omega) (by omega) (by omega) (by omega), ea _ (by omega) (by omega), v26 k hk]
