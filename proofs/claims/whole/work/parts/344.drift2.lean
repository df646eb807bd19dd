/-! drawing: what is changed ahead of an hour -/
def X0 (x : Nat) : Bool := x == 0 || X13 x
theorem X0_f {b : Nat} (h : (1 ≤ b ∧ b < 13) ∨ 22 < b) : X0 b = false := by
  simp only [X0, X13, Bool.or_eq_false_iff, Bool.and_eq_false_iff, decide_eq_false_iff_not, beq_eq_false_iff_ne]; omega
theorem X0_13 {S S' : Mem} (f : fr X13 S S') : fr X0 S S' := f.mono (fun a ha => by
  simp only [X0, Bool.or_eq_false_iff] at ha; exact ha.2)
def D0 (T : Mem) (v : Nat) : Mem := rowI T 0 (upd (T.2.1 0) 6 (nI v))
theorem D0_6 {T : Mem} {v : Nat} : (D0 T v).2.1 0 6 = nI v := by
  show upd (T.2.1 0) 6 (nI v) 6 = _
  rw [upd_s]
theorem D0_fr {T : Mem} {v : Nat} : fr X0 T (D0 T v) := fr.rowI (by decide)
theorem D0_st {T : Mem} {v : Nat} {P : Pal} {n : Nat → Nat} (h : StR T 13 P n) : StR (D0 T v) 13 P n := StR_fr h (fun b h1 h2 => if_neg (by omega))
theorem c_wpk {P : Pal} {hh j c : Nat} {n : Nat → Nat} (hP : wfP P) (hw : wfN P hh n) (hj : j < rms P) (hc : c ≤ 9) : f_X8_withPacked (nI (noiN P n)) (nI j) (nI c) = nI (noiN P (va_up n (10 + j) c)) := by
  have hr8 := hP.1
  obtain ⟨w0, w1, w2, w3, w4, w5, w6, w7, w8, w9, wn, wg, wc⟩ := wfb hP hw
  have hw' : wfN P hh (va_up n (10 + j) c) := wu_10 hw hj hr8 (by omega)
  rw [noi_eq8 hP hw, noi_eq8 hP hw', c_withPacked (fun a => ?_) (by omega) (by omega)]
  · congr 1
    refine pn_congr _ (fun a ha => ?_)
    rw [up_at, up_at]
    by_cases q : a = j
    · rw [if_pos q, if_pos ha, if_pos (by omega)]
    · rw [if_neg q, if_pos ha, if_pos ha, if_neg (by omega)]
  · by_cases q : a < 8
    · have := wn a q; simp only [q, if_true]; omega
    · simp only [q, if_false]; decide
theorem slF_3 {P : Pal} {n : Nat → Nat} {j c : Nat} (hr8 : rms P ≤ 8) (hj : j < 8) : upd (slF P n) 3 (nI (noiN P (va_up n (10 + j) c))) = slF P (va_up n (10 + j) c) := by
  funext k
  by_cases q : k = 3
  · subst q; rw [upd_s]; rfl
  · rw [upd_n q]
    unfold slF
    have u : ∀ i, i < 10 → va_up n (10 + j) c i = n i := fun i hi => by rw [up_at, if_neg (by omega)]
    rw [cnt_up hr8 (by omega), u 0 (by omega), u 2 (by omega), u 3 (by omega), u 4 (by omega), u 5 (by omega)]
    simp only [q, if_false]
theorem drw_lt {s b : Nat} (h : 0 < b) : drw s b < b := Nat.mod_lt _ h
theorem D0_draw {T : Mem} {p s b : Nat} (hR : rfC T p) (hs : T.2.1 0 6 = nI s) (hs31 : s < 2 ^ 31) (hb : b < 2 ^ 20) (h0 : 0 < b) : f_X8_draw 0 (nI b) T = some (nI (drw (nxs s) b), D0 T (nxs s)) := c_draw hR hs hs31 hb h0
theorem dr2_0 {n : Nat → Nat} {r c s2 s3 : Nat} : dr2 n r 0 c s2 s3 = (s2, va_up n 4 (setb (n 4) r true)) := rfl
theorem dr2_1 {n : Nat → Nat} {r c s2 s3 : Nat} : dr2 n r 1 c s2 s3 = (s2, va_up n 4 (setb (n 4) r false)) := rfl
theorem dr2_2 {n : Nat → Nat} {r c s2 s3 : Nat} : dr2 n r 2 c s2 s3 = (s3, va_up n (10 + r) c) := rfl
theorem dr2_3 {n : Nat → Nat} {r c s2 s3 : Nat} : dr2 n r 3 c s2 s3 = (s2, va_up n 5 (setb (n 5) r true)) := rfl
theorem dr2_4 {n : Nat → Nat} {r c s2 s3 : Nat} : dr2 n r 4 c s2 s3 = (s2, va_up n 5 (setb (n 5) r false)) := rfl
theorem dr2_wf {P : Pal} {hh r w c s2 s3 : Nat} {n : Nat → Nat} (hP : wfP P) (hw : wfN P hh n) (hr : r < rms P) (hw5 : w < 5) (hc : c < 10) : wfN P hh (dr2 n r w c s2 s3).2 := by
  rcases (by omega : w = 0 ∨ w = 1 ∨ w = 2 ∨ w = 3 ∨ w = 4) with rfl | rfl | rfl | rfl | rfl
  · exact wu_4 hw (setb_lt hw.2.2.2.2.1 hr)
  · exact wu_4 hw (setb_lt hw.2.2.2.2.1 hr)
  · exact wu_10 hw hr hP.1 (by omega)
  · exact wu_5 hw (setb_lt hw.2.2.2.2.2.1 hr)
  · exact wu_5 hw (setb_lt hw.2.2.2.2.2.1 hr)
theorem dr2_at {r w c s2 s3 j : Nat} {n : Nat → Nat} (hr : r < 8) (hw5 : w < 5) (hj : j = 1 ∨ (18 ≤ j ∧ j < 26)) : (dr2 n r w c s2 s3).2 j = n j := by
  rcases (by omega : w = 0 ∨ w = 1 ∨ w = 2 ∨ w = 3 ∨ w = 4) with rfl | rfl | rfl | rfl | rfl
  · rw [dr2_0]; exact (up_at).trans (if_neg (by omega))
  · rw [dr2_1]; exact (up_at).trans (if_neg (by omega))
  · rw [dr2_2]; exact (up_at).trans (if_neg (by omega))
  · rw [dr2_3]; exact (up_at).trans (if_neg (by omega))
  · rw [dr2_4]; exact (up_at).trans (if_neg (by omega))
theorem dr2_s {r w c s2 s3 : Nat} {n : Nat → Nat} (hw5 : w < 5) (h2 : s2 < 2 ^ 31) (h3 : s3 < 2 ^ 31) : (dr2 n r w c s2 s3).1 < 2 ^ 31 := by
  rcases (by omega : w = 0 ∨ w = 1 ∨ w = 2 ∨ w = 3 ∨ w = 4) with rfl | rfl | rfl | rfl | rfl
  · exact h2
  · exact h2
  · exact h3
  · exact h2
  · exact h2
/-- what is changed, the draws told -/
theorem c_ch2 {T2 T3 : Mem} {p hh r w c s2 s3 : Nat} {P : Pal} {n : Nat → Nat} (hR2 : rfC T2 p) (hP : wfP P) (st2 : StR T2 13 P n) (e6 : T2.2.1 0 6 = nI s2) (hw : wfN P hh n) (hr : r < rms P) (hw5 : w < 5) (hc : c < 10)
    (d3 : f_X8_draw 0 (nI 10) T2 = some (nI c, T3)) (st3 : StR T3 13 P n) (hR3 : rfC T3 p) (e63 : T3.2.1 0 6 = nI s3) (f3 : fr X0 T2 T3) :
    ∃ T', (if nI w = (0 : Int32) then
      (gI 4 5 T2 14).bind fun v9 =>
      (f_X8_withBit v9 (nI r) (1 : Int32)).bind fun v10 =>
      (pI 4 5 T2 14 v10).bind fun S11 =>
      some S11
      else
      if nI w = (1 : Int32) then
      (gI 4 5 T2 14).bind fun v12 =>
      (f_X8_withBit v12 (nI r) (0 : Int32)).bind fun v13 =>
      (pI 4 5 T2 14 v13).bind fun S14 =>
      some S14
      else
      if nI w = (2 : Int32) then
      (gI 4 3 T2 14).bind fun v15 =>
      (ck 8 T2 0).bind fun c16 =>
      (f_X8_draw 0 (10 : Int32) T2).bind fun q17 =>
      (pI 4 3 q17.2 14 (f_X8_withPacked v15 (nI r) q17.1)).bind fun S18 =>
      some S18
      else
      if nI w = (3 : Int32) then
      (gI 4 6 T2 14).bind fun v19 =>
      (f_X8_withBit v19 (nI r) (1 : Int32)).bind fun v20 =>
      (pI 4 6 T2 14 v20).bind fun S21 =>
      some S21
      else
      ((gI 4 6 T2 14).bind fun v22 =>
      (f_X8_withBit v22 (nI r) (0 : Int32)).bind fun v23 =>
      (pI 4 6 T2 14 v23).bind fun S24 =>
      some S24)) = some T' ∧ fr X0 T2 T' ∧ StR T' 13 P (dr2 n r w c s2 s3).2 ∧ T'.2.1 0 6 = nI (dr2 n r w c s2 s3).1 := by
  have hr8 := hP.1
  have h6 := hP.2.2.1
  obtain ⟨w0, w1, w2, w3, w4, w5, w6, w7, w8, w9, wn, wg, wc⟩ := wfb hP hw
  have hS2 := hR2.1
  have g5 : gI 4 5 T2 14 = some (nI (n 4)) := by rw [g_14 hS2]; exact congrArg (fun f => some (f 5)) st2.2.1
  have g6 : gI 4 6 T2 14 = some (nI (n 5)) := by rw [g_14 hS2]; exact congrArg (fun f => some (f 6)) st2.2.1
  have g3 : gI 4 3 T2 14 = some (nI (noiN P n)) := by rw [g_14 hS2]; exact congrArg (fun f => some (f 3)) st2.2.1
  have up5 : ∀ b : Bool, upd (T2.2.1 14) 5 (nI (setb (n 4) r b)) = slF P (va_up n 4 (setb (n 4) r b)) := fun b => by
    rw [show T2.2.1 14 = slF P n from st2.2.1]; exact slF_k hr8 (by omega)
  have up6 : ∀ b : Bool, upd (T2.2.1 14) 6 (nI (setb (n 5) r b)) = slF P (va_up n 5 (setb (n 5) r b)) := fun b => by
    rw [show T2.2.1 14 = slF P n from st2.2.1]; exact slF_k hr8 (by omega)
  rcases (by omega : w = 0 ∨ w = 1 ∨ w = 2 ∨ w = 3 ∨ w = 4) with rfl | rfl | rfl | rfl | rfl
  · refine ⟨_, bp rfl (bs g5 (bs (c_withBit (by omega) (by omega) true) (bs (p_14 hS2 5 _) rfl))), fr.rowI (by decide), ?_, e6⟩
    rw [up5 true]; exact StR_up st2 w9 h6 (by omega)
  · refine ⟨_, bn (by decide +kernel) (bp rfl (bs g5 (bs (c_withBit (by omega) (by omega) false) (bs (p_14 hS2 5 _) rfl)))), fr.rowI (by decide), ?_, e6⟩
    rw [up5 false]; exact StR_up st2 w9 h6 (by omega)
  · refine ⟨_, bn (by decide +kernel) (bn (by decide +kernel) (bp rfl (bs g3 (bs (c_0 hS2) (bs d3 (bs (p_14 hR3.1 3 _) rfl)))))), fr.tr f3 (fr.rowI (by decide)), ?_, e63⟩
    rw [c_wpk hP hw hr (by omega), show T3.2.1 14 = slF P n from st3.2.1, slF_3 hr8 (by omega)]
    exact StR_up st3 w9 h6 (by omega)
  · refine ⟨_, bn (by decide +kernel) (bn (by decide +kernel) (bn (by decide +kernel) (bp rfl (bs g6 (bs (c_withBit (by omega) (by omega) true) (bs (p_14 hS2 6 _) rfl)))))), fr.rowI (by decide), ?_, e6⟩
    rw [up6 true]; exact StR_up st2 w9 h6 (by omega)
  · refine ⟨_, bn (by decide +kernel) (bn (by decide +kernel) (bn (by decide +kernel) (bn (by decide +kernel) (bs g6 (bs (c_withBit (by omega) (by omega) false) (bs (p_14 hS2 6 _) rfl)))))), fr.rowI (by decide), ?_, e6⟩
    rw [up6 false]; exact StR_up st2 w9 h6 (by omega)
theorem c_change {T : Mem} {p hh s : Nat} {P : Pal} {n : Nat → Nat} (hR : rfC T p) (hP : wfP P) (hq : PaR T p P) (hst : StR T 13 P n) (hw : wfN P hh n) (h0 : 0 < rms P) (hs : T.2.1 0 6 = nI s) (hs31 : s < 2 ^ 31) :
    ∃ T', f_X8_changeByDraws 0 T = some T' ∧ fr X0 T T' ∧ StR T' 13 P (dr1 P s n).2 ∧ T'.2.1 0 6 = nI (dr1 P s n).1 := by
  have hr8 := hP.1
  have d1 := D0_draw hR hs hs31 (b := rms P) (by omega) h0
  have hR1 : rfC (D0 T (nxs s)) p := rfC_e hR rfl rfl
  have d2 := D0_draw hR1 D0_6 (nxs_lt s) (b := 5) (by omega) (by omega)
  have hR2 : rfC (D0 (D0 T (nxs s)) (nxs (nxs s))) p := rfC_e hR rfl rfl
  have d3 := D0_draw hR2 D0_6 (nxs_lt (nxs s)) (b := 10) (by omega) (by omega)
  have ep : gI 2 2 T p = some (nI (rms P)) := by rw [g_p hR.1 hR.2.1, hq.1]
  obtain ⟨T', t1, t2, t3, t4⟩ := c_ch2 hR2 hP (D0_st (D0_st hst)) D0_6 hw (drw_lt h0) (drw_lt (s := nxs (nxs s)) (b := 5) (by omega)) (drw_lt (by omega)) d3 (D0_st (D0_st (D0_st hst))) (rfC_e hR rfl rfl) D0_6 D0_fr
  exact ⟨T', bs (r_0_2 hR) (bs (r_13_0 hR) (bs (r_0_1 hR) (bs ep (bs (c_0 hR.1) (bs d1 (bs (c_0 hR1.1) (bs d2 t1))))))), fr.tr (fr.tr D0_fr D0_fr) t2, t3, t4⟩
theorem dr1_ex (P : Pal) (s : Nat) (n : Nat → Nat) (h0 : 0 < rms P) : ∃ r w c s2 s3, r < rms P ∧ w < 5 ∧ c < 10 ∧ s2 < 2 ^ 31 ∧ s3 < 2 ^ 31 ∧ dr1 P s n = dr2 n r w c s2 s3 :=
  ⟨_, _, _, _, _, drw_lt (s := nxs s) h0, drw_lt (s := nxs (nxs s)) (b := 5) (by decide), drw_lt (s := nxs (nxs (nxs s))) (b := 10) (by decide), nxs_lt (nxs s), nxs_lt (nxs (nxs s)), rfl⟩
theorem dr1_wf {P : Pal} {hh s : Nat} {n : Nat → Nat} (hP : wfP P) (hw : wfN P hh n) (h0 : 0 < rms P) : wfN P hh (dr1 P s n).2 := by
  obtain ⟨r, w, c, s2, s3, a1, a2, a3, a4, a5, e⟩ := dr1_ex P s n h0
  rw [e]; exact dr2_wf hP hw a1 a2 a3
theorem dr1_at {P : Pal} {s j : Nat} {n : Nat → Nat} (hP : wfP P) (h0 : 0 < rms P) (hj : j = 1 ∨ (18 ≤ j ∧ j < 26)) : (dr1 P s n).2 j = n j := by
  obtain ⟨r, w, c, s2, s3, a1, a2, a3, a4, a5, e⟩ := dr1_ex P s n h0
  have hr8 := hP.1
  rw [e]; exact dr2_at (by omega) a2 hj
theorem dr1_s {P : Pal} {s : Nat} {n : Nat → Nat} (h0 : 0 < rms P) : (dr1 P s n).1 < 2 ^ 31 := by
  obtain ⟨r, w, c, s2, s3, a1, a2, a3, a4, a5, e⟩ := dr1_ex P s n h0
  rw [e]; exact dr2_s a2 a4 a5
