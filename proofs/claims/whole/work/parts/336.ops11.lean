theorem op_8a (x y : Int32) (S : Mem) (h : Inv S) : ∃ S1, ((ck 8 S 0).bind fun _ => (f_X8_carpet 0 x y S).bind fun q2 => (ck 9 q2.2 216).bind fun _ => (f_X9_carpet 216 x y q2.2).bind fun q4 => if q2.1 = q4.1 then some q4.2 else none) = some S1 ∧ Inv S1 := by
  obtain ⟨p, A, hC, hM, hW⟩ := id h
  have hR := hC.1
  have hS := hR.1
  have hP : wfP A.1.1 := hW.1
  have hr8 := hP.1
  have h6 := hP.2.2.1
  have hw : wfN A.1.1 9060 A.1.2.2 := hW.2.2.1.1
  rcases tri x (r := rms A.1.1) (by omega) with hx | ⟨j, hj, rfl⟩
  · refine ⟨_, pick2 (v := -1000000001) (S1 := S) (S2 := S) (F := f_X8_carpet 0 x y S) (G := f_X9_carpet 216 x y) ?_ ?_ hS hS, h⟩
    · unfold f_X8_carpet
      exact bs (c_0 hS) (bs (c_noRoom1 hR hC.2.1.1.1 hr8 hx) (bn nI10 rfl))
    · unfold f_X9_carpet
      exact bs (mck hS) (bs (m_isRoom0 hS hM.1.2.1 hr8 hx) (bp nI00 rfl))
  · obtain ⟨w0, w1, w2, w3, w4, w5, w6, w7, w8, w9, wn, wg, wc⟩ := wfb hP hw
    refine muta (m := va_up A.1.2.2 4 (setb (A.1.2.2 4) j (!decide (y = 0)))) (v := nI (if (A.1.2.2 4).testBit j then 1 else 0)) hC hM hW ⟨wu_4 hw (setb_lt hw.2.2.2.2.1 hj), gd_up (P := A.1.1) hW.2.2.1.2 (by omega)⟩ ?_ ?_
    · intro S6 a1 a2
      have hR6 := a2.1
      have hS6 := hR6.1
      have st : StR S6 13 A.1.1 A.1.2.2 := a2.2.2.1
      have g : gI 4 5 S6 14 = some (nI (A.1.2.2 4)) := by rw [g_14 hS6]; show some (S6.2.1 (13 + 1) 5) = _; rw [st.2.1]; rfl
      refine ⟨rowI S6 14 (slF A.1.1 (va_up A.1.2.2 4 (setb (A.1.2.2 4) j (!decide (y = 0))))), ?_, fr.rowI (by decide), StR_up st w9 h6 (by omega)⟩
      unfold f_X8_carpet
      refine bs (c_0 hS) (bs (c_noRoom0 hR hC.2.1.1.1 hr8 hj) (bp nI00 (bs (r_0_3 hR) (bs (r_0_2 hR) (bs (c_23 hS) (bs a1 (bs (r_0_2 hR6) (bs (r_13_0 hR6) (bs g ?_)))))))))
      rw [c_bit (by omega) (by omega), Option.bind_some]
      refine bs (r_0_2 hR6) (bs (r_13_0 hR6) (bs (r_0_2 hR6) (bs (r_13_0 hR6) (bs g (bs (c_wbX (by omega) (by omega) y) (bs (p_14 hS6 5 _) ?_))))))
      have : upd (S6.2.1 14) 5 (nI (setb (A.1.2.2 4) j (!decide (y = 0)))) = slF A.1.1 (va_up A.1.2.2 4 (setb (A.1.2.2 4) j (!decide (y = 0)))) := by
        rw [show S6.2.1 14 = slF A.1.1 A.1.2.2 from st.2.1]; exact slF_k hr8 (by omega)
      rw [this]
    · intro S7 S8 hR7 hM7 b1 b2 b3 b4
      unfold f_X9_carpet
      exact bs (mck hR7.1) (bs (m_isRoom1 hR7.1 hM7.1.2.1 hr8 hj) (bn nI10 (bs (mck hR7.1) (bs (m_turns (f := 4) hR7 b1 b2 b3 (by decide) (by omega) (by omega) y) rfl))))
theorem op_8 (x y : Int32) (S : Mem) (h : Inv S) : ∃ S1, sk_8 x y S = some S1 ∧ Inv S1 := by
  unfold sk_8
  by_cases q : y = 0
  · rw [if_pos q]; exact op_8a x 0 S h
  · rw [if_neg q]; exact op_8a x 1 S h
theorem op_10a (x y : Int32) (S : Mem) (h : Inv S) : ∃ S1, ((ck 8 S 0).bind fun _ => (f_X8_nail 0 x y S).bind fun q2 => (ck 9 q2.2 216).bind fun _ => (f_X9_nail 216 x y q2.2).bind fun q4 => if q2.1 = q4.1 then some q4.2 else none) = some S1 ∧ Inv S1 := by
  obtain ⟨p, A, hC, hM, hW⟩ := id h
  have hR := hC.1
  have hS := hR.1
  have hP : wfP A.1.1 := hW.1
  have hr8 := hP.1
  have h6 := hP.2.2.1
  have hw : wfN A.1.1 9060 A.1.2.2 := hW.2.2.1.1
  rcases tri x (r := rms A.1.1) (by omega) with hx | ⟨j, hj, rfl⟩
  · refine ⟨_, pick2 (v := -1000000001) (S1 := S) (S2 := S) (F := f_X8_nail 0 x y S) (G := f_X9_nail 216 x y) ?_ ?_ hS hS, h⟩
    · unfold f_X8_nail
      exact bs (c_0 hS) (bs (c_noRoom1 hR hC.2.1.1.1 hr8 hx) (bn nI10 rfl))
    · unfold f_X9_nail
      exact bs (mck hS) (bs (m_isRoom0 hS hM.1.2.1 hr8 hx) (bp nI00 rfl))
  · obtain ⟨w0, w1, w2, w3, w4, w5, w6, w7, w8, w9, wn, wg, wc⟩ := wfb hP hw
    refine muta (m := va_up A.1.2.2 5 (setb (A.1.2.2 5) j (!decide (y = 0)))) (v := nI (if (A.1.2.2 5).testBit j then 1 else 0)) hC hM hW ⟨wu_5 hw (setb_lt hw.2.2.2.2.2.1 hj), gd_up (P := A.1.1) hW.2.2.1.2 (by omega)⟩ ?_ ?_
    · intro S6 a1 a2
      have hR6 := a2.1
      have hS6 := hR6.1
      have st : StR S6 13 A.1.1 A.1.2.2 := a2.2.2.1
      have g : gI 4 6 S6 14 = some (nI (A.1.2.2 5)) := by rw [g_14 hS6]; show some (S6.2.1 (13 + 1) 6) = _; rw [st.2.1]; rfl
      refine ⟨rowI S6 14 (slF A.1.1 (va_up A.1.2.2 5 (setb (A.1.2.2 5) j (!decide (y = 0))))), ?_, fr.rowI (by decide), StR_up st w9 h6 (by omega)⟩
      unfold f_X8_nail
      refine bs (c_0 hS) (bs (c_noRoom0 hR hC.2.1.1.1 hr8 hj) (bp nI00 (bs (r_0_3 hR) (bs (r_0_2 hR) (bs (c_23 hS) (bs a1 (bs (r_0_2 hR6) (bs (r_13_0 hR6) (bs g ?_)))))))))
      rw [c_bit (by omega) (by omega), Option.bind_some]
      refine bs (r_0_2 hR6) (bs (r_13_0 hR6) (bs (r_0_2 hR6) (bs (r_13_0 hR6) (bs g (bs (c_wbX (by omega) (by omega) y) (bs (p_14 hS6 6 _) ?_))))))
      have : upd (S6.2.1 14) 6 (nI (setb (A.1.2.2 5) j (!decide (y = 0)))) = slF A.1.1 (va_up A.1.2.2 5 (setb (A.1.2.2 5) j (!decide (y = 0)))) := by
        rw [show S6.2.1 14 = slF A.1.1 A.1.2.2 from st.2.1]; exact slF_k hr8 (by omega)
      rw [this]
    · intro S7 S8 hR7 hM7 b1 b2 b3 b4
      unfold f_X9_nail
      exact bs (mck hR7.1) (bs (m_isRoom1 hR7.1 hM7.1.2.1 hr8 hj) (bn nI10 (bs (mck hR7.1) (bs (m_turns (f := 5) hR7 b1 b2 b3 (by decide) (by omega) (by omega) y) rfl))))
theorem op_10 (x y : Int32) (S : Mem) (h : Inv S) : ∃ S1, sk_10 x y S = some S1 ∧ Inv S1 := by
  unfold sk_10
  by_cases q : y = 0
  · rw [if_pos q]; exact op_10a x 0 S h
  · rw [if_neg q]; exact op_10a x 1 S h
theorem op_13 (x y : Int32) (S : Mem) (h : Inv S) : ∃ S1, sk_13 x y S = some S1 ∧ Inv S1 := by
  obtain ⟨p, A, hC, hM, hW⟩ := id h
  have hR := hC.1
  have hS := hR.1
  have hP : wfP A.1.1 := hW.1
  have hr8 := hP.1
  have h6 := hP.2.2.1
  have hw : wfN A.1.1 9060 A.1.2.2 := hW.2.2.1.1
  have e0 : S.2.1 p 0 = nI (if A.1.2.1 then 1 else 0) := hC.2.1.2
  have e1 : S.2.1 216 0 = nI (if A.1.2.1 then 1 else 0) := hM.1.1
  cases hb : A.1.2.1 with
  | false =>
    rw [hb] at e0 e1
    refine ⟨_, pick2 (v := -1000000003) (S1 := S) (S2 := S) ?_ ?_ hS hS, h⟩
    · unfold f_X8_sole
      exact bs (r_0_1 hR) (bs ((g_p hS hR.2.1 0).trans (congrArg some e0)) (bp nI00 rfl))
    · unfold f_X9_sole
      exact bs ((mgI hS 0).trans (congrArg some e1)) (bp nI00 rfl)
  | true =>
    rw [hb] at e0 e1
    obtain ⟨w0, w1, w2, w3, w4, w5, w6, w7, w8, w9, wn, wg, wc⟩ := wfb hP hw
    refine muta (m := va_up A.1.2.2 3 0) (v := nI (A.1.2.2 3)) hC hM hW ⟨wu_3 hw (by omega), gd_up (P := A.1.1) hW.2.2.1.2 (by omega)⟩ ?_ ?_
    · intro S6 a1 a2
      have hR6 := a2.1
      have hS6 := hR6.1
      have st : StR S6 13 A.1.1 A.1.2.2 := a2.2.2.1
      have g : gI 4 2 S6 14 = some (nI (A.1.2.2 3)) := by rw [g_14 hS6]; show some (S6.2.1 (13 + 1) 2) = _; rw [st.2.1]; rfl
      refine ⟨rowI S6 14 (slF A.1.1 (va_up A.1.2.2 3 0)), ?_, fr.rowI (by decide), StR_up st w9 h6 (by omega)⟩
      unfold f_X8_sole
      refine bs (r_0_1 hR) (bs ((g_p hS hR.2.1 0).trans (congrArg some e0)) (bn nI10 (bs (r_0_3 hR) (bs (r_0_2 hR) (bs (c_23 hS) (bs a1 (bs (r_0_2 hR6) (bs (r_13_0 hR6) (bs g (bs (r_0_2 hR6) (bs (r_13_0 hR6) (bs (p_14 hS6 2 _) ?_))))))))))))
      have : upd (S6.2.1 14) 2 (nI 0) = slF A.1.1 (va_up A.1.2.2 3 0) := by
        rw [show S6.2.1 14 = slF A.1.1 A.1.2.2 from st.2.1]; exact slF_k hr8 (by omega)
      rw [zi 0, this]
    · intro S7 S8 hR7 hM7 b1 b2 b3 b4
      have e1 : S7.2.1 216 0 = nI 1 := by have := hM7.1.1; rw [hb] at this; exact this
      have hn : S8.2.2.1 220 = LL A.1.2.2 := b2.2.1
      have es : S8 = sn S8 A.1.2.2 := (sn_self hn).symm
      unfold f_X9_sole
      refine bs ((mgI hR7.1 0).trans (congrArg some e1)) (bn nI10 (bs (mck hR7.1) (bs b1 (bs (mck b3.1) (bs (at_ b4.1 hn (by decide)) (bs (R_7 b3) (bs (a := sn S8 (va_up A.1.2.2 3 0)) ?_ rfl)))))))
      have := sn_st (S := S8) (n := A.1.2.2) b3.1 (k := 3) (by decide) 0
      rw [← es] at this
      exact this
theorem op_14 (x y : Int32) (S : Mem) (h : Inv S) : ∃ S1, sk_14 x y S = some S1 ∧ Inv S1 := by
  obtain ⟨p, A, hC, hM, hW⟩ := id h
  have hR := hC.1
  have hS := hR.1
  have hP : wfP A.1.1 := hW.1
  have hr8 := hP.1
  have h6 := hP.2.2.1
  have hw : wfN A.1.1 9060 A.1.2.2 := hW.2.2.1.1
  have e0 : S.2.1 p 0 = nI (if A.1.2.1 then 1 else 0) := hC.2.1.2
  have e1 : S.2.1 216 0 = nI (if A.1.2.1 then 1 else 0) := hM.1.1
  rcases tri x (r := 64) (by omega) with hx | ⟨j, hj, rfl⟩
  · refine ⟨_, pick2 (v := -1000000001) (S1 := S) (S2 := S) ?_ ?_ hS hS, h⟩
    · unfold f_X8_teach
      exact bs (isNoRule1 hx) (bn nI10 rfl)
    · unfold f_X9_teach
      exact bs (isRule0 hx) (bp nI00 rfl)
  · cases hb : A.1.2.1 with
    | false =>
      rw [hb] at e0 e1
      refine ⟨_, pick2 (v := -1000000003) (S1 := S) (S2 := S) ?_ ?_ hS hS, h⟩
      · unfold f_X8_teach
        exact bs (isNoRule0 hj) (bp nI00 (bs (r_0_1 hR) (bs ((g_p hS hR.2.1 0).trans (congrArg some e0)) (bp nI00 rfl))))
      · unfold f_X9_teach
        exact bs (isRule1 hj) (bn nI10 (bs ((mgI hS 0).trans (congrArg some e1)) (bp nI00 rfl)))
    | true =>
      rw [hb] at e0 e1
      obtain ⟨w0, w1, w2, w3, w4, w5, w6, w7, w8, w9, wn, wg, wc⟩ := wfb hP hw
      refine muta (m := va_up A.1.2.2 0 j) (v := nI (A.1.2.2 0)) hC hM hW ⟨wu_0 hw hj, gd_up (P := A.1.1) hW.2.2.1.2 (by omega)⟩ ?_ ?_
      · intro S6 a1 a2
        have hR6 := a2.1
        have hS6 := hR6.1
        have st : StR S6 13 A.1.1 A.1.2.2 := a2.2.2.1
        have g : gI 4 0 S6 14 = some (nI (A.1.2.2 0)) := by rw [g_14 hS6]; show some (S6.2.1 (13 + 1) 0) = _; rw [st.2.1]; rfl
        refine ⟨rowI S6 14 (slF A.1.1 (va_up A.1.2.2 0 j)), ?_, fr.rowI (by decide), StR_up st w9 h6 (by omega)⟩
        unfold f_X8_teach
        refine bs (isNoRule0 hj) (bp nI00 (bs (r_0_1 hR) (bs ((g_p hS hR.2.1 0).trans (congrArg some e0)) (bn nI10 (bs (r_0_3 hR) (bs (r_0_2 hR) (bs (c_23 hS) (bs a1 (bs (r_0_2 hR6) (bs (r_13_0 hR6) (bs g (bs (r_0_2 hR6) (bs (r_13_0 hR6) (bs (p_14 hS6 0 _) ?_))))))))))))))
        have : upd (S6.2.1 14) 0 (nI j) = slF A.1.1 (va_up A.1.2.2 0 j) := by
          rw [show S6.2.1 14 = slF A.1.1 A.1.2.2 from st.2.1]; exact slF_0 hr8
        rw [this]
      · intro S7 S8 hR7 hM7 b1 b2 b3 b4
        have e1 : S7.2.1 216 0 = nI 1 := by have := hM7.1.1; rw [hb] at this; exact this
        have hn : S8.2.2.1 220 = LL A.1.2.2 := b2.2.1
        have es : S8 = sn S8 A.1.2.2 := (sn_self hn).symm
        unfold f_X9_teach
        refine bs (isRule1 hj) (bn nI10 (bs ((mgI hR7.1 0).trans (congrArg some e1)) (bn nI10 (bs (mck hR7.1) (bs b1 (bs (mck b3.1) (bs (at_ b4.1 hn (by decide)) (bs (R_7 b3) (bs (a := sn S8 (va_up A.1.2.2 0 j)) ?_ rfl)))))))))
        have := sn_st (S := S8) (n := A.1.2.2) b3.1 (k := 0) (by decide) j
        rw [← es, ← nI_l (by omega)] at this
        exact this
theorem op_9 (x y : Int32) (S : Mem) (h : Inv S) : ∃ S1, sk_9 x y S = some S1 ∧ Inv S1 := by
  obtain ⟨p, A, hC, hM, hW⟩ := id h
  have hR := hC.1
  have hS := hR.1
  have hP : wfP A.1.1 := hW.1
  have hr8 := hP.1
  have h6 := hP.2.2.1
  have hw : wfN A.1.1 9060 A.1.2.2 := hW.2.2.1.1
  have n1 : ¬ y ≤ nI 9 ↔ nI 9 < y := by rw [Int32.le_iff_toInt_le, Int32.lt_iff_toInt_lt]; omega
  have g1 : nI 10 ≤ y ↔ nI 9 < y := by rw [Int32.le_iff_toInt_le, Int32.lt_iff_toInt_lt, nI_toInt (by omega), nI_toInt (by omega)]; omega
  rcases tri x (r := rms A.1.1) (by omega) with hx | ⟨j, hj, rfl⟩
  · refine ⟨_, pick2 (v := -1000000001) (S1 := S) (S2 := S) ?_ ?_ hS hS, h⟩
    · unfold f_X8_noise
      exact bs (c_0 hS) (bs (c_noRoom1 hR hC.2.1.1.1 hr8 hx) (bn nI10 rfl))
    · unfold f_X9_noise
      exact bs (mck hS) (bs (m_isRoom0 hS hM.1.2.1 hr8 hx) (bp nI00 rfl))
  · rcases tri y (r := 10) (by omega) with hy | ⟨c, hc, rfl⟩
    · rw [g1] at hy
      refine ⟨_, pick2 (v := -1000000002) (S1 := S) (S2 := S) ?_ ?_ hS hS, h⟩
      · unfold f_X8_noise
        refine bs (c_0 hS) (bs (c_noRoom0 hR hC.2.1.1.1 hr8 hj) (bp nI00 ?_))
        by_cases h0 : y < 0
        · exact bp h0 rfl
        · exact bn h0 (bn (show ¬ y ≤ (9 : Int32) from n1.mpr (hy.resolve_left h0)) rfl)
      · unfold f_X9_noise
        exact bs (mck hS) (bs (m_isRoom1 hS hM.1.2.1 hr8 hj) (bn nI10 (bs (in_k0 (a := 0) (b := 9) (by omega) (by omega) hy) (bp nI00 rfl))))
    · obtain ⟨w0, w1, w2, w3, w4, w5, w6, w7, w8, w9, wn, wg, wc⟩ := wfb hP hw
      have l1 := noi_lt (n := A.1.2.2) hP.1 (fun a ha => by have := wn a ha; omega)
      have hw' : wfN A.1.1 9060 (va_up A.1.2.2 (10 + j) c) := wu_10 hw hj hr8 (by omega)
      have hpk : f_X8_withPacked (nI (noiN A.1.1 A.1.2.2)) (nI j) (nI c) = nI (noiN A.1.1 (va_up A.1.2.2 (10 + j) c)) := by
        rw [noi_eq8 hP hw, noi_eq8 hP hw', c_withPacked (fun a => ?_) (by omega) (by omega)]
        · congr 1
          refine pn_congr _ (fun a ha => ?_)
          rw [up_at, up_at]
          by_cases q : a = j
          · rw [if_pos q, if_pos ha, if_pos (by omega)]
          · rw [if_neg q, if_pos ha, if_pos ha, if_neg (by omega)]
        · by_cases q : a < 8
          · have := wn a q; simp only [q, if_true]; omega
          · simp only [q, if_false]; decide
      refine muta (m := va_up A.1.2.2 (10 + j) c) (v := nI (A.1.2.2 (10 + j))) hC hM hW ⟨hw', gd_up (P := A.1.1) hW.2.2.1.2 (by omega)⟩ ?_ ?_
      · intro S6 a1 a2
        have hR6 := a2.1
        have hS6 := hR6.1
        have st : StR S6 13 A.1.1 A.1.2.2 := a2.2.2.1
        have g : gI 4 3 S6 14 = some (nI (noiN A.1.1 A.1.2.2)) := by rw [g_14 hS6]; show some (S6.2.1 (13 + 1) 3) = _; rw [st.2.1]; rfl
        refine ⟨rowI S6 14 (slF A.1.1 (va_up A.1.2.2 (10 + j) c)), ?_, fr.rowI (by decide), StR_up st w9 h6 (by omega)⟩
        unfold f_X8_noise
        refine bs (c_0 hS) (bs (c_noRoom0 hR hC.2.1.1.1 hr8 hj) (bp nI00 (bn (nI_pos (by omega)) (bp (by rw [zi 9, nI_leI (by omega) (by omega)]; omega) (bs (r_0_3 hR) (bs (r_0_2 hR) (bs (c_23 hS) (bs a1 (bs (r_0_2 hR6) (bs (r_13_0 hR6) (bs g ?_)))))))))))
        rw [c_pkAt l1 (by omega), pn_noi hP hw hj, Option.bind_some]
        refine bs (r_0_2 hR6) (bs (r_13_0 hR6) (bs (r_0_2 hR6) (bs (r_13_0 hR6) (bs g (bs (p_14 hS6 3 _) ?_)))))
        have : upd (S6.2.1 14) 3 (nI (noiN A.1.1 (va_up A.1.2.2 (10 + j) c))) = slF A.1.1 (va_up A.1.2.2 (10 + j) c) := by
          rw [show S6.2.1 14 = slF A.1.1 A.1.2.2 from st.2.1]
          funext k
          by_cases q : k = 3
          · subst q; rw [upd_s]; rfl
          · rw [upd_n q]
            unfold slF
            have u : ∀ i, i < 10 → va_up A.1.2.2 (10 + j) c i = A.1.2.2 i := fun i hi => by rw [up_at, if_neg (by omega)]
            rw [cnt_up hr8 (by omega), u 0 (by omega), u 2 (by omega), u 3 (by omega), u 4 (by omega), u 5 (by omega)]
            simp only [q, if_false]
        rw [hpk, this]
      · intro S7 S8 hR7 hM7 b1 b2 b3 b4
        have hn : S8.2.2.1 220 = LL A.1.2.2 := b2.2.1
        have es : S8 = sn S8 A.1.2.2 := (sn_self hn).symm
        unfold f_X9_noise
        rw [zi 10, nI_add]
        refine bs (mck hR7.1) (bs (m_isRoom1 hR7.1 hM7.1.2.1 hr8 hj) (bn nI10 (bs (a := nI 1) ((in_kj (j := c) (a := 0) (b := 9) (by omega) (by omega) (by omega)).trans (by rw [if_pos (by omega)])) (bn nI10 (bs (mck hR7.1) (bs b1 (bs (mck b3.1) (bs (at_ b4.1 hn (by omega)) (bs (R_7 b3) (bs (a := sn S8 (va_up A.1.2.2 (10 + j) c)) ?_ rfl))))))))))
        have := sn_st (S := S8) (n := A.1.2.2) b3.1 (k := 10 + j) (by omega) c
        rw [← es, ← nI_l (by omega)] at this
        exact this
