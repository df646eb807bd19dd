theorem wu_7' {P : Pal} {h : Nat} {n : Nat → Nat} (hw : wfN P h n) {q : Nat} (hq : q < pts P) : wfN P h (va_up n 7 (setb (n 7) q false)) := wu_7 hw (setb_lt hw.2.2.2.2.2.2.2.1 hq)
theorem op_12 (x y : Int32) (S : Mem) (h : Inv S) : ∃ S1, sk_12 x y S = some S1 ∧ Inv S1 := by
  obtain ⟨p, A, hC, hM, hW⟩ := id h
  have hR := hC.1
  have hS := hR.1
  have hP : wfP A.1.1 := hW.1
  have hr8 := hP.1
  have h6 := hP.2.2.1
  have hw : wfN A.1.1 9060 A.1.2.2 := hW.2.2.1.1
  rcases tri x (r := pts A.1.1) (by omega) with hx | ⟨q, hq, rfl⟩
  · refine ⟨_, pick2 (v := -1000000001) (S1 := S) (S2 := S) ?_ ?_ hS hS, h⟩
    · unfold f_X8_chalk
      exact bs (c_0 hS) (bs (c_noPet1 hR hC.2.1.1.2.2.1 h6 hx) (bn nI10 rfl))
    · unfold f_X9_chalk
      exact bs (mck hS) (bs (m_isPet0 hS hM.1.2.2.2.1 h6 hx) (bp nI00 rfl))
  · rcases tri y (r := rms A.1.1) (by omega) with hy | ⟨j, hj, rfl⟩
    · refine ⟨_, pick2 (v := -1000000001) (S1 := S) (S2 := S) ?_ ?_ hS hS, h⟩
      · unfold f_X8_chalk
        exact bs (c_0 hS) (bs (c_noPet0 hR hC.2.1.1.2.2.1 h6 hq) (bp nI00 (bs (c_0 hS) (bs (c_noRoom1 hR hC.2.1.1.1 hr8 hy) (bn nI10 rfl)))))
      · unfold f_X9_chalk
        exact bs (mck hS) (bs (m_isPet1 hS hM.1.2.2.2.1 h6 hq) (bn nI10 (bs (mck hS) (bs (m_isRoom0 hS hM.1.2.1 hr8 hy) (bp nI00 rfl)))))
    · obtain ⟨w0, w1, w2, w3, w4, w5, w6, w7, w8, w9, wn, wg, wc⟩ := wfb hP hw
      have hw1 : wfN A.1.1 9060 (va_up A.1.2.2 (26 + q) j) := wu_26 hw hq hj
      have e7 : va_up A.1.2.2 (26 + q) j 7 = A.1.2.2 7 := by rw [up_at, if_neg (by omega)]
      have hw2 := wu_7' hw1 hq
      rw [e7] at hw2
      refine muta (m := va_up (va_up A.1.2.2 (26 + q) j) 7 (setb (A.1.2.2 7) q false)) (v := nI (A.1.2.2 (26 + q))) hC hM hW ⟨hw2, gd_up (P := A.1.1) (gd_up (P := A.1.1) hW.2.2.1.2 (by omega)) (by omega)⟩ ?_ ?_
      · intro S6 a1 a2
        have hR6 := a2.1
        have hS6 := hR6.1
        obtain ⟨⟨f2, f3, f4, f5⟩, hs, hbs, hy, hgv, hch⟩ : StR S6 13 A.1.1 A.1.2.2 := a2.2.2.1
        refine ⟨rowI (rowI S6 22 (upd (S6.2.1 22) q (nI j))) 13 (upd (S6.2.1 13) 4 (nI (setb (A.1.2.2 7) q false))), ?_, fr.tr (fr.rowI (by decide)) (fr.rowI (by decide)), ?_⟩
        · unfold f_X8_chalk
          exact bs (c_0 hS) (bs (c_noPet0 hR hC.2.1.1.2.2.1 h6 hq) (bp nI00 (bs (c_0 hS) (bs (c_noRoom0 hR hC.2.1.1.1 hr8 hj) (bp nI00 (bs (r_0_3 hR) (bs (r_0_2 hR) (bs (c_23 hS) (bs a1 (bs (r_0_2 hR6) (bs (r_13_7 hR6) (bs ((ld_22 hS6 (by omega)).trans (congrArg some (hch q hq))) (bs (r_0_2 hR6) (bs (r_13_7 hR6) (bs (st_22 hS6 (by omega) _) (bs (r_0_2 (rfC_e hR6 rfl rfl)) (bs (r_0_2 (rfC_e hR6 rfl rfl)) (bs ((g_13 (by exact hS6) 4).trans (congrArg some f4)) (bs (c_wbX (by omega) (by omega) 0) (bs (p_13 (by exact hS6) 4 _) rfl))))))))))))))))))))
        · have u : ∀ i, i ≠ 7 → i ≠ 26 + q → va_up (va_up A.1.2.2 (26 + q) j) 7 (setb (A.1.2.2 7) q false) i = A.1.2.2 i := fun i h1 h2 => by rw [up_at, if_neg h1, up_at, if_neg h2]
          refine ⟨⟨?_, ?_, ?_, ?_⟩, ?_, fun w hw => ?_, ?_, fun k hk => ?_, fun k hk => ?_⟩
          · rw [u 1 (by omega) (by omega)]; exact f2
          · rw [u 6 (by omega) (by omega)]; exact f3
          · rw [up_at, if_pos rfl]; rfl
          · rw [u 8 (by omega) (by omega)]; exact f5
          · have : slF A.1.1 (va_up (va_up A.1.2.2 (26 + q) j) 7 (setb (A.1.2.2 7) q false)) = slF A.1.1 A.1.2.2 := slF_congr (u 0 (by omega) (by omega)) (u 2 (by omega) (by omega)) (u 3 (by omega) (by omega)) (u 4 (by omega) (by omega)) (u 5 (by omega) (by omega)) (noi_congr (fun i h1 h2 => u i (by omega) (by omega))) (cnt_congr (fun i h1 h2 => u i (by omega) (by omega)))
            rw [this]; exact hs
          · rw [u 6 (by omega) (by omega)]; exact hbs w hw
          · exact wy_congr (u 9 (by omega) (by omega)) (fun i h1 h2 => u i (by omega) (by omega)) w9 hy
          · rw [u (18 + k) (by omega) (by omega)]; exact hgv k hk
          · show upd (S6.2.1 22) q (nI j) k = _
            rw [up_at, if_neg (by omega), up_at]
            by_cases z : k = q
            · rw [z, upd_s, if_pos rfl]
            · rw [upd_n z, if_neg (by omega)]; exact hch k hk
      · intro S7 S8 hR7 hM7 b1 b2 b3 b4
        have hn : S8.2.2.1 220 = LL A.1.2.2 := b2.2.1
        have es : S8 = sn S8 A.1.2.2 := (sn_self hn).symm
        have s1 := sn_st (S := S8) (n := A.1.2.2) b3.1 (k := 26 + q) (by omega) j
        rw [← es, ← nI_l (by omega)] at s1
        have s2 := sn_st (S := S8) (n := va_up A.1.2.2 (26 + q) j) b3.1 (k := 7) (by decide) (setb (A.1.2.2 7) q false)
        unfold f_X9_chalk
        rw [zi 26, nI_add]
        refine bs (mck hR7.1) (bs (m_isPet1 hR7.1 hM7.1.2.2.2.1 h6 hq) (bn nI10 (bs (mck hR7.1) (bs (m_isRoom1 hR7.1 hM7.1.2.1 hr8 hj) (bn nI10 (bs (mck hR7.1) (bs b1 (bs (mck b3.1) (bs (at_ b4.1 hn (by omega)) (bs (R_7 b3) (bs s1 (bs (R_7 (rfC_e b3 rfl rfl)) (bs (a := lN (A.1.2.2 7)) ((sn_ld b3.1 (by decide)).trans (by rw [e7])) ?_)))))))))))))
        rw [m_clr (by omega)]
        exact bs s2 rfl
