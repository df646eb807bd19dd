theorem pn_noi {P : Pal} {hh : Nat} {n : Nat → Nat} (hP : wfP P) (hw : wfN P hh n) {j : Nat} (hj : j < rms P) : noiN P n / 2 ^ (4 * j) % 16 = n (10 + j) := by
  obtain ⟨w0, w1, w2, w3, w4, w5, w6, w7, w8, w9, wn, wg, wc⟩ := wfb hP hw
  have hr := hP.1
  rw [noi_eq8 hP hw, pn_at (f := fun a => if a < 8 then n (10 + a) else 0) _ (show j < 8 by omega), if_pos (by omega)]
  intro a
  by_cases h : a < 8
  · have := wn a h; rw [if_pos h]; omega
  · rw [if_neg h]; decide
theorem zl_and (a b : Nat) : lN a &&& lN b = lN (a &&& b) := fb_andL a b
theorem sh15 {c j : Nat} (hc : c < 2 ^ 32) (hj : j < 8) : ((lN c >>> ((nI 4 * nI j).toInt64 &&& 63)) &&& lN 15).toInt32 = nI (c / 2 ^ (4 * j) % 16) := by
  rw [pk_mul, zl_shr (by omega) (by omega), zl_and, and15, lN_i]
theorem c_pullNow {S : Mem} {hh br : Nat} {P : Pal} {n : Nat → Nat} (hP : wfP P) (hb : SLb S 14 P br) (hs : S.2.1 14 = slF P n) (hw : wfN P hh n) {j : Nat} (hj : j < rms P) : f_X4_pullNow 14 (nI j) S = some (nI (plN (n 0) (n 4) (noiN P n) (cntN P n) (wornN n) j)) := by
  obtain ⟨w0, w1, w2, w3, w4, w5, w6, w7, w8, w9, wn, wg, wc⟩ := wfb hP hw
  have hr := hP.1
  have l1 := noi_lt (n := n) hP.1 (fun a ha => by have := wn a ha; omega)
  have l2 := cnt_lt32 (n := n) hP.1
  obtain ⟨s0, s1, s2, s3, s4, s5, s6⟩ := slF_at (P := P) (n := n)
  unfold f_X4_pullNow
  have := c_isWorn (S := S) (a := 14) (n := n) hb (by omega)
  rw [ss_self hs] at this
  have g : ∀ k, gI 4 k S 14 = some (slF P n k) := fun k => by have := ss_gI (k := k) (n := n) hb; rwa [ss_self hs] at this
  have c : ck 4 S 14 = some () := by have := ss_ck (n := n) hb; rwa [ss_self hs] at this
  simp only [g, c, this, Option.bind_some, s0, s3, s4, s5]
  rw [c_pullOf w0 (by omega) l1 (by omega) l2]; rfl
theorem slb_ {S : Mem} {p : Nat} {P : Pal} {n : Nat → Nat} (hR : rfC S p) (hbs : ∀ w, w < 8 → S.2.1 15 w = nI (bes P (n 6) w)) : SLb S 14 P (n 6) := by
  obtain ⟨a1, a2, a3, a4, a5⟩ := slk_14 hR
  exact ⟨a1, a2, a3, a4, a5, hbs⟩
theorem b01 (b : Bool) : (if nI (if b then 1 else 0) = nI 0 then some (nI 0) else some (nI 1)) = some (nI (if b then 1 else 0)) := by
  cases b <;> rfl
theorem nI10 : ¬ nI 1 = (0 : Int32) := by decide +kernel
theorem nI00 : nI 0 = (0 : Int32) := rfl
theorem op_4 (x y : Int32) (S : Mem) (h : Inv S) : ∃ S1, sk_4 x y S = some S1 ∧ Inv S1 := by
  obtain ⟨p, ⟨⟨P, pal, n⟩, ⟨us, uc⟩, ⟨im, ik, isd, sd⟩, ⟨tx, tn, lf⟩, ⟨bk, bo, bc⟩⟩, ⟨c1, c2, c3, c4, c5, c6, c7, c8, c9⟩, ⟨m1, m2, m3, m4, m5, m6, m7⟩, hw⟩ := id h
  dsimp only at c2 c3 c4 c7 c8 m1 m2 m3 m6 m7 hw
  refine ⟨S, ?_, h⟩
  have hS := c1.1
  have hP : wfP P := hw.1
  have hg : wfN P 9060 n := hw.2.2.1.1
  have hr8 := hP.1
  rcases tri x (r := rms P) (by omega) with hx | ⟨j, hj, rfl⟩
  · have e1 : f_X8_room 0 x y S = some (-1000000001 : Int32) := by
      unfold f_X8_room
      rw [c_0 hS, Option.bind_some, c_noRoom1 c1 c2.1.1 hr8 hx, Option.bind_some, if_neg nI10]
    have e2 : f_X9_room 216 x y S = some (-1000000001 : Int32) := by
      unfold f_X9_room
      rw [mck hS, Option.bind_some, m_isRoom0 hS m1.2.1 hr8 hx, Option.bind_some, if_pos nI00]
    exact pick e1 (e2.trans e1.symm) hS
  · obtain ⟨w0, w1, w2, w3, w4, w5, w6, w7, w8, w9, wn, wg, wc⟩ := wfb hP hg
    obtain ⟨⟨f2, f3, f4, f5⟩, hs, hbs, hy, hgv, hch⟩ := c3
    obtain ⟨s0, s1, s2, s3, s4, s5, s6⟩ := slF_at (P := P) (n := n)
    have l1 := noi_lt (n := n) hP.1 (fun a ha => by have := wn a ha; omega)
    have l2 := cnt_lt32 (n := n) hP.1
    have hM := RMb_ c1 m1 hP
    obtain ⟨r4, r5, r6, r7, -⟩ := mR hM.1
    have hat : ∀ k, k < 80 → f_X9_at 216 (nI k) S = some (nI (n k)) := fun k hk => at_ (rfC_M c1) m2 hk
    have e1 := c_pullNow hP (slb_ c1 hbs) hs hg hj
    have e2 : f_X8_packedAt (nI (noiN P n)) (nI j) = nI (n (10 + j)) := by rw [c_pkAt l1 (by omega), pn_noi hP hg hj]
    have e3 : f_X8_bit (nI (n 5)) (nI j) = nI (if (n 5).testBit j then 1 else 0) := c_bit (by omega) (by omega)
    have e4 : f_X9_has (lN (n 5)) (nI j) = some (nI (if (n 5).testBit j then 1 else 0)) := m_has (by omega) (by omega)
    have e5 : f_X9_has (lN (n 4)) (nI j) = some (nI (if (n 4).testBit j then 1 else 0)) := m_has (by omega) (by omega)
    have e6 : f_X9_counts 216 S = some (lN (cntN P n)) := by
      have := m_counts (n := n) hM (fun a ha => by have := wg a ha; omega)
      rwa [sn_self m2] at this
    have e7 : f_X9_isWorn 216 S = some (nI (if wornN n then 1 else 0)) := by
      have := m_isWorn (n := n) hM.1 (by omega)
      rwa [sn_self m2] at this
    have e8 : f_X9_beside 216 (nI j) S = some (nI (bes P (n 6) j)) := by
      have := m_beside (a := j) hM hg (by omega)
      rwa [sn_self m2] at this
    have e9 : f_X9_pull (nI (n 0)) (nI (n (10 + j))) (nI (if (n 4).testBit j then 1 else 0)) (nI (cntN P n / 2 ^ (4 * j) % 16)) (nI (if wornN n then 1 else 0)) = some (nI (plN (n 0) (n 4) (noiN P n) (cntN P n) (wornN n) j)) := by
      rw [m_pull w0 (by have := wn j (by omega); omega) (by omega)]
      unfold plN
      rw [pn_noi hP hg hj]
    have d4 : ldJ S 220 (nI 4) = some (lN (n 4)) := ldn_ hS m2 (by decide)
    have d5 : ldJ S 220 (nI 5) = some (lN (n 5)) := ldn_ hS m2 (by decide)
    have q1 : ∃ v, f_X8_room 0 (nI j) y S = some v := by
      unfold f_X8_room
      rw [c_0 hS, Option.bind_some, c_noRoom0 c1 c2.1.1 hr8 hj, Option.bind_some, if_pos nI00]
      simp only [r_0_2 c1, r_13_0 c1, r_13_6 c1, r_14_7 c1, Option.bind_some, g_14 hS, ld_15 hS (show j < 8 by omega), ld_21 hS (show j < 8 by omega), c_14 hS, e1]
      repeat' (first | exact ⟨_, rfl⟩ | apply ex_if)
    obtain ⟨v, q1⟩ := q1
    refine pick q1 ?_ hS
    unfold f_X8_room f_X9_room
    rw [c_0 hS, Option.bind_some, c_noRoom0 c1 c2.1.1 hr8 hj, Option.bind_some, if_pos nI00]
    rw [mck hS, Option.bind_some, m_isRoom1 hS m1.2.1 hr8 hj, Option.bind_some, if_neg nI10]
    simp only [r_0_2 c1, r_13_0 c1, r_13_6 c1, r_14_7 c1, Option.bind_some, g_14 hS, ld_15 hS (show j < 8 by omega), ld_21 hS (show j < 8 by omega), c_14 hS, e1, hs, s3, s5, s6, e2, e3, hbs j (by omega), hgv j (by omega), mck hS]
    simp only [zi, zj, nI_add, hat (10 + j) (by omega), hat (18 + j) (by omega), hat 0 (by omega), r7, d4, d5, e4, e5, e6, e7, e8, Option.bind_some, b01]
    have e10 : ((lN (cntN P n) >>> ((nI 4 * nI j).toInt64 &&& lN 63)) &&& lN 15).toInt32 = nI (cntN P n / 2 ^ (4 * j) % 16) := sh15 l2 (by omega)
    simp only [e10, e9, Option.bind_some]
theorem op_5 (x y : Int32) (S : Mem) (h : Inv S) : ∃ S1, sk_5 x y S = some S1 ∧ Inv S1 := by
  obtain ⟨p, ⟨⟨P, pal, n⟩, ⟨us, uc⟩, ⟨im, ik, isd, sd⟩, ⟨tx, tn, lf⟩, ⟨bk, bo, bc⟩⟩, ⟨c1, c2, c3, c4, c5, c6, c7, c8, c9⟩, ⟨m1, m2, m3, m4, m5, m6, m7⟩, hw⟩ := id h
  dsimp only at c2 c3 c4 c7 c8 m1 m2 m3 m6 m7 hw
  refine ⟨S, ?_, h⟩
  have hS := c1.1
  have hP : wfP P := hw.1
  have hg : wfN P 9060 n := hw.2.2.1.1
  have hp6 := hP.2.2.1
  rcases tri x (r := pts P) (by omega) with hx | ⟨j, hj, rfl⟩
  · have e1 : f_X8_petition 0 x y S = some (-1000000001 : Int32) := by
      unfold f_X8_petition
      rw [c_0 hS, Option.bind_some, c_noPet1 c1 c2.1.2.2.1 hp6 hx, Option.bind_some, if_neg nI10]
    have e2 : f_X9_petition 216 x y S = some (-1000000001 : Int32) := by
      unfold f_X9_petition
      rw [mck hS, Option.bind_some, m_isPet0 hS m1.2.2.2.1 hp6 hx, Option.bind_some, if_pos nI00]
    exact pick e1 (e2.trans e1.symm) hS
  · obtain ⟨w0, w1, w2, w3, w4, w5, w6, w7, w8, w9, wn, wg, wc⟩ := wfb hP hg
    obtain ⟨⟨f2, f3, f4, f5⟩, hs, hbs, hy, hgv, hch⟩ := c3
    have hM := RMb_ c1 m1 hP
    obtain ⟨r4, r5, r6, r7, -⟩ := mR hM.1
    have hat : ∀ k, k < 80 → f_X9_at 216 (nI k) S = some (nI (n k)) := fun k hk => at_ (rfC_M c1) m2 hk
    have e3 : f_X8_bit (nI (n 7)) (nI j) = nI (if (n 7).testBit j then 1 else 0) := c_bit (by omega) (by omega)
    have e4 : f_X9_has (lN (n 7)) (nI j) = some (nI (if (n 7).testBit j then 1 else 0)) := m_has (by omega) (by omega)
    have d7 : ldJ S 220 (nI 7) = some (lN (n 7)) := ldn_ hS m2 (by decide)
    have d9 : ldI S 219 (nI j) = some (nI (wor P j)) := by rw [ld_219 hS (by omega), m1.2.2.2.2.2.2 j hj]
    have q1 : ∃ v, f_X8_petition 0 (nI j) y S = some v := by
      unfold f_X8_petition
      rw [c_0 hS, Option.bind_some, c_noPet0 c1 c2.1.2.2.1 hp6 hj, Option.bind_some, if_pos nI00]
      simp only [r_0_2 c1, r_0_1 c1, r_13_7 c1, r_p_10 c1 c1.2.1, Option.bind_some, g_13 hS, ld_22 hS (show j < 6 by omega), ld_p4 hS c1.2.1 (show j < 6 by omega)]
      repeat' (first | exact ⟨_, rfl⟩ | apply ex_if)
    obtain ⟨v, q1⟩ := q1
    refine pick q1 ?_ hS
    unfold f_X8_petition f_X9_petition
    rw [c_0 hS, Option.bind_some, c_noPet0 c1 c2.1.2.2.1 hp6 hj, Option.bind_some, if_pos nI00]
    rw [mck hS, Option.bind_some, m_isPet1 hS m1.2.2.2.1 hp6 hj, Option.bind_some, if_neg nI10]
    simp only [r_0_2 c1, r_0_1 c1, r_13_7 c1, r_p_10 c1 c1.2.1, Option.bind_some, g_13 hS, ld_22 hS (show j < 6 by omega), ld_p4 hS c1.2.1 (show j < 6 by omega), f4, hch j hj, c2.1.2.2.2.2.2 j hj, e3]
    simp only [zi, zj, nI_add, mck hS, hat (26 + j) (by omega), r6, r7, d7, d9, e4, Option.bind_some, b01]
theorem dan_b (x : Int32) : ∀ (fu : Nat) (x1 : Int32) (y3 : Int64) (x5 : Int32), f_X9_dance_b34 fu x1 x y3 x5 = f_X8_dance_b30 fu x1 x y3 x5
  | 0, _, _, _ => rfl
  | fu + 1, x1, y3, x5 => by
    rw [f_X9_dance_b34, f_X8_dance_b30]
    simp only [Option.bind_some, dan_b x fu]
theorem dan_s (x2 : Int32) : ∀ (m k fu a : Nat) (y : Int64), a = k + m → m < fu → a < 2 ^ 31 → ∃ v, f_X8_dance_b30 fu (nI a) x2 y (nI k) = some v := by
  intro m
  induction m with
  | zero =>
    intro k fu a y hk hf ha
    obtain ⟨fu, rfl⟩ : ∃ z, fu = z + 1 := ⟨fu - 1, by omega⟩
    rw [f_X8_dance_b30, if_pos ((nI_leI (by omega) (by omega)).mpr (by omega))]
    exact ⟨_, rfl⟩
  | succ m ih =>
    intro k fu a y hk hf ha
    obtain ⟨fu, rfl⟩ : ∃ z, fu = z + 1 := ⟨fu - 1, by omega⟩
    rw [f_X8_dance_b30, if_neg (fun z => by have := (nI_leI (by omega) (by omega)).mp z; omega)]
    simp only [Option.bind_some, zi, nI_add]
    exact ih (k + 1) fu a _ (by omega) (by omega) ha
theorem op_26 (x y : Int32) (S : Mem) (h : Inv S) : ∃ S1, sk_26 x y S = some S1 ∧ Inv S1 := by
  obtain ⟨p, A, ⟨c1, -⟩, -⟩ := id h
  refine ⟨S, ?_, h⟩
  have hS := c1.1
  have g60 : nI 61 ≤ x ↔ nI 60 < x := by
    rw [Int32.le_iff_toInt_le, Int32.lt_iff_toInt_lt, nI_toInt (by omega), nI_toInt (by omega)]; omega
  have g100 : nI 101 ≤ y ↔ nI 100 < y := by
    rw [Int32.le_iff_toInt_le, Int32.lt_iff_toInt_lt, nI_toInt (by omega), nI_toInt (by omega)]; omega
  have n100 : ¬ y ≤ nI 100 ↔ nI 100 < y := by
    rw [Int32.le_iff_toInt_le, Int32.lt_iff_toInt_lt]; omega
  rcases tri x (r := 61) (by omega) with hx | ⟨j, hj, rfl⟩
  · rw [g60] at hx
    have e1 : f_X8_dance 0 x y = some (-1000000002 : Int32) := by
      unfold f_X8_dance
      rcases hx with hx | hx
      · rw [if_pos hx]
      · by_cases h0 : x < 0
        · rw [if_pos h0]
        · rw [if_neg h0, if_pos (show (60 : Int32) < x from hx)]
    have e2 : f_X9_dance 216 x y = some (-1000000002 : Int32) := by
      unfold f_X9_dance
      rw [zj 0, zj 60, in_k0 (by omega) (by omega) hx, Option.bind_some, if_pos nI00]
    exact pick e1 (e2.trans e1.symm) hS
  · have i1 : f_X9_in (nI j).toInt64 (lN 0) (lN 60) = some (nI 1) := by rw [in_kj (by omega) (by omega) (by omega), if_pos (by omega)]
    have a1 : ¬ nI j < 0 := nI_pos (by omega)
    have a2 : ¬ (60 : Int32) < nI j := by rw [zi 60, nI_ltI (by omega) (by omega)]; omega
    rcases tri y (r := 101) (by omega) with hy | ⟨i, hi, rfl⟩
    · rw [g100] at hy
      have e1 : f_X8_dance 0 (nI j) y = some (-1000000002 : Int32) := by
        unfold f_X8_dance
        rw [if_neg a1, if_neg a2]
        by_cases h0 : y < 0
        · rw [if_pos h0]
        · rw [if_neg h0, if_neg (show ¬ y ≤ (100 : Int32) from n100.mpr (hy.resolve_left h0))]
      have e2 : f_X9_dance 216 (nI j) y = some (-1000000002 : Int32) := by
        unfold f_X9_dance
        rw [zj 0, zj 60, i1, Option.bind_some, if_neg nI10, zj 100, in_k0 (by omega) (by omega) hy, Option.bind_some, if_pos nI00]
      exact pick e1 (e2.trans e1.symm) hS
    · have i2 : f_X9_in (nI i).toInt64 (lN 0) (lN 100) = some (nI 1) := by rw [in_kj (by omega) (by omega) (by omega), if_pos (by omega)]
      have b1 : ¬ nI i < 0 := nI_pos (by omega)
      have b2 : nI i ≤ (100 : Int32) := by rw [zi 100, nI_leI (by omega) (by omega)]; omega
      obtain ⟨v, hv⟩ := dan_s (nI i) j 0 FU j (1000000000 : Int64) (by omega) (by unfold FU; omega) (by omega)
      have e1 : f_X8_dance 0 (nI j) (nI i) = some v := by
        unfold f_X8_dance
        rw [if_neg a1, if_neg a2, if_neg b1, if_pos b2]
        exact hv
      have e2 : f_X9_dance 216 (nI j) (nI i) = some v := by
        unfold f_X9_dance
        rw [zj 0, zj 60, i1, Option.bind_some, if_neg nI10, zj 100, i2, Option.bind_some, if_neg nI10, dan_b]
        exact hv
      exact pick e1 (e2.trans e1.symm) hS
