theorem R_4 {S : Mem} {p : Nat} (h : rfC S p) : gR 9 4 S 216 = some 217 := by
  rw [gR, if_pos ⟨by rw [h.1]; decide, by decide +kernel⟩, h.2.2 216 (by decide) 4 (by decide)]; rfl
theorem R_5 {S : Mem} {p : Nat} (h : rfC S p) : gR 9 5 S 216 = some 218 := by
  rw [gR, if_pos ⟨by rw [h.1]; decide, by decide +kernel⟩, h.2.2 216 (by decide) 5 (by decide)]; rfl
theorem R_6 {S : Mem} {p : Nat} (h : rfC S p) : gR 9 6 S 216 = some 219 := by
  rw [gR, if_pos ⟨by rw [h.1]; decide, by decide +kernel⟩, h.2.2 216 (by decide) 6 (by decide)]; rfl
theorem R_7 {S : Mem} {p : Nat} (h : rfC S p) : gR 9 7 S 216 = some 220 := by
  rw [gR, if_pos ⟨by rw [h.1]; decide, by decide +kernel⟩, h.2.2 216 (by decide) 7 (by decide)]; rfl
theorem R_9 {S : Mem} {p : Nat} (h : rfC S p) : gR 9 9 S 216 = some 221 := by
  rw [gR, if_pos ⟨by rw [h.1]; decide, by decide +kernel⟩, h.2.2 216 (by decide) 9 (by decide)]; rfl
theorem R_14 {S : Mem} {p : Nat} (h : rfC S p) : gR 9 14 S 216 = some 222 := by
  rw [gR, if_pos ⟨by rw [h.1]; decide, by decide +kernel⟩, h.2.2 216 (by decide) 14 (by decide)]; rfl
theorem R_15 {S : Mem} {p : Nat} (h : rfC S p) : gR 9 15 S 216 = some 223 := by
  rw [gR, if_pos ⟨by rw [h.1]; decide, by decide +kernel⟩, h.2.2 216 (by decide) 15 (by decide)]; rfl
theorem R_17 {S : Mem} {p : Nat} (h : rfC S p) : gR 9 17 S 216 = some 224 := by
  rw [gR, if_pos ⟨by rw [h.1]; decide, by decide +kernel⟩, h.2.2 216 (by decide) 17 (by decide)]; rfl
theorem R_18 {S : Mem} {p : Nat} (h : rfC S p) : gR 9 18 S 216 = some 225 := by
  rw [gR, if_pos ⟨by rw [h.1]; decide, by decide +kernel⟩, h.2.2 216 (by decide) 18 (by decide)]; rfl
theorem R_19 {S : Mem} {p : Nat} (h : rfC S p) : gR 9 19 S 216 = some 226 := by
  rw [gR, if_pos ⟨by rw [h.1]; decide, by decide +kernel⟩, h.2.2 216 (by decide) 19 (by decide)]; rfl
theorem R_20 {S : Mem} {p : Nat} (h : rfC S p) : gR 9 20 S 216 = some 227 := by
  rw [gR, if_pos ⟨by rw [h.1]; decide, by decide +kernel⟩, h.2.2 216 (by decide) 20 (by decide)]; rfl
theorem R_21 {S : Mem} {p : Nat} (h : rfC S p) : gR 9 21 S 216 = some 228 := by
  rw [gR, if_pos ⟨by rw [h.1]; decide, by decide +kernel⟩, h.2.2 216 (by decide) 21 (by decide)]; rfl
theorem R_22 {S : Mem} {p : Nat} (h : rfC S p) : gR 9 22 S 216 = some 229 := by
  rw [gR, if_pos ⟨by rw [h.1]; decide, by decide +kernel⟩, h.2.2 216 (by decide) 22 (by decide)]; rfl
theorem R_23 {S : Mem} {p : Nat} (h : rfC S p) : gR 9 23 S 216 = some 230 := by
  rw [gR, if_pos ⟨by rw [h.1]; decide, by decide +kernel⟩, h.2.2 216 (by decide) 23 (by decide)]; rfl
theorem R_25 {S : Mem} {p : Nat} (h : rfC S p) : gR 9 25 S 216 = some 231 := by
  rw [gR, if_pos ⟨by rw [h.1]; decide, by decide +kernel⟩, h.2.2 216 (by decide) 25 (by decide)]; rfl
theorem R_26 {S : Mem} {p : Nat} (h : rfC S p) : gR 9 26 S 216 = some 232 := by
  rw [gR, if_pos ⟨by rw [h.1]; decide, by decide +kernel⟩, h.2.2 216 (by decide) 26 (by decide)]; rfl
theorem l9m : ∀ r, r < 17 → lN r - (1 : Int64) = (nI r - (1 : Int32)).toInt64 := by decide +kernel
theorem op_6 (x y : Int32) (S : Mem) (h : Inv S) : ∃ S1, sk_6 x y S = some S1 ∧ Inv S1 := by
  obtain ⟨p, ⟨⟨P, pal, n⟩, ⟨us, uc⟩, ⟨im, ik, isd, sd⟩, ⟨tx, tn, lf⟩, ⟨bk, bo, bc⟩⟩, ⟨c1, c2, c3, c4, c5, c6, c7, c8, c9⟩, ⟨m1, m2, m3, m4, m5, m6, m7⟩, hw⟩ := id h
  dsimp only at c2 c3 c4 c7 c8 m1 m2 m3 m6 m7 hw
  refine ⟨S, ?_, h⟩
  have hS := c1.1
  have hP : wfP P := hw.1
  have hg : wfN P 9060 n := hw.2.2.1.1
  obtain ⟨w0, w1, w2, w3, w4, w5, w6, w7, w8, w9, wn, wg, wc⟩ := wfb hP hg
  obtain ⟨⟨f2, f3, f4, f5⟩, hs, hbs, ⟨fr, y0, y1, y2, y3, y4⟩, hgv, hch⟩ := c3
  have hM := RMb_ c1 m1 hP
  obtain ⟨r4, r5, r6, r7, -⟩ := mR hM.1
  have d9 : ldJ S 220 (nI 9) = some (lN (n 9)) := ldn_ hS m2 (by decide)
  rcases tri x (r := n 9) (by omega) with hx | ⟨j, hj, rfl⟩
  · have e1 : f_X8_went 0 x S = some (-1 : Int32) := by
      unfold f_X8_went
      by_cases h0 : x < 0
      · rw [if_pos h0]
      · rw [if_neg h0, r_0_2 c1, Option.bind_some, r_13_1 c1, Option.bind_some, g_16 hS, y1, Option.bind_some, if_neg]
        intro z
        have a := Int32.lt_iff_toInt_lt.mp z
        have b := Int32.le_iff_toInt_le.mp (hx.resolve_left h0)
        omega
    have e2 : f_X9_went 216 x S = some (-1 : Int32) := by
      unfold f_X9_went
      rw [r7, Option.bind_some, zi 9, d9, Option.bind_some, l9m _ (by omega), in_r0 (by omega) hx, Option.bind_some, if_pos nI00]
    exact pick e1 (e2.trans e1.symm) hS
  · obtain ⟨i, hi⟩ : ∃ i, i + j + 1 = n 9 := ⟨n 9 - 1 - j, by omega⟩
    obtain ⟨v1, v2, -, -, -, -, v7, -⟩ := y4 i (by omega)
    have hx : (fr + 16 - n 9 + i) % 16 = (fr + 15 - j) % 16 := by congr 1; omega
    rw [hx] at v1
    have hl : n (32 + 3 * i) < 2 ^ 62 := by omega
    have e1 : f_X8_went 0 (nI j) S = some (nI (10 * (n (32 + 3 * i) % 8) + n (32 + 3 * i) / 8 % 8)) := by
      unfold f_X8_went f_X7_fromAndTo
      rw [if_neg (nI_pos (by omega)), r_0_2 c1, Option.bind_some, r_13_1 c1, Option.bind_some, g_16 hS, y1, Option.bind_some, if_pos ((nI_ltI (by omega) (by omega)).mpr hj)]
      simp only [Option.bind_some, r_13_1 c1, c_16 hS, r_16_2 c1, g_16 hS, y2]
      rw [zi 16, zi 1, nI_add, pk_sub (by omega), pk_sub (by omega), z_rem (by omega) (by omega) (by omega), show fr + 16 - 1 - j = fr + 15 - j by omega, ld_17 hS (by omega)]
      exact congrArg some v1
    have e2 : f_X9_went 216 (nI j) S = some (nI (10 * (n (32 + 3 * i) % 8) + n (32 + 3 * i) / 8 % 8)) := by
      unfold f_X9_went f_X9_wayFrom f_X9_wayTo
      have a3 : ((lN (n (32 + 3 * i)) >>> ((3 : Int32).toInt64 &&& 63)) &&& (7 : Int64)).toInt32 = nI (n (32 + 3 * i) / 8 % 8) := by
        rw [zi 3, zl_shr hl (by omega), zj 7, zl_and, lN_i, show 7 = 2 ^ 3 - 1 from rfl, Nat.and_two_pow_sub_one_eq_mod]
      have a4 : ((lN (n (32 + 3 * i))) &&& (7 : Int64)).toInt32 = nI (n (32 + 3 * i) % 8) := by
        rw [zj 7, zl_and, lN_i, show 7 = 2 ^ 3 - 1 from rfl, Nat.and_two_pow_sub_one_eq_mod]
      have a5 : nI (n 9) - (1 : Int32) - nI j = nI i := by
        rw [zi 1, pk_sub (by omega), pk_sub (by omega), show n 9 - 1 - j = i by omega]
      have a6 : (32 : Int32) + (3 : Int32) * nI i = nI (32 + 3 * i) := by rw [zi 32, zi 3, pk_mul, nI_add]
      rw [r7, Option.bind_some, zi 9, d9, Option.bind_some, l9m _ (by omega), in_r1 (by omega) hj, Option.bind_some, if_neg nI10, mck hS, Option.bind_some, at_ hM.1 m2 (by omega), Option.bind_some, a5, Option.bind_some, a6]
      simp only [Option.bind_some, ldn_ hS m2 (show 32 + 3 * i < 80 by omega), a3, a4]
      rw [zi 10, pk_mul, nI_add]
    exact pick e1 (e2.trans e1.symm) hS
/-- the first of m from k that is wrong -/
def fwr (g : Nat → Bool) : Nat → Nat → Int32
  | _, 0 => -1
  | k, m + 1 => if g k then nI k else fwr g (k + 1) m
theorem op_33 (x y : Int32) (S : Mem) (h : Inv S) : ∃ S1, sk_33 x y S = some S1 ∧ Inv S1 := by
  obtain ⟨p, ⟨⟨P, pal, n⟩, ⟨us, uc⟩, ⟨im, ik, isd, sd⟩, ⟨tx, tn, lf⟩, ⟨bk, bo, bc⟩⟩, ⟨c1, c2, c3, c4, c5, c6, c7, c8, c9⟩, ⟨m1, m2, m3, m4, m5, m6, m7⟩, hw⟩ := id h
  dsimp only at c2 c3 c4 c7 c8 m1 m2 m3 m6 m7 hw
  refine ⟨S, ?_, h⟩
  have hS := c1.1
  have hP : wfP P := hw.1
  have hg : wfN P 9060 n := hw.2.2.1.1
  have hb : bc ≤ 15 := hw.2.2.2.2.2.2.2.2.2.1
  have hbb : ∀ k, k < bc → bk k < rms P ∧ bo k ≤ 9999 := hw.2.2.2.2.2.2.2.2.2.2
  have hr8 := hP.1
  obtain ⟨w0, w1, w2, w3, w4, w5, w6, w7, w8, w9, wn, wg, wc⟩ := wfb hP hg
  obtain ⟨⟨f2, f3, f4, f5⟩, hs, hbs, hy, hgv, hch⟩ := c3
  have hM := RMb_ c1 m1 hP
  have r7 : gR 9 7 S 216 = some 220 := (mR hM.1).2.2.2.1
  have r23 := R_23 c1
  have hc : ∀ m k fu, bc = k + m → m < fu → f_X0_firstWrong_b2 S fu 186 21 (nI k) = some (fwr (fun k => !decide (n (18 + bk k) = bo k)) k m) := by
    intro m
    induction m with
    | zero =>
      intro k fu hk hf
      obtain ⟨fu, rfl⟩ : ∃ z, fu = z + 1 := ⟨fu - 1, by omega⟩
      rw [f_X0_firstWrong_b2, g_186 hS, c8.1, Option.bind_some, if_pos ((nI_leI (by omega) (by omega)).mpr (by omega))]
      rfl
    | succ m ih =>
      intro k fu hk hf
      obtain ⟨fu, rfl⟩ : ∃ z, fu = z + 1 := ⟨fu - 1, by omega⟩
      have q1 := hbb k (by omega)
      have q2 := wg (bk k) (by omega)
      rw [f_X0_firstWrong_b2, g_186 hS, c8.1, Option.bind_some, if_neg (fun z => by have := (nI_leI (by omega) (by omega)).mp z; omega)]
      rw [r_186_1 c1, Option.bind_some, ld_187 hS (by omega), (c8.2 k (by omega)).1, Option.bind_some, ld_21 hS (by omega), hgv _ (by omega), Option.bind_some, r_186_2 c1, Option.bind_some, ld_188 hS (by omega), (c8.2 k (by omega)).2, Option.bind_some]
      simp only [fwr]
      by_cases h1 : n (18 + bk k) = bo k
      · rw [if_pos (by rw [h1]), Option.bind_some, zi 1, nI_add, ih (k + 1) fu (by omega) (by omega)]
        simp [h1]
      · rw [if_neg (fun z => h1 ((nI_eq (by omega) (by omega)).mp z))]
        simp [h1]
  have hm : ∀ j fu, j ≤ bc → j < fu → f_X9_judge_b9 S fu 216 (fwr (fun k => !decide (n (18 + bk k) = bo k)) j (bc - j)) (nI j - (1 : Int32)) = some (fwr (fun k => !decide (n (18 + bk k) = bo k)) 0 bc) := by
    intro j
    induction j with
    | zero =>
      intro fu hj hf
      obtain ⟨fu, rfl⟩ : ∃ z, fu = z + 1 := ⟨fu - 1, by omega⟩
      rw [f_X9_judge_b9, if_pos (by decide +kernel)]; rfl
    | succ j ih =>
      intro fu hj hf
      obtain ⟨fu, rfl⟩ : ∃ z, fu = z + 1 := ⟨fu - 1, by omega⟩
      have q1 := hbb j (by omega)
      have q2 := wg (bk j) (by omega)
      have q3 : nI j + (-1 : Int32) = nI j - (1 : Int32) := (Int32.sub_eq_add_neg _ _).symm
      have ih := ih fu (by omega) (by omega)
      rw [show bc - j = (bc - (j + 1)) + 1 by omega, fwr] at ih
      rw [show nI (j + 1) - (1 : Int32) = nI j by rw [zi 1, pk_sub (by omega)]; rfl]
      rw [f_X9_judge_b9, if_neg (nI_pos (by omega)), r7, Option.bind_some, r23, Option.bind_some]
      rw [zi 2, pk_mul, ld_230 hS (by omega), (m7.2 j (by omega)).1, Option.bind_some, zi 18, nI_add, ldn_ hS m2 (by omega), Option.bind_some, Option.bind_some, zi 1, nI_add, ld_230 hS (by omega), (m7.2 j (by omega)).2, Option.bind_some, nI_l (by omega)]
      simp only [f_X9_judge_b49, Option.bind_some, q3]
      by_cases h1 : n (18 + bk j) = bo j
      · rw [if_pos (show lg_cmp (lN (n (18 + bk j))) (lN (bo j)) = (0 : Int32) from (lc_eq (by omega) (by omega)).mpr h1)]
        simpa [h1] using ih
      · rw [if_neg (show ¬ lg_cmp (lN (n (18 + bk j))) (lN (bo j)) = (0 : Int32) from fun z => h1 ((lc_eq (by omega) (by omega)).mp z))]
        simpa [h1] using ih
  have e1 : f_X8_judge 0 S = some (fwr (fun k => !decide (n (18 + bk k) = bo k)) 0 bc) := by
    unfold f_X8_judge f_X0_firstWrong
    rw [r_0_5 c1, Option.bind_some, r_0_2 c1, Option.bind_some, r_13_6 c1, Option.bind_some, c_186 hS, Option.bind_some, zi 0, hc bc 0 FU (by omega) (by unfold FU; omega)]; rfl
  have e2 : f_X9_judge 216 S = some (fwr (fun k => !decide (n (18 + bk k) = bo k)) 0 bc) := by
    unfold f_X9_judge
    rw [mgI hS, m7.1, Option.bind_some, Option.bind_some]
    have := hm bc FU (by omega) (by unfold FU; omega)
    rwa [Nat.sub_self] at this
  exact pick e1 (e2.trans e1.symm) hS
/-! how the parts of the whole go over -/
theorem Ctext_fr {S S' : Mem} {tx : Nat → Nat} {tn : Nat} {lf : Int32} (h : Ctext S tx tn lf) (e1 : S'.2.1 1 = S.2.1 1) (e7 : S'.2.1 7 = S.2.1 7) : Ctext S' tx tn lf := by
  unfold Ctext; rw [e1, e7]; exact h
theorem Cbook_fr {S S' : Mem} {bk bo : Nat → Nat} {bc : Nat} (h : Cbook S bk bo bc) (e1 : S'.2.1 186 = S.2.1 186) (e2 : S'.2.1 187 = S.2.1 187) (e3 : S'.2.1 188 = S.2.1 188) : Cbook S' bk bo bc := by
  unfold Cbook; rw [e1, e2, e3]; exact h
theorem Ctail_fr {S S' : Mem} (h : Ctail S) (e : ∀ a, a < 216 → kd a = 4 → S'.2.1 a = S.2.1 a ∨ ∀ k, 7 ≤ k → S'.2.1 a k = 0) : Ctail S' := by
  intro a ha hk k h7
  rcases e a ha hk with q | q
  · rw [q]; exact h a ha hk k h7
  · exact q k h7
theorem Mpal_fr {S S' : Mem} {P : Pal} {pal : Bool} (h : Mpal S P pal) (e : ∀ k, k < 4 → S'.2.1 216 k = S.2.1 216 k) (e1 : S'.2.1 217 = S.2.1 217) (e2 : S'.2.1 218 = S.2.1 218) (e3 : S'.2.1 219 = S.2.1 219) : Mpal S' P pal := by
  unfold Mpal; rw [e 0 (by decide), e 1 (by decide), e 2 (by decide), e 3 (by decide), e1, e2, e3]; exact h
theorem Mpast_fr {S S' : Mem} {us : Nat → Nat → Nat} {uc : Nat} (h : Mpast S us uc) (e : S'.2.1 216 16 = S.2.1 216 16) (e1 : S'.2.2.1 223 = S.2.2.1 223) : Mpast S' us uc := by
  unfold Mpast; rw [e, e1]; exact h
theorem Mimg_fr {S S' : Mem} {im : Nat → Nat → Nat} {ik : Nat → Bool} {isd : Nat → Nat} (h : Mimg S im ik isd) (e : S'.2.1 232 = S.2.1 232) (e1 : S'.2.2.1 231 = S.2.2.1 231) : Mimg S' im ik isd := by
  unfold Mimg; rw [e, e1]; exact h
theorem Mtext_fr {S S' : Mem} {tx : Nat → Nat} {tn : Nat} {lf : Int32} (h : Mtext S tx tn lf) (e : S'.2.1 216 10 = S.2.1 216 10) (e1 : S'.2.1 216 13 = S.2.1 216 13) (e2 : S'.2.1 221 = S.2.1 221) : Mtext S' tx tn lf := by
  unfold Mtext; rw [e, e1, e2]; exact h
theorem Mbook_fr {S S' : Mem} {bk bo : Nat → Nat} {bc : Nat} (h : Mbook S bk bo bc) (e : S'.2.1 216 24 = S.2.1 216 24) (e1 : S'.2.1 230 = S.2.1 230) : Mbook S' bk bo bc := by
  unfold Mbook; rw [e, e1]; exact h
theorem rfC_e {S S' : Mem} {p : Nat} (h : rfC S p) (e1 : S'.1 = S.1) (e2 : S'.2.2.2 = S.2.2.2) : rfC S' p := by
  unfold rfC; rw [e1, e2]; exact h
theorem nat_of {x : Int32} (h : 0 ≤ x) : ∃ m, m < 2 ^ 31 ∧ x = nI m := by
  rcases tri x (r := 2147483647) (by omega) with (h1 | h1) | ⟨j, hj, rfl⟩
  · have a := Int32.lt_iff_toInt_lt.mp h1
    have b := Int32.le_iff_toInt_le.mp h
    omega
  · refine ⟨2147483647, by omega, ?_⟩
    have a := Int32.le_iff_toInt_le.mp h1
    rw [nI_toInt (by omega)] at a
    have b := x.toInt_lt
    apply Int32.toInt_inj.mp
    rw [nI_toInt (by omega)]
    omega
  · exact ⟨j, by omega, rfl⟩
theorem pick2 {S1 S2 : Mem} {S : Mem} {v : Int32} {F : Option (Int32 × Mem)} {G : Mem → Option (Int32 × Mem)} (h1 : F = some (v, S1)) (h2 : G S1 = some (v, S2)) (hc : S.1 = 233) (hc1 : S1.1 = 233) : ((ck 8 S 0).bind fun _ => F.bind fun q2 => (ck 9 q2.2 216).bind fun _ => (G q2.2).bind fun q4 => if q2.1 = q4.1 then some q4.2 else none) = some S2 := by
  rw [h1, c_0 hc, Option.bind_some, Option.bind_some, mck hc1, Option.bind_some, h2, Option.bind_some, if_pos rfl]
theorem op_34 (x y : Int32) (S : Mem) (h : Inv S) : ∃ S1, sk_34 x y S = some S1 ∧ Inv S1 := by
  obtain ⟨p, ⟨⟨P, pal, n⟩, ⟨us, uc⟩, ⟨im, ik, isd, sd⟩, ⟨tx, tn, lf⟩, ⟨bk, bo, bc⟩⟩, ⟨c1, c2, c3, c4, c5, c6, c7, c8, c9⟩, ⟨m1, m2, m3, m4, m5, m6, m7⟩, hw⟩ := id h
  dsimp only at c2 c3 c4 c6 c7 c8 m1 m2 m3 m5 m6 m7 hw
  have hS := c1.1
  have hp := c1.2.1
  by_cases h0 : 0 ≤ x
  · obtain ⟨m, hm, rfl⟩ := nat_of h0
    refine ⟨_, pick2 (v := nI sd) (S1 := rowI S 0 (upd (S.2.1 0) 6 (nI m))) (S2 := rowJ (rowI S 0 (upd (S.2.1 0) 6 (nI m))) 216 (vp_updL (S.2.2.1 216) 8 (nI m).toInt64)) ?_ ?_ hS hS, ?_⟩
    · unfold f_X8_seed
      rw [if_pos h0, g_0 hS, c6, Option.bind_some, p_0 hS, Option.bind_some]
    · unfold f_X9_seed
      rw [if_pos h0, mgJ (S := rowI S 0 (upd (S.2.1 0) 6 (nI m))) hS, Option.bind_some, mpJ (S := rowI S 0 (upd (S.2.1 0) 6 (nI m))) hS, Option.bind_some]
      show some ((S.2.2.1 216 8).toInt32, _) = _
      rw [m5, lN_i]; rfl
    · refine ⟨p, ⟨⟨P, pal, n⟩, ⟨us, uc⟩, ⟨im, ik, isd, m⟩, ⟨tx, tn, lf⟩, ⟨bk, bo, bc⟩⟩, ⟨rfC_e c1 rfl rfl, Cpal_fr c2 (fun b h1 h2 => if_neg (by omega)), StR_fr c3 (fun b h1 h2 => if_neg (by omega)), Cpast_fr c4 (fun b h1 h2 => if_neg (by omega)), Cimg_fr c5 (fun b h1 h2 => if_neg (by omega)), rfl, Ctext_fr c7 rfl rfl, Cbook_fr c8 rfl rfl rfl, Ctail_fr c9 (fun a ha hk => Or.inl (if_neg (fun z => by subst z; exact absurd hk (by decide +kernel))))⟩, ⟨Mpal_fr m1 (fun k hk => rfl) rfl rfl rfl, m2, Mpast_fr m3 rfl rfl, Mimg_fr m4 rfl rfl, nI_l hm, Mtext_fr m6 rfl rfl rfl, Mbook_fr m7 rfl rfl⟩, ?_⟩
      obtain ⟨a1, a2, a3, a4, a5, a6, a7, a8⟩ := hw
      exact ⟨a1, a2, a3, a4, a5, a6, hm, a8⟩
  · refine ⟨_, pick2 (v := -1000000002) (S1 := S) (S2 := S) ?_ ?_ hS hS, h⟩
    · unfold f_X8_seed
      rw [if_neg h0]
    · unfold f_X9_seed
      rw [if_neg h0]
