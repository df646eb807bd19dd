theorem ss_self {S : Mem} {a : Nat} {P : Pal} {n : Nat → Nat} (h : S.2.1 a = slF P n) : ss S a P n = S := by
  unfold ss; rw [← h]; exact rI_same
def EnR (P : Pal) (e1 e2 e3 : Nat) (f t u o : Int32) : Prop :=
  f = nI (10 * (e1 % 8) + e1 / 8 % 8) ∧ t = nI (ahd P (e1 % 8) (e1 / 16384 % 256) (e1 / 4194304 % 4096) + 256 * (e1 / 64 % 256) + 65536 * (e1 / 17179869184 % 2)) ∧ u = nI e2 ∧ o = nI e3 ∧ e2 < 2 ^ 32 ∧ e3 < 2 ^ 32 ∧ e1 < 2 ^ 35 ∧ e1 % 8 ≠ e1 / 8 % 8
def WyR (w F T U O : Nat → Int32) (P : Pal) (n : Nat → Nat) : Prop :=
  ∃ fr, fr < 16 ∧ w 0 = nI (n 9) ∧ w 1 = nI fr ∧ (n 9 < 16 → fr = n 9) ∧ ∀ i, i < n 9 → EnR P (n (32 + 3 * i)) (n (33 + 3 * i)) (n (34 + 3 * i)) (F ((fr + 16 - n 9 + i) % 16)) (T ((fr + 16 - n 9 + i) % 16)) (U ((fr + 16 - n 9 + i) % 16)) (O ((fr + 16 - n 9 + i) % 16))
theorem ent1_x {P : Pal} {hh to : Nat} {n : Nat → Nat} (hP : wfP P) (hw : wfN P hh n) (ht : to < 8) (hne : to ≠ n 2) : ent1 n to % 8 = n 2 ∧ ent1 n to / 8 % 8 = to ∧ ent1 n to / 64 % 256 = n 4 ∧ ent1 n to / 16384 % 256 = n 5 ∧ ent1 n to / 4194304 % 4096 = n 6 ∧ ent1 n to / 17179869184 % 2 = (if wornN n then 1 else 0) ∧ ent1 n to < 2 ^ 35 := by
  obtain ⟨w0, w1, w2, w3, w4, w5, w6, w7, w8, w9, wn, wg, wc⟩ := wfb hP hw
  unfold ent1
  have : (if wornN n then 1 else 0) < 2 := by split <;> omega
  generalize (if wornN n then 1 else 0) = z at this ⊢
  omega
theorem z_orS {a b k : Nat} (ha : a < 2 ^ k) : nI a ||| nI (b * 2 ^ k) = nI (a + b * 2 ^ k) := by
  rw [z_or]
  congr 1
  rw [Nat.or_comm, Nat.mul_comm, Nat.add_comm]
  exact (Nat.two_pow_add_eq_or_of_lt ha b).symm
theorem rem_old {P : Pal} {to i t : Nat} {n : Nat → Nat} (hi : i < shfN n 9) (ht : t < 3) : remN P to n (32 + 3 * i + t) = shfN n (32 + 3 * i + t) := by
  unfold remN
  rw [va_up_ne _ _ (by omega), va_up_ne _ _ (by omega), va_up_ne _ _ (by omega), va_up_ne _ _ (by omega)]
theorem rem_new {P : Pal} {to : Nat} {n : Nat → Nat} : remN P to n (32 + 3 * shfN n 9) = ent1 n to ∧ remN P to n (33 + 3 * shfN n 9) = noiN P n ∧ remN P to n (34 + 3 * shfN n 9) = cntN P n := by
  unfold remN
  refine ⟨?_, ?_, ?_⟩
  · rw [va_up_ne _ _ (by omega), va_up_ne _ _ (by omega), va_up_ne _ _ (by omega), va_up_self]
  · rw [va_up_ne _ _ (by omega), va_up_ne _ _ (by omega), show 33 + 3 * shfN n 9 = 32 + 3 * shfN n 9 + 1 by omega, va_up_self]
  · rw [va_up_ne _ _ (by omega), show 34 + 3 * shfN n 9 = 32 + 3 * shfN n 9 + 2 by omega, va_up_self]
theorem shf_ent {n : Nat → Nat} {i t : Nat} (hi : i < shfN n 9) (h9 : n 9 ≤ 16) (ht : t < 3) : shfN n (32 + 3 * i + t) = n (32 + 3 * (if n 9 = 16 then i + 1 else i) + t) := by
  have s9 := shf_9 h9
  unfold shfN
  by_cases q : n 9 = 16
  · have := s9.2.2 q
    rw [if_pos q, if_pos q]
    show (if 32 + 3 * i + t = 9 then 15 else if 32 ≤ 32 + 3 * i + t ∧ 32 + 3 * i + t < 77 then n (32 + 3 * i + t + 3) else n (32 + 3 * i + t)) = _
    rw [if_neg (by omega), if_pos (by omega)]
    congr 1
    omega
  · rw [if_neg q, if_neg q]
theorem upd_s {f : Nat → Int32} {k : Nat} {v : Int32} : upd f k v k = v := pk_us
theorem upd_n {f : Nat → Int32} {k j : Nat} {v : Int32} (h : j ≠ k) : upd f k v j = f j := pk_un h
theorem c_wayAdd {S : Mem} {p hh to : Nat} {P : Pal} {n : Nat → Nat} (hR : rfC S p) (hP : wfP P) (hs : S.2.1 14 = slF P n) (hb : SLb S 14 P (n 6)) (hw : wfN P hh n) (hy : WyR (S.2.1 16) (S.2.1 17) (S.2.1 18) (S.2.1 19) (S.2.1 20) P n) (ht : to < 8) (hne : to ≠ n 2) :
    ∃ S', f_X7_add 16 14 (nI to) S = some S' ∧ fr (fun x => x == 16 || x == 17 || x == 18 || x == 19 || x == 20) S S' ∧ WyR (S'.2.1 16) (S'.2.1 17) (S'.2.1 18) (S'.2.1 19) (S'.2.1 20) P (remN P to n) := by
  obtain ⟨w0, w1, w2, w3, w4, w5, w6, w7, w8, w9, wn, wg, wc⟩ := wfb hP hw
  obtain ⟨fp, hf16, y0, y1, yf, ye⟩ := hy
  have hS := hR.1
  have hr8 := hP.1
  obtain ⟨x1, x2, x3, x4, x5, x6, x7⟩ := ent1_x hP hw ht hne
  have l1 := noi_lt (n := n) hP.1 (fun a ha => by have := wn a ha; omega)
  have l2 := cnt_lt32 (n := n) hP.1
  have la : ahd P (n 2) (n 5) (n 6) < 256 := sto_lt _ 8
  -- the slippers behind the first store
  have hs4 : (rowI S 17 (upd (S.2.1 17) fp (nI (n 2 * 10 + to)))).2.1 14 = slF P n := by rw [rI2, if_neg (by decide)]; exact hs
  have hb4 : SLb (rowI S 17 (upd (S.2.1 17) fp (nI (n 2 * 10 + to)))) 14 P (n 6) := ⟨hb.1, hb.2.1, hb.2.2.1, hb.2.2.2.1, hb.2.2.2.2.1, fun w hw => by rw [rI2, if_neg (by decide)]; exact hb.2.2.2.2.2 w hw⟩
  have e1 := c_roomsAhead hb4 w2 w5
  have e2 := c_isWorn (n := n) hb4 (by omega)
  rw [ss_self hs4] at e1 e2
  have hR4 : rfC (rowI S 17 (upd (S.2.1 17) fp (nI (n 2 * 10 + to)))) p := hR
  have r2 := r_16_2 hR
  have r3 := r_16_3 hR4
  have a1 : gI 7 1 S 16 = some (nI fp) := by rw [g_16 hS, y1]
  have a2 : gI 4 1 S 14 = some (nI (n 2)) := by rw [g_14 hS, hs, slF_at.2.1]
  have s17 : stI S 17 (nI fp) (nI (n 2 * 10 + to)) = some (rowI S 17 (upd (S.2.1 17) fp (nI (n 2 * 10 + to)))) := st_17 hS hf16 _
  -- the rest, for the word of sets
  have rest : ∀ st : Nat, f_X7_add_b51 16 14 (nI 0) (nI st) (nI fp) 18 (rowI S 17 (upd (S.2.1 17) fp (nI (n 2 * 10 + to)))) =
      some (rowI (rowI (rowI (rowI (rowI S 17 (upd (S.2.1 17) fp (nI (n 2 * 10 + to)))) 18 (upd (S.2.1 18) fp (nI st))) 19 (upd (S.2.1 19) fp (nI (noiN P n)))) 20 (upd (S.2.1 20) fp (nI (cntN P n)))) 16 (upd (upd (S.2.1 16) 1 (nI ((fp + 1) % 16))) 0 (nI (min 16 (n 9 + 1))))) := by
    intro st
    have h1 : (rowI S 17 (upd (S.2.1 17) fp (nI (n 2 * 10 + to)))).1 = 233 := hS
    unfold f_X7_add_b51
    rw [z_or, Nat.or_zero, st_18 h1 hf16]
    simp only [Option.bind_some]
    generalize hA : rowI (rowI S 17 (upd (S.2.1 17) fp (nI (n 2 * 10 + to)))) 18 (upd ((rowI S 17 (upd (S.2.1 17) fp (nI (n 2 * 10 + to)))).2.1 18) fp (nI st)) = A
    have hA1 : A.1 = 233 := by rw [← hA]; exact hS
    have hAR : rfC A p := by rw [← hA]; exact hR
    have hA16 : A.2.1 16 = S.2.1 16 := by rw [← hA, rI2, if_neg (by decide), rI2, if_neg (by decide)]
    have hA14 : A.2.1 14 = slF P n := by rw [← hA, rI2, if_neg (by decide), rI2, if_neg (by decide)]; exact hs
    have hA19 : A.2.1 19 = S.2.1 19 := by rw [← hA, rI2, if_neg (by decide), rI2, if_neg (by decide)]
    have hA20 : A.2.1 20 = S.2.1 20 := by rw [← hA, rI2, if_neg (by decide), rI2, if_neg (by decide)]
    have hA18 : A = rowI (rowI S 17 (upd (S.2.1 17) fp (nI (n 2 * 10 + to)))) 18 (upd (S.2.1 18) fp (nI st)) := by rw [← hA, rI2, if_neg (by decide)]
    rw [r_16_4 hAR, Option.bind_some, g_16 hA1, hA16, y1, Option.bind_some, g_14 hA1, hA14, slF_at.2.2.2.1, Option.bind_some, st_19 hA1 hf16, Option.bind_some]
    generalize hB : rowI A 19 (upd (A.2.1 19) fp (nI (noiN P n))) = B
    have hB1 : B.1 = 233 := by rw [← hB]; exact hA1
    have hBR : rfC B p := by rw [← hB]; exact hAR
    have hB16 : B.2.1 16 = S.2.1 16 := by rw [← hB, rI2, if_neg (by decide), hA16]
    have hB14 : B.2.1 14 = slF P n := by rw [← hB, rI2, if_neg (by decide), hA14]
    have hB20 : B.2.1 20 = S.2.1 20 := by rw [← hB, rI2, if_neg (by decide), hA20]
    rw [r_16_5 hBR, Option.bind_some, g_16 hB1, hB16, y1, Option.bind_some, g_14 hB1, hB14, slF_at.2.2.2.2.1, Option.bind_some, st_20 hB1 hf16, Option.bind_some]
    generalize hC : rowI B 20 (upd (B.2.1 20) fp (nI (cntN P n))) = C
    have hC1 : C.1 = 233 := by rw [← hC]; exact hB1
    have hC16 : C.2.1 16 = S.2.1 16 := by rw [← hC, rI2, if_neg (by decide), hB16]
    have m1 : irI (nI fp + (1 : Int32)) (16 : Int32) = nI ((fp + 1) % 16) := by
      rw [zi 1, zi 16, nI_add, z_rem (by omega) (by omega) (by omega)]
    rw [g_16 hC1, hC16, y1, Option.bind_some, m1, p_16 hC1, Option.bind_some, hC16]
    have hD1 : (rowI C 16 (upd (S.2.1 16) 1 (nI ((fp + 1) % 16)))).1 = 233 := hC1
    have m2 : (if nI (n 9) + (1 : Int32) < (16 : Int32) then nI (n 9) + (1 : Int32) else (16 : Int32)) = nI (min 16 (n 9 + 1)) := by
      simp (disch := omega) only [zi, nI_add, nI_ltI]
      by_cases q2 : n 9 + 1 < 16
      · rw [if_pos q2, show min 16 (n 9 + 1) = n 9 + 1 by omega]
      · rw [if_neg q2, show min 16 (n 9 + 1) = 16 by omega]
    have y0' : upd (S.2.1 16) 1 (nI ((fp + 1) % 16)) 0 = nI (n 9) := by rw [upd_n (by decide), y0]
    rw [g_16 hD1, rI2, if_pos rfl, y0', Option.bind_some, m2, p_16 hD1, Option.bind_some, rII, rI2, if_pos rfl, ← hC, ← hB, hA18]
    rw [rI2, if_neg (by decide), rI2, if_neg (by decide), rI2, if_neg (by decide), rI2, if_neg (by decide), rI2, if_neg (by decide)]
  -- the word of sets
  have s0 : nI (ahd P (n 2) (n 5) (n 6)) ||| (nI (n 4) <<< ((8 : Int32) &&& 31)) = nI (ahd P (n 2) (n 5) (n 6) + n 4 * 2 ^ 8) := by
    rw [zi 8, z_shl _ (by omega), z_orS (by omega)]
  have hbl : f_X7_add 16 14 (nI to) S = some (rowI (rowI (rowI (rowI (rowI S 17 (upd (S.2.1 17) fp (nI (n 2 * 10 + to)))) 18 (upd (S.2.1 18) fp (nI (ahd P (n 2) (n 5) (n 6) + 256 * n 4 + 65536 * (if wornN n then 1 else 0))))) 19 (upd (S.2.1 19) fp (nI (noiN P n)))) 20 (upd (S.2.1 20) fp (nI (cntN P n)))) 16 (upd (upd (S.2.1 16) 1 (nI ((fp + 1) % 16))) 0 (nI (min 16 (n 9 + 1))))) := by
    have g5 : gI 7 1 (rowI S 17 (upd (S.2.1 17) fp (nI (n 2 * 10 + to)))) 16 = some (nI fp) := by rw [g_16 hR4.1, rI2, if_neg (by decide), y1]
    have g6 : gI 4 5 (rowI S 17 (upd (S.2.1 17) fp (nI (n 2 * 10 + to)))) 14 = some (nI (n 4)) := by rw [g_14 hR4.1, hs4, slF_at.2.2.2.2.2.1]
    have g7 : ck 4 (rowI S 17 (upd (S.2.1 17) fp (nI (n 2 * 10 + to)))) 14 = some () := c_14 hR4.1
    have g8 : nI (n 2) * (10 : Int32) + nI to = nI (n 2 * 10 + to) := by rw [zi 10, pk_mul, nI_add]
    unfold f_X7_add
    rw [r2, Option.bind_some, a1, Option.bind_some, a2, Option.bind_some, g8, s17, Option.bind_some, r3, Option.bind_some, g5, Option.bind_some, g7, Option.bind_some, e1, Option.bind_some, g6, Option.bind_some, Option.bind_some, e2, Option.bind_some, s0]
    cases hwn : wornN n with
    | false =>
      rw [if_pos (by decide)]
      have := rest (ahd P (n 2) (n 5) (n 6) + n 4 * 2 ^ 8)
      rw [zi 0, this]
      rw [show ahd P (n 2) (n 5) (n 6) + n 4 * 2 ^ 8 = ahd P (n 2) (n 5) (n 6) + 256 * n 4 + 65536 * (if (false = true) then 1 else 0) by simp; omega]
    | true =>
      rw [if_neg (by decide)]
      have := rest (ahd P (n 2) (n 5) (n 6) + n 4 * 2 ^ 8 + 1 * 2 ^ 16)
      rw [show ahd P (n 2) (n 5) (n 6) + n 4 * 2 ^ 8 + 1 * 2 ^ 16 = ahd P (n 2) (n 5) (n 6) + 256 * n 4 + 65536 * (if (true = true) then 1 else 0) by simp; omega] at this
      rw [← this]
      unfold f_X7_add_b51
      have e3 : nI (ahd P (n 2) (n 5) (n 6) + n 4 * 2 ^ 8) ||| (65536 : Int32) = nI (ahd P (n 2) (n 5) (n 6) + 256 * n 4 + 65536 * (if (true = true) then 1 else 0)) ||| nI 0 := by
        rw [show (65536 : Int32) = nI (1 * 2 ^ 16) by decide +kernel, z_orS (by omega), z_or, Nat.or_zero]
        congr 1
        simp; omega
      rw [e3]
  refine ⟨_, hbl, ?_, ?_⟩
  · exact (((((fr.rowI (by decide)).tr (fr.rowI (by decide))).tr (fr.rowI (by decide))).tr (fr.rowI (by decide))).tr (fr.rowI (by decide)))
  · have s9 := shf_9 w9
    show WyR (upd (upd (S.2.1 16) 1 (nI ((fp + 1) % 16))) 0 (nI (min 16 (n 9 + 1)))) (upd (S.2.1 17) fp (nI (n 2 * 10 + to))) (upd (S.2.1 18) fp (nI (ahd P (n 2) (n 5) (n 6) + 256 * n 4 + 65536 * (if wornN n then 1 else 0)))) (upd (S.2.1 19) fp (nI (noiN P n))) (upd (S.2.1 20) fp (nI (cntN P n))) P (remN P to n)
    have hc9 : remN P to n 9 = min 16 (n 9 + 1) := by rw [rem_9]; omega
    refine ⟨(fp + 1) % 16, by omega, by rw [upd_s, hc9], by rw [upd_n (by decide), upd_s], fun h => ?_, fun i hi => ?_⟩
    · rw [hc9] at h ⊢
      have := yf (by omega)
      omega
    · rw [rem_9] at hi ⊢
      by_cases hic : i = shfN n 9
      · subst hic
        have hpos : ((fp + 1) % 16 + 16 - (shfN n 9 + 1) + shfN n 9) % 16 = fp := by omega
        rw [hpos, rem_new.1, rem_new.2.1, rem_new.2.2, upd_s, upd_s, upd_s, upd_s]
        refine ⟨?_, ?_, rfl, rfl, l1, l2, x7, by omega⟩
        · rw [x1, x2]; congr 1; omega
        · rw [x1, x3, x4, x5, x6]
      · have hlt : i < shfN n 9 := by omega
        have o0 := rem_old (P := P) (to := to) hlt (show 0 < 3 by decide)
        have o1 := rem_old (P := P) (to := to) hlt (show 1 < 3 by decide)
        have o2 := rem_old (P := P) (to := to) hlt (show 2 < 3 by decide)
        rw [shf_ent hlt w9 (by decide)] at o0 o1 o2
        rw [Nat.add_zero] at o0
        rw [Nat.add_zero] at o0
        rw [show 33 + 3 * i = 32 + 3 * i + 1 by omega, show 34 + 3 * i = 32 + 3 * i + 2 by omega, o0, o1, o2]
        by_cases q : n 9 = 16
        · have c15 := s9.2.2 q
          rw [if_pos q]
          have := ye (i + 1) (by omega)
          have hpos : ((fp + 1) % 16 + 16 - (shfN n 9 + 1) + i) % 16 = (fp + 16 - n 9 + (i + 1)) % 16 := by omega
          rw [hpos]
          have hne' : (fp + 16 - n 9 + (i + 1)) % 16 ≠ fp := by omega
          rw [upd_n hne', upd_n hne', upd_n hne', upd_n hne']
          rw [show 33 + 3 * (i + 1) = 32 + 3 * (i + 1) + 1 by omega, show 34 + 3 * (i + 1) = 32 + 3 * (i + 1) + 2 by omega] at this
          exact this
        · have c9 := s9.2.1 (by omega)
          have hfp := yf (by omega)
          rw [if_neg q]
          have := ye i (by omega)
          have hpos : ((fp + 1) % 16 + 16 - (shfN n 9 + 1) + i) % 16 = (fp + 16 - n 9 + i) % 16 := by omega
          rw [hpos]
          have hne' : (fp + 16 - n 9 + i) % 16 ≠ fp := by omega
          rw [upd_n hne', upd_n hne', upd_n hne', upd_n hne']
          rw [show 33 + 3 * i = 32 + 3 * i + 1 by omega, show 34 + 3 * i = 32 + 3 * i + 2 by omega] at this
          exact this
