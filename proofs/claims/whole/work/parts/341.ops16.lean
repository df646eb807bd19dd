theorem ldR185 {S : Mem} {p i : Nat} (hR : rfC S p) (hi : i < 2) : ldR 13 S 185 (nI i) = some (194 + 11 * i) := by
  have l : ln 185 = 2 := by decide +kernel
  have e : (nI i).toNatClampNeg = i := nI_clamp (by omega)
  rw [ldR, if_pos ⟨⟨by rw [hR.1]; decide, by decide +kernel⟩, nI_pos (by omega), by rw [e, l]; exact hi⟩, e, hR.2.2 185 (by decide) i (by omega)]
  have : i = 0 ∨ i = 1 := by omega
  rcases this with rfl | rfl <;> rfl
theorem kd_im : ∀ i, i < 2 → kd (194 + 11 * i) = 1 ∧ stl (195 + 11 * i) = true := by decide +kernel
theorem rf_im : ∀ i, i < 2 → RF 2 (194 + 11 * i) 2 = some (195 + 11 * i) ∧ RF 8 (194 + 11 * i) 2 = some (195 + 11 * i) := by decide +kernel
theorem g_im {S : Mem} {i : Nat} (h : S.1 = 233) (hi : i < 2) (k : Nat) : gI 1 k S (194 + 11 * i) = some (S.2.1 (194 + 11 * i) k) := if_pos ⟨by rw [h]; omega, (kd_im i hi).1⟩
theorem p_im {S : Mem} {i : Nat} (h : S.1 = 233) (hi : i < 2) (k : Nat) (v : Int32) : pI 1 k S (194 + 11 * i) v = some (rowI S (194 + 11 * i) (upd (S.2.1 (194 + 11 * i)) k v)) := if_pos ⟨by rw [h]; omega, (kd_im i hi).1⟩
theorem z_im {S : Mem} {i : Nat} (h : S.1 = 233) (hi : i < 2) (k : Nat) : pZ 1 k S (194 + 11 * i) (1 : Int32) = some (rowI S (194 + 11 * i) (upd (S.2.1 (194 + 11 * i)) k (1 : Int32))) := if_pos ⟨⟨by rw [h]; omega, (kd_im i hi).1⟩, Or.inr rfl⟩
theorem r_im {S : Mem} {p i : Nat} (h : rfC S p) (hi : i < 2) : gR 1 2 S (194 + 11 * i) = some (195 + 11 * i) := by
  rw [gR, if_pos ⟨by rw [h.1]; omega, (kd_im i hi).1⟩, h.2.2 _ (by omega) 2 (by decide)]
  rcases h.2.1 with rfl | rfl
  · exact (rf_im i hi).1
  · exact (rf_im i hi).2
def kpA (R : Nat → Int64) (n : Nat → Nat) (i k : Nat) : Nat → Int64 := fun j => if 81 * i ≤ j ∧ j < 81 * i + k then lN (n (j - 81 * i)) else R j
theorem kpA_up {R : Nat → Int64} {n : Nat → Nat} {i k : Nat} : vp_updL (kpA R n i k) (81 * i + k) (lN (n k)) = kpA R n i (k + 1) := by
  funext j
  unfold vp_updL kpA
  by_cases h : j = 81 * i + k
  · subst h
    simp only [if_true]
    rw [if_pos (by omega), show 81 * i + k - 81 * i = k by omega]
  · simp only [h, if_false]
    by_cases h' : 81 * i ≤ j ∧ j < 81 * i + k
    · rw [if_pos h', if_pos (by omega)]
    · rw [if_neg h', if_neg (by omega)]
theorem m_keep_b {T : Mem} {p i sd : Nat} {n : Nat → Nat} (hR : rfC T p) (hi : i < 2) (hn : T.2.2.1 220 = LL n) (hs : T.2.2.1 216 8 = lN sd) : ∀ z k fu, 80 = k + z → z < fu → f_X9_keep_b15 fu 216 (nI i) (nI k) (rowJ T 231 (kpA (T.2.2.1 231) n i k)) = some (nI 1, rowI (rowI (rowJ T 231 (vp_updL (kpA (T.2.2.1 231) n i 80) (81 * i + 80) (lN sd))) 232 (upd (T.2.1 232) i (nI 1))) 216 (upd (T.2.1 216) 16 (nI 0))) := by
  have hS := hR.1
  intro z
  induction z with
  | zero =>
    intro k fu hk hf
    obtain ⟨fu, rfl⟩ : ∃ z, fu = z + 1 := ⟨fu - 1, by omega⟩
    obtain rfl : k = 80 := by omega
    rw [f_X9_keep_b15]
    refine bp (by decide +kernel) (bs (R_25 (rfC_e hR rfl rfl)) (bs (a := lN sd) ((mgJ (by exact hS) 8).trans (congrArg some hs)) ?_))
    rw [zi 81, zi 80, pk_mul, nI_add]
    refine bs (st_231 (by exact hS) (by omega) _) (bs (R_26 (rfC_e hR rfl rfl)) (bs (st_232 (by exact hS) hi 1 (Or.inr rfl)) (bs (mpI (by exact hS) 16 _) ?_)))
    rw [rJJ]; rfl
  | succ z ih =>
    intro k fu hk hf
    obtain ⟨fu, rfl⟩ : ∃ z, fu = z + 1 := ⟨fu - 1, by omega⟩
    have ih := ih (k + 1) fu (by omega) (by omega)
    rw [f_X9_keep_b15]
    refine bn (by rw [zi 80, nI_leI (by omega) (by omega)]; omega) (bs (R_25 (rfC_e hR rfl rfl)) (bs (R_7 (rfC_e hR rfl rfl)) (bs (a := lN (n k)) ?_ ?_)))
    · rw [ld_220 (by exact hS) (by omega)]
      show some (T.2.2.1 220 k) = _
      rw [hn]; rfl
    · rw [zi 81, pk_mul, nI_add]
      refine bs (st_231 (by exact hS) (by omega) _) ?_
      rw [rJJ, Option.bind_some, zi 1, nI_add]
      show f_X9_keep_b15 fu 216 (nI i) (nI (k + 1)) (rowJ T 231 (vp_updL (kpA (T.2.2.1 231) n i k) (81 * i + k) (lN (n k)))) = _
      rw [kpA_up]; exact ih
theorem op_35 (x y : Int32) (S : Mem) (h : Inv S) : ∃ S1, sk_35 x y S = some S1 ∧ Inv S1 := by
  obtain ⟨p, ⟨⟨P, pal, n⟩, ⟨us, uc⟩, ⟨im, ik, isd, sd⟩, ⟨tx, tn, lf⟩, ⟨bk, bo, bc⟩⟩, ⟨c1, c2, c3, ⟨pf, hpf, u0, u1, u2⟩, c5, c6, c7, c8, c9⟩, ⟨m1, m2, m3, m4, m5, m6, m7⟩, hw⟩ := id h
  dsimp only at c2 c3 c5 c6 c7 c8 u0 u2 m1 m2 m3 m4 m5 m6 m7
  have hS := c1.1
  have hp := c1.2.1
  have hP : wfP P := hw.1
  have h6 := hP.2.2.1
  have n1 : ¬ x < nI 2 ↔ nI 1 < x := by rw [Int32.lt_iff_toInt_lt, Int32.lt_iff_toInt_lt, nI_toInt (by omega), nI_toInt (by omega)]; omega
  have g1 : nI 2 ≤ x ↔ nI 1 < x := by rw [Int32.le_iff_toInt_le, Int32.lt_iff_toInt_lt, nI_toInt (by omega), nI_toInt (by omega)]; omega
  rcases tri x (r := 2) (by omega) with hx | ⟨i, hi, rfl⟩
  · rw [g1] at hx
    refine ⟨_, pick2 (v := -1000000001) (S1 := S) (S2 := S) ?_ ?_ hS hS, h⟩
    · unfold f_X8_keep
      by_cases h0 : x < 0
      · exact bp h0 rfl
      · exact bn h0 (bn (show ¬ x < (2 : Int32) from n1.mpr (hx.resolve_left h0)) rfl)
    · unfold f_X9_keep
      exact bs (in_k0 (a := 0) (b := 1) (by omega) (by omega) hx) (bp nI00 rfl)
  · obtain ⟨kk, ks⟩ := kd_im i hi
    obtain ⟨T, hT⟩ : ∃ T, T = rowI S (194 + 11 * i) (upd (upd (S.2.1 (194 + 11 * i)) 0 (1 : Int32)) 1 (nI sd)) := ⟨_, rfl⟩
    have rT : rfC T p := by rw [hT]; exact rfC_e c1 rfl rfl
    have eT : ∀ b, b ≠ 194 + 11 * i → T.2.1 b = S.2.1 b := fun b hb => by rw [hT, rI2, if_neg hb]
    have tT : Ctail T := Ctail_fr c9 (fun a ha hk => Or.inl (eT a (tl_ne (by rw [kk]; decide) hk)))
    obtain ⟨S9, d1, d2, d3⟩ := c_copySt (stk_ rT (s := 195 + 11 * i) (by omega) ks) (stk_ rT (s := 13) (by decide) (by decide)) (by omega) (StR_fr c3 (fun b h1 h2 => eT b (by omega))) h6 (fun k hk => tT _ (by omega) (stl_k2 _ (by omega) ks).1 k hk)
    have e9 : ∀ b, b < 195 + 11 * i ∨ 195 + 11 * i + 9 < b → S9.2.1 b = T.2.1 b := fun b hb => (d2.2.2 b (btw_f hb)).1
    have r9 := rfC_fr rT d2
    obtain ⟨S7, hS7⟩ : ∃ S7, S7 = rowI S9 23 (upd (S9.2.1 23) 0 (nI 0)) := ⟨_, rfl⟩
    have r7 : rfC S7 p := by rw [hS7]; exact rfC_e r9 rfl rfl
    have e7 : ∀ b, b ≠ 23 → S7.2.1 b = S9.2.1 b := fun b hb => by rw [hS7, rI2, if_neg hb]
    have f1 : fr lo S S7 := by
      rw [hS7]
      refine fr.tr (S1 := T) (by rw [hT]; exact fr.rowI (decide_eq_true (by omega))) (fr.tr (d2.mono (fun a ha => ?_)) (fr.rowI (by decide)))
      have : ¬ a < 216 := of_decide_eq_false ha
      exact btw_f (by omega)
    have em : ∀ b, 216 ≤ b → S7.2.1 b = S.2.1 b := fun b hb => (f1.2.2 b (decide_eq_false (by omega))).1
    have em' : ∀ b, 216 ≤ b → S7.2.2.1 b = S.2.2.1 b := fun b hb => (f1.2.2 b (decide_eq_false (by omega))).2
    have n7 : S7.2.2.1 220 = LL n := by rw [em' 220 (by omega)]; exact m2
    have b := m_keep_b r7 hi n7 ((by rw [em' 216 (by omega)]; exact m5) : S7.2.2.1 216 8 = lN sd) 80 0 FU (by omega) (by unfold FU; omega)
    have e0 : rowJ S7 231 (kpA (S7.2.2.1 231) n i 0) = S7 := by
      have : kpA (S7.2.2.1 231) n i 0 = S7.2.2.1 231 := by
        funext j
        unfold kpA
        rw [if_neg (by omega)]
      rw [this, rJ_same]
    rw [e0] at b
    have aw : ∀ b, b < 194 → b ≠ 23 → S7.2.1 b = S.2.1 b := fun b h1 h2 => by rw [e7 b h2, e9 b (by omega), eT b (by omega)]
    refine ⟨_, pick2 (v := nI 1) (S1 := S7) ?_ (bs (a := nI 1) ((in_kj (j := i) (a := 0) (b := 1) (by omega) (by omega) (by omega)).trans (by rw [if_pos (by omega)])) (bn nI10 b)) hS r7.1, ?_⟩
    · unfold f_X8_keep f_X3_forget
      refine bn (nI_pos (by omega)) (bp (by rw [zi 2, nI_ltI (by omega) (by omega)]; exact hi) (bs (r_0_4 c1) (bs (ldR185 c1 hi) (bs (z_im hS hi 0) (bs (a := nI sd) ?_ (bs (a := T) ?_ (bs (r_im rT hi) (bs (r_0_2 rT) (bs (if_pos ⟨by rw [rT.1]; omega, (stl_k1 _ (by omega) ks).2⟩) (bs d1 (bs (r_0_3 r9) (bs (c_23 r9.1) (bs (bs (a := S7) (by rw [hS7]; exact p_23 r9.1 0 _) rfl) rfl)))))))))))))
      · rw [g_0 (by exact hS)]
        show some ((if 0 = 194 + 11 * i then _ else S.2.1 0) 6) = _
        rw [if_neg (by omega), c6]
      · rw [p_im (by exact hS) hi, rII, rI2, if_pos rfl, hT]
    · have i01 : ∀ q, q < 2 → q ≠ i → ∀ b, 194 + 11 * q ≤ b → b ≤ 195 + 11 * q + 9 → S7.2.1 b = S.2.1 b := fun q h1 h2 b h3 h4 => by rw [e7 b (by omega), e9 b (by omega), eT b (by omega)]
      refine ⟨p, ⟨⟨P, pal, n⟩, ⟨us, 0⟩, ⟨fun q => if q = i then n else im q, fun q => if q = i then true else ik q, fun q => if q = i then sd else isd q, sd⟩, ⟨tx, tn, lf⟩, ⟨bk, bo, bc⟩⟩, IC_fr (S := S7) ⟨r7, Cpal_fr c2 (fun b h1 h2 => aw b (by omega) (by omega)), StR_fr c3 (fun b h1 h2 => aw b (by omega) (by omega)), ⟨pf, hpf, ?_, ?_, fun k hk => absurd hk (Nat.not_lt_zero k)⟩, ?_, by rw [aw 0 (by omega) (by omega)]; exact c6, Ctext_fr c7 (aw 1 (by omega) (by omega)) (aw 7 (by omega) (by omega)), Cbook_fr c8 (aw 186 (by omega) (by omega)) (aw 187 (by omega) (by omega)) (aw 188 (by omega) (by omega)), ?_⟩ (fr.tr (fr.rowJ (by decide)) (fr.tr (fr.rowI (by decide)) (fr.rowI (by decide)))), ?_, ?_⟩
      · rw [hS7, rI2, if_pos rfl, upd_s]
      · rw [hS7, rI2, if_pos rfl, upd_n (by decide), e9 23 (by omega), eT 23 (by omega)]; exact u1
      · intro q hq
        dsimp only
        by_cases z : q = i
        · subst z
          simp only [↓reduceIte]
          refine ⟨?_, fun _ => ⟨?_, StR_fr d3 (fun b h1 h2 => e7 b (by omega))⟩⟩
          · rw [e7 _ (by omega), e9 _ (by omega), hT, rI2, if_pos rfl, upd_n (by decide), upd_s]; rfl
          · rw [e7 _ (by omega), e9 _ (by omega), hT, rI2, if_pos rfl, upd_s]
        · simp only [z, ↓reduceIte]
          obtain ⟨v1, v2⟩ := c5 q hq
          exact ⟨by rw [i01 q hq z _ (by omega) (by omega)]; exact v1, fun hk => ⟨by rw [i01 q hq z _ (by omega) (by omega)]; exact (v2 hk).1, StR_fr (v2 hk).2 (fun b h1 h2 => i01 q hq z b (by omega) (by omega))⟩⟩
      · exact Ctail_fr (tl_copy tT (by omega) ks d2 d3) (fun a ha hk => Or.inl (e7 a (tl_ne (b := 23) (by decide +kernel) hk)))
      · refine ⟨Mpal_fr m1 (fun k hk => ?_) ?_ ?_ ?_, n7, ⟨?_, fun k hk => absurd hk (Nat.not_lt_zero k)⟩, ?_, ?_, Mtext_fr m6 ?_ ?_ ?_, Mbook_fr m7 ?_ ?_⟩
        · show upd (S7.2.1 216) 16 (nI 0) k = _
          rw [upd_n (by omega), em 216 (by omega)]
        · exact em 217 (by omega)
        · exact em 218 (by omega)
        · exact em 219 (by omega)
        · show upd (S7.2.1 216) 16 (nI 0) 16 = _
          rw [upd_s]
        · intro q hq
          dsimp only
          show upd (S7.2.1 232) i (nI 1) q = _ ∧ (_ → (∀ k, k < 80 → vp_updL (kpA (S7.2.2.1 231) n i 80) (81 * i + 80) (lN sd) (81 * q + k) = _) ∧ vp_updL (kpA (S7.2.2.1 231) n i 80) (81 * i + 80) (lN sd) (81 * q + 80) = _)
          by_cases z : q = i
          · subst z
            simp only [↓reduceIte, upd_s]
            refine ⟨trivial, fun _ => ⟨fun k hk => ?_, ?_⟩⟩
            · unfold vp_updL kpA
              rw [if_neg (by omega), if_pos (by omega), show 81 * q + k - 81 * q = k by omega]
            · unfold vp_updL
              rw [if_pos rfl]
          · simp only [z, ↓reduceIte]
            rw [upd_n z, em 232 (by omega)]
            obtain ⟨v1, v2⟩ := m4 q hq
            refine ⟨v1, fun hk => ⟨fun k hk2 => ?_, ?_⟩⟩
            · unfold vp_updL kpA
              rw [if_neg (by omega), if_neg (by omega), em' 231 (by omega)]; exact (v2 hk).1 k hk2
            · unfold vp_updL kpA
              rw [if_neg (by omega), if_neg (by omega), em' 231 (by omega)]; exact (v2 hk).2
        · show S7.2.2.1 216 8 = _
          rw [em' 216 (by omega)]; exact m5
        · show upd (S7.2.1 216) 16 (nI 0) 10 = _
          rw [upd_n (by decide), em 216 (by omega)]
        · show upd (S7.2.1 216) 16 (nI 0) 13 = _
          rw [upd_n (by decide), em 216 (by omega)]
        · exact em 221 (by omega)
        · show upd (S7.2.1 216) 16 (nI 0) 24 = _
          rw [upd_n (by decide), em 216 (by omega)]
        · exact em 230 (by omega)
      · obtain ⟨a1, a2, a3, a4, a5, a6, a7, a8⟩ := hw
        refine ⟨a1, a2, a3, Nat.zero_le _, fun k hk => absurd hk (Nat.not_lt_zero k), fun q hq hk => ?_, a7, a8⟩
        dsimp only at hk ⊢
        by_cases z : q = i
        · rw [if_pos z, if_pos z]; exact ⟨a3, a7⟩
        · rw [if_neg z, if_neg z]
          rw [if_neg z] at hk
          exact a6 q hq hk
