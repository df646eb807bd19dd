theorem m_goBack_b {T : Mem} {p i sd : Nat} {n u : Nat → Nat} (hR : rfC T p) (hi : i < 2) (hu : ∀ k, k < 80 → T.2.2.1 231 (81 * i + k) = lN (u k)) (hs : T.2.2.1 231 (81 * i + 80) = lN sd) : ∀ z k fu, 80 = k + z → z < fu → f_X9_goBack_b27 fu 216 (nI i) (nI k) (sn T (mix u n k)) = some (nI 1, rowI (rowJ (sn T (mix u n 80)) 216 (vp_updL (T.2.2.1 216) 8 (lN sd))) 216 (upd (T.2.1 216) 16 (nI 0))) := by
  have hS := hR.1
  intro z
  induction z with
  | zero =>
    intro k fu hk hf
    obtain ⟨fu, rfl⟩ : ∃ z, fu = z + 1 := ⟨fu - 1, by omega⟩
    obtain rfl : k = 80 := by omega
    rw [f_X9_goBack_b27]
    refine bp (by decide +kernel) (bs (R_25 (rfC_e hR rfl rfl)) (bs (a := lN sd) ?_ (bs (mpJ (by exact hS) 8 _) (bs (mpI (by exact hS) 16 _) rfl))))
    rw [zi 81, zi 80, pk_mul, nI_add, ld_231 (by exact hS) (by omega)]
    exact congrArg some hs
  | succ z ih =>
    intro k fu hk hf
    obtain ⟨fu, rfl⟩ : ∃ z, fu = z + 1 := ⟨fu - 1, by omega⟩
    have ih := ih (k + 1) fu (by omega) (by omega)
    rw [f_X9_goBack_b27]
    refine bn (by rw [zi 80, nI_leI (by omega) (by omega)]; omega) (bs (R_7 (rfC_e hR rfl rfl)) (bs (R_25 (rfC_e hR rfl rfl)) (bs (a := lN (u k)) ?_ (bs (sn_st hS (by omega) _) ?_))))
    · rw [zi 81, pk_mul, nI_add, ld_231 (by exact hS) (by omega)]
      exact congrArg some (hu k (by omega))
    · rw [mix_up, Option.bind_some, zi 1, nI_add]; exact ih
theorem op_36 (x y : Int32) (S : Mem) (h : Inv S) : ∃ S1, sk_36 x y S = some S1 ∧ Inv S1 := by
  obtain ⟨p, ⟨⟨P, pal, n⟩, ⟨us, uc⟩, ⟨im, ik, isd, sd⟩, ⟨tx, tn, lf⟩, ⟨bk, bo, bc⟩⟩, ⟨c1, c2, c3, ⟨pf, hpf, u0, u1, u2⟩, c5, c6, c7, c8, c9⟩, ⟨m1, m2, m3, m4, m5, m6, m7⟩, hw⟩ := id h
  dsimp only at c2 c3 c5 c6 c7 c8 u0 u2 m1 m2 m3 m4 m5 m6 m7
  have hS := c1.1
  have hp := c1.2.1
  have hP : wfP P := hw.1
  have h6 := hP.2.2.1
  have n1 : ¬ x < nI 2 ↔ nI 1 < x := by rw [Int32.lt_iff_toInt_lt, Int32.lt_iff_toInt_lt, nI_toInt (by omega), nI_toInt (by omega)]; omega
  have g1 : nI 2 ≤ x ↔ nI 1 < x := by rw [Int32.le_iff_toInt_le, Int32.lt_iff_toInt_lt, nI_toInt (by omega), nI_toInt (by omega)]; omega
  rcases tri x (r := 2) (by omega) with hx | ⟨i, hi, rfl⟩
  · rw [g1] at hx
    refine ⟨_, pick2 (v := -1000000001) (S1 := S) (S2 := S) ?_ ?_ hS hS, h⟩
    · unfold f_X8_goBack
      by_cases h0 : x < 0
      · exact bp h0 rfl
      · exact bn h0 (bn (show ¬ x < (2 : Int32) from n1.mpr (hx.resolve_left h0)) rfl)
    · unfold f_X9_goBack
      exact bs (in_k0 (a := 0) (b := 1) (by omega) (by omega) hx) (bp nI00 rfl)
  · have i1 : f_X9_in (nI i).toInt64 (0 : Int64) (1 : Int64) = some (nI 1) := (in_kj (j := i) (a := 0) (b := 1) (by omega) (by omega) (by omega)).trans (by rw [if_pos (by omega)])
    have a2 : nI i < (2 : Int32) := by rw [zi 2, nI_ltI (by omega) (by omega)]; exact hi
    obtain ⟨v1, v2⟩ := c5 i hi
    obtain ⟨x1, x2⟩ := m4 i hi
    cases hk : ik i with
    | false =>
      rw [hk] at v1 x1
      refine ⟨_, pick2 (v := -1000000003) (S1 := S) (S2 := S) ?_ ?_ hS hS, h⟩
      · unfold f_X8_goBack
        exact bn (nI_pos (by omega)) (bp a2 (bs (r_0_4 c1) (bs (ldR185 c1 hi) (bs ((g_im hS hi 0).trans (congrArg some v1)) (bp nI00 rfl)))))
      · unfold f_X9_goBack
        exact bs i1 (bn nI10 (bs (R_26 c1) (bs ((ld_232 hS hi).trans (congrArg some x1)) (bp nI00 rfl))))
    | true =>
      rw [hk] at v1 x1
      obtain ⟨v3, v4⟩ := v2 hk
      obtain ⟨x3, x4⟩ := x2 hk
      obtain ⟨kk, ks⟩ := kd_im i hi
      obtain ⟨hgd, hsd⟩ : gdN P (im i) ∧ isd i < 2 ^ 31 := hw.2.2.2.2.2.1 i hi hk
      obtain ⟨T, hT⟩ : ∃ T, T = rowI S 0 (upd (S.2.1 0) 6 (nI (isd i))) := ⟨_, rfl⟩
      have rT : rfC T p := by rw [hT]; exact rfC_e c1 rfl rfl
      have eT : ∀ b, b ≠ 0 → T.2.1 b = S.2.1 b := fun b hb => by rw [hT, rI2, if_neg hb]
      have tT : Ctail T := Ctail_fr c9 (fun a ha hk => Or.inl (eT a (tl_ne (b := 0) (by decide +kernel) hk)))
      obtain ⟨S9, d1, d2, d3⟩ := c_copySt (stk_ rT (s := 13) (by decide) (by decide)) (stk_ rT (s := 195 + 11 * i) (by omega) ks) (by omega) (StR_fr v4 (fun b h1 h2 => eT b (by omega))) h6 (fun k hk => tT 14 (by decide) (by decide +kernel) k hk)
      have e9 : ∀ b, b < 13 ∨ 22 < b → S9.2.1 b = T.2.1 b := fun b hb => (d2.2.2 b (btw_f hb)).1
      have r9 := rfC_fr rT d2
      obtain ⟨S7, hS7⟩ : ∃ S7, S7 = rowI S9 23 (upd (S9.2.1 23) 0 (nI 0)) := ⟨_, rfl⟩
      have r7 : rfC S7 p := by rw [hS7]; exact rfC_e r9 rfl rfl
      have e7 : ∀ b, b ≠ 23 → S7.2.1 b = S9.2.1 b := fun b hb => by rw [hS7, rI2, if_neg hb]
      have f1 : fr lo S S7 := by
        rw [hS7]
        refine fr.tr (S1 := T) (by rw [hT]; exact fr.rowI (by decide)) (fr.tr (d2.mono (fun a ha => ?_)) (fr.rowI (by decide)))
        have : ¬ a < 216 := of_decide_eq_false ha
        exact btw_f (by omega)
      have em : ∀ b, 216 ≤ b → S7.2.1 b = S.2.1 b := fun b hb => (f1.2.2 b (decide_eq_false (by omega))).1
      have em' : ∀ b, 216 ≤ b → S7.2.2.1 b = S.2.2.1 b := fun b hb => (f1.2.2 b (decide_eq_false (by omega))).2
      have n7 : S7.2.2.1 220 = LL n := by rw [em' 220 (by omega)]; exact m2
      have b := m_goBack_b (n := n) (u := im i) (sd := isd i) r7 hi (fun k hk => by rw [em' 231 (by omega)]; exact x3 k hk) (by rw [em' 231 (by omega)]; exact x4) 80 0 FU (by omega) (by unfold FU; omega)
      have e0 : mix (im i) n 0 = n := by funext j; simp [mix]
      rw [e0, sn_self n7] at b
      have x7 : S7.2.1 232 i = nI 1 := by rw [em 232 (by omega)]; exact x1
      have aw : ∀ b, b ≠ 0 → b < 13 ∨ 23 < b → S7.2.1 b = S.2.1 b := fun b h1 h2 => by rw [e7 b (by omega), e9 b (by omega), eT b (by omega)]
      have hmx : ∀ k, k < 80 → mix (im i) n 80 k = im i k := fun k hk => mix_lt hk
      refine ⟨_, pick2 (v := nI 1) (S1 := S7) ?_ (bs i1 (bn nI10 (bs (R_26 r7) (bs ((ld_232 r7.1 hi).trans (congrArg some x7)) (bn nI10 b))))) hS r7.1, ?_⟩
      · unfold f_X8_goBack f_X3_forget
        exact bn (nI_pos (by omega)) (bp a2 (bs (r_0_4 c1) (bs (ldR185 c1 hi) (bs ((g_im hS hi 0).trans (congrArg some v1)) (bn nI10 (bs ((g_im hS hi 1).trans (congrArg some v3)) (bs (a := T) (by rw [hT]; exact p_0 hS 6 _) (bs (r_0_2 rT) (bs (r_im rT hi) (bs (c_13 rT.1) (bs d1 (bs (r_0_3 r9) (bs (c_23 r9.1) (bs (bs (a := S7) (by rw [hS7]; exact p_23 r9.1 0 _) rfl) rfl))))))))))))))
      · refine ⟨p, ⟨⟨P, pal, mix (im i) n 80⟩, ⟨us, 0⟩, ⟨im, ik, isd, isd i⟩, ⟨tx, tn, lf⟩, ⟨bk, bo, bc⟩⟩, IC_fr (S := S7) ⟨r7, Cpal_fr c2 (fun b h1 h2 => aw b (by omega) (by omega)), StR_c (StR_fr d3 (fun b h1 h2 => e7 b (by omega))) hP hgd.1 hmx, ⟨pf, hpf, ?_, ?_, fun k hk => absurd hk (Nat.not_lt_zero k)⟩, Cimg_fr c5 (fun b h1 h2 => aw b (by omega) (by omega)), ?_, Ctext_fr c7 (aw 1 (by omega) (by omega)) (aw 7 (by omega) (by omega)), Cbook_fr c8 (aw 186 (by omega) (by omega)) (aw 187 (by omega) (by omega)) (aw 188 (by omega) (by omega)), ?_⟩ (fr.tr sn_hi (fr.tr (fr.rowJ (by decide)) (fr.rowI (by decide)))), ?_, ?_⟩
        · rw [hS7, rI2, if_pos rfl, upd_s]
        · rw [hS7, rI2, if_pos rfl, upd_n (by decide), e9 23 (by omega), eT 23 (by omega)]; exact u1
        · rw [e7 0 (by omega), e9 0 (by omega), hT, rI2, if_pos rfl, upd_s]
        · exact Ctail_fr (tl_copy (s := 13) tT (by decide) (by decide) d2 d3) (fun a ha hk => Or.inl (e7 a (tl_ne (b := 23) (by decide +kernel) hk)))
        · refine ⟨Mpal_fr m1 (fun k hk => ?_) (em 217 (by omega)) (em 218 (by omega)) (em 219 (by omega)), rfl, ⟨?_, fun k hk => absurd hk (Nat.not_lt_zero k)⟩, Mimg_fr m4 (em 232 (by omega)) (em' 231 (by omega)), ?_, Mtext_fr m6 ?_ ?_ (em 221 (by omega)), Mbook_fr m7 ?_ (em 230 (by omega))⟩
          · show upd (S7.2.1 216) 16 (nI 0) k = _
            rw [upd_n (by omega), em 216 (by omega)]
          · show upd (S7.2.1 216) 16 (nI 0) 16 = _
            rw [upd_s]
          · show vp_updL (S7.2.2.1 216) 8 (lN (isd i)) 8 = _
            unfold vp_updL
            rw [if_pos rfl]
          · show upd (S7.2.1 216) 16 (nI 0) 10 = _
            rw [upd_n (by decide), em 216 (by omega)]
          · show upd (S7.2.1 216) 16 (nI 0) 13 = _
            rw [upd_n (by decide), em 216 (by omega)]
          · show upd (S7.2.1 216) 16 (nI 0) 24 = _
            rw [upd_n (by decide), em 216 (by omega)]
        · obtain ⟨a1, a2, a3, a4, a5, a6, a7, a8⟩ := hw
          exact ⟨a1, a2, gd_c hgd hP hmx, Nat.zero_le _, fun k hk => absurd hk (Nat.not_lt_zero k), a6, hsd, a8⟩
