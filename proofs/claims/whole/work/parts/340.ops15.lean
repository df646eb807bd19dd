theorem StR_c {S : Mem} {a hh : Nat} {P : Pal} {n m : Nat → Nat} (h : StR S a P n) (hP : wfP P) (hw : wfN P hh n) (e : ∀ k, k < 80 → m k = n k) : StR S a P m := by
  obtain ⟨⟨f2, f3, f4, f5⟩, hs, hbs, hy, hgv, hch⟩ := h
  have hr := hP.1
  have h6 := hP.2.2.1
  have w9 := (wfb hP hw).2.2.2.2.2.2.2.2.2.1
  refine ⟨⟨by rw [e 1 (by omega)]; exact f2, by rw [e 6 (by omega)]; exact f3, by rw [e 7 (by omega)]; exact f4, by rw [e 8 (by omega)]; exact f5⟩, ?_, fun w hw => by rw [e 6 (by omega)]; exact hbs w hw, wy_congr (e 9 (by omega)) (fun j h1 h2 => e j h2) w9 hy, fun k hk => by rw [e (18 + k) (by omega)]; exact hgv k hk, fun k hk => by rw [e (26 + k) (by omega)]; exact hch k hk⟩
  have : slF P m = slF P n := slF_congr (e 0 (by omega)) (e 2 (by omega)) (e 3 (by omega)) (e 4 (by omega)) (e 5 (by omega)) (noi_congr (fun j h1 h2 => e j (by omega))) (cnt_congr (fun j h1 h2 => e j (by omega)))
  rw [this]; exact hs
theorem gd_c {P : Pal} {n m : Nat → Nat} (h : gdN P n) (hP : wfP P) (e : ∀ k, k < 80 → m k = n k) : gdN P m := by
  have w9 := (wfb hP h.1).2.2.2.2.2.2.2.2.2.1
  refine ⟨wf_congr h.1 (fun j h1 h2 => e j (by omega)) (by rw [e 9 (by omega)]; exact w9) hP.2.2.1, fun a ha => ?_⟩
  rw [e (18 + a) (by omega), e 1 (by omega)]
  exact h.2 a ha
theorem mix_lt {n m : Nat → Nat} {k : Nat} (h : k < 80) : mix n m 80 k = n k := by unfold mix; rw [if_pos h]
theorem m_undo_b {T : Mem} {p c : Nat} {n u : Nat → Nat} (hR : rfC T p) (hc : T.2.1 216 16 = nI c) (hc15 : c ≤ 15) (hu : ∀ k, k < 80 → T.2.2.1 223 (80 * c + k) = lN (u k)) : ∀ z k fu, 80 = k + z → z < fu → f_X9_undo_b22 fu 216 (nI k) (sn T (mix u n k)) = some (nI c, sn T (mix u n 80)) := by
  have hS := hR.1
  intro z
  induction z with
  | zero =>
    intro k fu hk hf
    obtain ⟨fu, rfl⟩ : ∃ z, fu = z + 1 := ⟨fu - 1, by omega⟩
    obtain rfl : k = 80 := by omega
    rw [f_X9_undo_b22]
    exact bp (by decide +kernel) (bs ((mgI (by exact hS) 16).trans (congrArg some hc)) rfl)
  | succ z ih =>
    intro k fu hk hf
    obtain ⟨fu, rfl⟩ : ∃ z, fu = z + 1 := ⟨fu - 1, by omega⟩
    have ih := ih (k + 1) fu (by omega) (by omega)
    rw [f_X9_undo_b22]
    refine bn (by rw [zi 80, nI_leI (by omega) (by omega)]; omega) (bs (R_7 (rfC_e hR rfl rfl)) (bs (R_15 (rfC_e hR rfl rfl)) (bs ((mgI (by exact hS) 16).trans (congrArg some hc)) (bs (a := lN (u k)) ?_ (bs (sn_st hS (by omega) _) ?_)))))
    · rw [zi 80, pk_mul, nI_add, ld_223 (by exact hS) (by omega)]
      exact congrArg some (hu k (by omega))
    · rw [mix_up, Option.bind_some, zi 1, nI_add]; exact ih
theorem op_16 (x y : Int32) (S : Mem) (h : Inv S) : ∃ S1, sk_16 x y S = some S1 ∧ Inv S1 := by
  obtain ⟨p, ⟨⟨P, pal, n⟩, ⟨us, uc⟩, ⟨im, ik, isd, sd⟩, ⟨tx, tn, lf⟩, ⟨bk, bo, bc⟩⟩, ⟨c1, c2, c3, ⟨pf, hpf, u0, u1, u2⟩, c5, c6, c7, c8, c9⟩, ⟨m1, m2, m3, m4, m5, m6, m7⟩, hw⟩ := id h
  dsimp only at c2 c3 c5 c6 c7 c8 u0 u2 m1 m2 m3 m4 m5 m6 m7
  have hS := c1.1
  have hp := c1.2.1
  have hP : wfP P := hw.1
  have huc : uc ≤ 16 := hw.2.2.2.1
  have h6 := hP.2.2.1
  by_cases h0 : uc = 0
  · refine ⟨_, pick2 (v := -1000000003) (S1 := S) (S2 := S) ?_ ?_ hS hS, h⟩
    · unfold f_X8_undo
      exact bs (r_0_3 c1) (bs ((g_23 hS 0).trans (congrArg some u0)) (bp (by rw [h0]; rfl) rfl))
    · unfold f_X9_undo
      exact bs ((mgI hS 16).trans (congrArg some m3.1)) (bp (by rw [h0]; rfl) rfl)
  · have hne : ¬ nI uc = (0 : Int32) := by rw [zi 0, nI_eq (by omega) (by omega)]; exact h0
    have hgd : gdN P (us (uc - 1)) := hw.2.2.2.2.1 (uc - 1) (by show uc - 1 < uc; omega)
    have hsl : (pf + 16 - uc + (uc - 1)) % 16 = (pf + 15) % 16 := by omega
    have hpl : (pf + 15) % 16 < 16 := Nat.mod_lt _ (by decide)
    have hst := u2 (uc - 1) (by omega)
    rw [hsl] at hst
    obtain ⟨T, hT⟩ : ∃ T, T = rowI S 23 (upd (upd (S.2.1 23) 1 (nI ((pf + 15) % 16))) 0 (nI (uc - 1))) := ⟨_, rfl⟩
    have rT : rfC T p := by rw [hT]; exact rfC_e c1 rfl rfl
    have eT : ∀ b, b ≠ 23 → T.2.1 b = S.2.1 b := fun b hb => by rw [hT, rI2, if_neg hb]
    have tT : Ctail T := Ctail_fr c9 (fun a ha hk => Or.inl (eT a (tl_ne (b := 23) (by decide +kernel) hk)))
    obtain ⟨S6, d1, d2, d3⟩ := c_copySt (stk_ rT (s := 13) (by decide) (by decide)) (stk_ rT (s := 25 + 10 * ((pf + 15) % 16)) (by omega) (stl_p _ hpl)) (by omega) (StR_fr hst (fun b h1 h2 => eT b (by omega))) h6 (fun k hk => tT 14 (by decide) (by decide +kernel) k hk)
    have e6 : ∀ b, b < 13 ∨ 22 < b → S6.2.1 b = T.2.1 b := fun b hb => (d2.2.2 b (btw_f hb)).1
    have r6 := rfC_fr rT d2
    have f1 : fr lo S S6 := by
      refine fr.tr (S1 := T) (by rw [hT]; exact fr.rowI (by decide)) (d2.mono (fun a ha => ?_))
      have : ¬ a < 216 := of_decide_eq_false ha
      exact btw_f (by omega)
    have hc23 : S6.2.1 23 0 = nI (uc - 1) := by
      rw [e6 23 (by omega), hT, rI2, if_pos rfl, upd_s]
    have hd23 : S6.2.1 23 1 = nI ((pf + 15) % 16) := by
      rw [e6 23 (by omega), hT]
      show upd (upd (S.2.1 23) 1 (nI ((pf + 15) % 16))) 0 (nI (uc - 1)) 1 = _
      rw [upd_n (by decide), upd_s]
    have em : ∀ b, 216 ≤ b → S6.2.1 b = S.2.1 b := fun b hb => (f1.2.2 b (decide_eq_false (by omega))).1
    have em' : ∀ b, 216 ≤ b → S6.2.2.1 b = S.2.2.1 b := fun b hb => (f1.2.2 b (decide_eq_false (by omega))).2
    obtain ⟨T2, hT2⟩ : ∃ T2, T2 = rowI S6 216 (upd (S6.2.1 216) 16 (nI (uc - 1))) := ⟨_, rfl⟩
    have r2 : rfC T2 p := by rw [hT2]; exact rfC_e r6 rfl rfl
    have n2 : T2.2.2.1 220 = LL n := by rw [hT2]; show S6.2.2.1 220 = _; rw [em' 220 (by omega)]; exact m2
    have b := m_undo_b (T := T2) (p := p) (c := uc - 1) (n := n) (u := us (uc - 1)) r2 (by rw [hT2, rI2, if_pos rfl, upd_s]) (by omega) (fun k hk => by
      rw [hT2]
      show S6.2.2.1 223 _ = _
      rw [em' 223 (by omega)]; exact m3.2 (uc - 1) (by omega) k hk) 80 0 FU (by omega) (by unfold FU; omega)
    have e0 : mix (us (uc - 1)) n 0 = n := by funext j; simp [mix]
    rw [e0, sn_self n2] at b
    refine ⟨_, pick2 (v := nI (uc - 1)) (S1 := S6) (S2 := sn T2 (mix (us (uc - 1)) n 80)) ?_ ?_ hS r6.1, ?_⟩
    · unfold f_X8_undo f_X3_giveBack
      refine bs (r_0_3 c1) (bs ((g_23 hS 0).trans (congrArg some u0)) (bn hne (bs (r_0_3 c1) (bs (r_0_2 c1) (bs (c_23 hS) (bs (bs ((g_23 hS 0).trans (congrArg some u0)) (bn (by rw [zi 0, nI_leI (by omega) (by omega)]; omega) (bs ((g_23 hS 1).trans (congrArg some u1)) (bs (a := rowI S 23 (upd (S.2.1 23) 1 (nI ((pf + 15) % 16)))) ?_ (bs (a := nI uc) ((g_23 (by exact hS) 0).trans (congrArg some u0)) (bs (a := T) ?_ (bs (r_23_2 rT) (bs (a := nI ((pf + 15) % 16)) ?_ (bs (ldR24 rT hpl) (bs (c_13 rT.1) (bs d1 rfl))))))))))) (bs (r_0_3 r6) (bs ((g_23 r6.1 0).trans (congrArg some hc23)) rfl))))))))
      · rw [zi 16, zi 1, nI_add, pk_sub (by omega), z_rem (by omega) (by omega) (by omega), show pf + 16 - 1 = pf + 15 by omega]
        exact p_23 hS 1 _
      · rw [zi 1, pk_sub (by omega), hT]
        rw [p_23 (by exact hS), rII]; rfl
      · rw [g_23 rT.1, hT]
        show some (upd (upd (S.2.1 23) 1 (nI ((pf + 15) % 16))) 0 (nI (uc - 1)) 1) = _
        rw [upd_n (by decide), upd_s]
    · have q16 : S6.2.1 216 16 = nI uc := by rw [em 216 (by omega)]; exact m3.1
      unfold f_X9_undo
      refine bs ((mgI r6.1 16).trans (congrArg some q16)) (bn hne (bs ((mgI r6.1 16).trans (congrArg some q16)) (bs (a := T2) ?_ b)))
      rw [zi 1, pk_sub (by omega), hT2]
      exact mpI r6.1 16 _
    · have hmx : ∀ k, k < 80 → mix (us (uc - 1)) n 80 k = us (uc - 1) k := fun k hk => mix_lt hk
      refine ⟨p, ⟨⟨P, pal, mix (us (uc - 1)) n 80⟩, ⟨us, uc - 1⟩, ⟨im, ik, isd, sd⟩, ⟨tx, tn, lf⟩, ⟨bk, bo, bc⟩⟩, IC_fr (S := S6) ⟨r6, Cpal_fr c2 (fun b h1 h2 => by rw [e6 b (by omega), eT b (by omega)]), StR_c d3 hP hgd.1 hmx, ⟨(pf + 15) % 16, hpl, hc23, hd23, fun i hi => ?_⟩, Cimg_fr c5 (fun b h1 h2 => by rw [e6 b (by omega), eT b (by omega)]), by rw [e6 0 (by omega), eT 0 (by omega)]; exact c6, Ctext_fr c7 (by rw [e6 1 (by omega), eT 1 (by omega)]) (by rw [e6 7 (by omega), eT 7 (by omega)]), Cbook_fr c8 (by rw [e6 186 (by omega), eT 186 (by omega)]) (by rw [e6 187 (by omega), eT 187 (by omega)]) (by rw [e6 188 (by omega), eT 188 (by omega)]), tl_copy (s := 13) tT (by decide) (by decide) d2 d3⟩ (fr.tr (S1 := T2) (by rw [hT2]; exact fr.rowI (by decide)) sn_hi), ?_, ?_⟩
      · have hi' : i < uc - 1 := hi
        show StR S6 (25 + 10 * (((pf + 15) % 16 + 16 - (uc - 1) + i) % 16)) P (us i)
        rw [show ((pf + 15) % 16 + 16 - (uc - 1) + i) % 16 = (pf + 16 - uc + i) % 16 by omega]
        exact StR_fr (u2 i (by omega)) (fun b h1 h2 => by rw [e6 b (by omega), eT b (by omega)])
      · have t1 : ∀ b, b ≠ 216 → T2.2.1 b = S6.2.1 b := fun b hb => by rw [hT2, rI2, if_neg hb]
        have t2 : ∀ k, k ≠ 16 → T2.2.1 216 k = S6.2.1 216 k := fun k hk => by
          rw [hT2, rI2, if_pos rfl]; exact upd_n hk
        have t3 : T2.2.2.1 = S6.2.2.1 := by rw [hT2]; rfl
        refine ⟨Mpal_fr m1 (fun k hk => ?_) ?_ ?_ ?_, rfl, ⟨?_, fun i hi k hk => ?_⟩, Mimg_fr m4 ?_ ?_, ?_, Mtext_fr m6 ?_ ?_ ?_, Mbook_fr m7 ?_ ?_⟩
        · show T2.2.1 216 k = _
          rw [t2 k (by omega), em 216 (by omega)]
        · show T2.2.1 217 = _
          rw [t1 _ (by decide), em _ (by omega)]
        · show T2.2.1 218 = _
          rw [t1 _ (by decide), em _ (by omega)]
        · show T2.2.1 219 = _
          rw [t1 _ (by decide), em _ (by omega)]
        · show T2.2.1 216 16 = nI (uc - 1)
          rw [hT2, rI2, if_pos rfl, upd_s]
        · show T2.2.2.1 223 _ = _
          have hi' : i < uc - 1 := hi
          rw [t3, em' 223 (by omega)]; exact m3.2 i (by omega) k hk
        · show T2.2.1 232 = _
          rw [t1 _ (by decide), em _ (by omega)]
        · show T2.2.2.1 231 = _
          rw [t3, em' _ (by omega)]
        · show T2.2.2.1 216 8 = _
          rw [t3, em' _ (by omega)]; exact m5
        · show T2.2.1 216 10 = _
          rw [t2 _ (by decide), em _ (by omega)]
        · show T2.2.1 216 13 = _
          rw [t2 _ (by decide), em _ (by omega)]
        · show T2.2.1 221 = _
          rw [t1 _ (by decide), em _ (by omega)]
        · show T2.2.1 216 24 = _
          rw [t2 _ (by decide), em _ (by omega)]
        · show T2.2.1 230 = _
          rw [t1 _ (by decide), em _ (by omega)]
      · obtain ⟨a1, a2, a3, a4, a5, a6⟩ := hw
        exact ⟨a1, a2, gd_c hgd hP hmx, show uc - 1 ≤ 16 by omega, fun i hi => a5 i (Nat.lt_of_lt_of_le hi (Nat.sub_le _ _)), a6⟩
