theorem bs {α β : Type} {F : Option α} {G : α → Option β} {a : α} {r : Option β} (h1 : F = some a) (h2 : G a = r) : F.bind G = r := by
  rw [h1]; exact h2
theorem bp {α : Type} {c : Prop} [Decidable c] {A B r : α} (h1 : c) (h2 : A = r) : (if c then A else B) = r := by
  rw [if_pos h1]; exact h2
theorem bn {α : Type} {c : Prop} [Decidable c] {A B r : α} (h1 : ¬ c) (h2 : B = r) : (if c then A else B) = r := by
  rw [if_neg h1]; exact h2
theorem tl_ne {a b : Nat} (h : kd b ≠ 4) (hk : kd a = 4) : a ≠ b := fun z => h (z ▸ hk)
theorem op_0 (x y : Int32) (S : Mem) (h : Inv S) : ∃ S1, sk_0 x y S = some S1 ∧ Inv S1 := by
  obtain ⟨p, ⟨⟨P, pal, n⟩, ⟨us, uc⟩, ⟨im, ik, isd, sd⟩, ⟨tx, tn, lf⟩, ⟨bk, bo, bc⟩⟩, ⟨c1, c2, c3, c4, c5, c6, c7, c8, c9⟩, ⟨m1, m2, m3, m4, m5, m6, m7⟩, hw⟩ := id h
  dsimp only at c2 c3 c4 c6 c7 c8 m1 m2 m3 m5 m6 m7 hw
  have hS := c1.1
  have hp := c1.2.1
  have ht : tn ≤ 240 := hw.2.2.2.2.2.2.2.1
  have n255 : ¬ x ≤ nI 255 ↔ nI 255 < x := by
    rw [Int32.le_iff_toInt_le, Int32.lt_iff_toInt_lt]; omega
  have g256 : nI 256 ≤ x ↔ nI 255 < x := by
    rw [Int32.le_iff_toInt_le, Int32.lt_iff_toInt_lt, nI_toInt (by omega), nI_toInt (by omega)]; omega
  rcases tri x (r := 256) (by omega) with hx | ⟨c, hc, rfl⟩
  · rw [g256] at hx
    refine ⟨_, pick2 (v := -1000000002) (S1 := S) (S2 := S) ?_ ?_ hS hS, h⟩
    · unfold f_X8_feed
      by_cases h0 : x < 0
      · rw [if_pos h0]
      · rw [if_neg h0, if_neg (show ¬ x ≤ (255 : Int32) from n255.mpr (hx.resolve_left h0))]
    · unfold f_X9_feed
      rw [zj 0, zj 255, in_k0 (by omega) (by omega) hx, Option.bind_some, if_pos nI00]
  · have i1 : f_X9_in (nI c).toInt64 (lN 0) (lN 255) = some (nI 1) := by rw [in_kj (by omega) (by omega) (by omega), if_pos (by omega)]
    have a1 : ¬ nI c < 0 := nI_pos (by omega)
    have a2 : nI c ≤ (255 : Int32) := by rw [zi 255, nI_leI (by omega) (by omega)]; omega
    by_cases h240 : tn = 240
    · refine ⟨_, pick2 (v := -1000000004) (S1 := S) (S2 := S) ?_ ?_ hS hS, h⟩
      · unfold f_X8_feed
        rw [if_neg a1, if_pos a2, r_0_0 c1, Option.bind_some, g_1 hS, c7.1, h240, Option.bind_some, if_neg (by decide +kernel)]
      · unfold f_X9_feed
        rw [zj 0, zj 255, i1, Option.bind_some, if_neg nI10, mgI hS, m6.1, h240, Option.bind_some, if_pos (by decide +kernel)]
    · refine ⟨_, pick2 (v := nI (tn + 1)) (S1 := rowI (rowI S 7 (upd (S.2.1 7) tn (nI c))) 1 (upd (S.2.1 1) 0 (nI (tn + 1)))) (S2 := rowI (rowI (rowI (rowI S 7 (upd (S.2.1 7) tn (nI c))) 1 (upd (S.2.1 1) 0 (nI (tn + 1)))) 221 (upd (S.2.1 221) tn (nI c))) 216 (upd (S.2.1 216) 10 (nI (tn + 1)))) ?_ ?_ hS hS, ?_⟩
      · have a3 : nI tn < (240 : Int32) := by rw [zi 240, nI_ltI (by omega) (by omega)]; omega
        have a4 : ¬ (240 : Int32) ≤ nI tn := by rw [zi 240, nI_leI (by omega) (by omega)]; omega
        unfold f_X8_feed f_X6_add
        have g0 : gI 6 0 S 1 = some (nI tn) := by rw [g_1 hS, c7.1]
        refine bn a1 (bp a2 (bs (r_0_0 c1) (bs g0 (bp a3 (bs (r_0_0 c1) (bs (c_1 (by exact hS)) (bs (bs g0 (bn a4 (bs (r_1_4 c1) (bs g0 (bs (st_7 (by exact hS) (by omega) _) (bs (a := nI tn) ((g_1 (by exact hS) 0).trans (congrArg some c7.1)) (bs (p_1 (by exact hS) 0 _) rfl)))))))  (bs (r_0_0 (rfC_e c1 rfl rfl)) (bs (g_1 (by exact hS) 0) ?_)))))))))
        rw [zi 1, nI_add]; rfl
      · have a4 : ¬ nI tn = (240 : Int32) := by rw [zi 240, nI_eq (by omega) (by omega)]; omega
        unfold f_X9_feed
        refine bs i1 (bn nI10 (bs (a := nI tn) ((mgI (by exact hS) 10).trans (congrArg some m6.1)) (bn a4 (bs (R_9 (rfC_e c1 rfl rfl)) (bs (a := nI tn) ((mgI (by exact hS) 10).trans (congrArg some m6.1)) (bs (st_221 (by exact hS) (by omega) _) (bs (a := nI tn) ((mgI (by exact hS) 10).trans (congrArg some m6.1)) (bs (mpI (by exact hS) 10 _) (bs (mgI (by exact hS) 10) ?_)))))))))
        rw [zi 1, nI_add]; rfl
      · refine ⟨p, ⟨⟨P, pal, n⟩, ⟨us, uc⟩, ⟨im, ik, isd, sd⟩, ⟨va_up tx tn c, tn + 1, lf⟩, ⟨bk, bo, bc⟩⟩, ⟨rfC_e c1 rfl rfl, Cpal_fr c2 (fun b h1 h2 => ?_), StR_fr c3 (fun b h1 h2 => ?_), Cpast_fr c4 (fun b h1 h2 => ?_), Cimg_fr c5 (fun b h1 h2 => ?_), c6, ⟨rfl, c7.2.1, ?_⟩, Cbook_fr c8 rfl rfl rfl, Ctail_fr c9 (fun a ha hk => Or.inl ?_)⟩, ⟨Mpal_fr m1 (fun k hk => ?_) rfl rfl rfl, m2, Mpast_fr m3 rfl rfl, Mimg_fr m4 rfl rfl, m5, ⟨rfl, m6.2.1, ?_⟩, Mbook_fr m7 rfl rfl⟩, ?_⟩
        · rw [rI2, if_neg (by omega), rI2, if_neg (by omega), rI2, if_neg (by omega), rI2, if_neg (by omega)]
        · rw [rI2, if_neg (by omega), rI2, if_neg (by omega), rI2, if_neg (by omega), rI2, if_neg (by omega)]
        · rw [rI2, if_neg (by omega), rI2, if_neg (by omega), rI2, if_neg (by omega), rI2, if_neg (by omega)]
        · rw [rI2, if_neg (by omega), rI2, if_neg (by omega), rI2, if_neg (by omega), rI2, if_neg (by omega)]
        · intro k hk
          show upd (S.2.1 7) tn (nI c) k = nI (va_up tx tn c k)
          by_cases q : k = tn
          · subst q; rw [upd_s, up_at, if_pos rfl]
          · rw [upd_n q, up_at, if_neg q]; exact c7.2.2 k (by dsimp only at hk; omega)
        · have b1 := tl_ne (b := 1) (by decide +kernel) hk
          have b7 := tl_ne (b := 7) (by decide +kernel) hk
          rw [rI2, if_neg (by omega), rI2, if_neg (by omega), rI2, if_neg b1, rI2, if_neg b7]
        · show upd (S.2.1 216) 10 (nI (tn + 1)) k = S.2.1 216 k
          exact upd_n (by omega)
        · intro k hk
          show upd (S.2.1 221) tn (nI c) k = nI (va_up tx tn c k)
          by_cases q : k = tn
          · subst q; rw [upd_s, up_at, if_pos rfl]
          · rw [upd_n q, up_at, if_neg q]; exact m6.2.2 k (by dsimp only at hk; omega)
        · obtain ⟨a1, a2, a3, a4, a5, a6, a7, a8, a9, a10⟩ := hw
          refine ⟨a1, a2, a3, a4, a5, a6, a7, show tn + 1 ≤ 240 by omega, fun k hk => ?_, a10⟩
          show va_up tx tn c k < 256
          by_cases q : k = tn
          · rw [up_at, if_pos q]; exact hc
          · rw [up_at, if_neg q]; exact a9 k (by dsimp only at hk; show k < tn; omega)
theorem op_32 (x y : Int32) (S : Mem) (h : Inv S) : ∃ S1, sk_32 x y S = some S1 ∧ Inv S1 := by
  obtain ⟨p, ⟨⟨P, pal, n⟩, ⟨us, uc⟩, ⟨im, ik, isd, sd⟩, ⟨tx, tn, lf⟩, ⟨bk, bo, bc⟩⟩, ⟨c1, c2, c3, c4, c5, c6, c7, c8, c9⟩, ⟨m1, m2, m3, m4, m5, m6, m7⟩, hw⟩ := id h
  dsimp only at c2 c3 c4 c6 c7 c8 m1 m2 m3 m5 m6 m7 hw
  have hS := c1.1
  have hp := c1.2.1
  refine ⟨_, pick2 (v := nI bc) (S1 := rowI S 186 (upd (S.2.1 186) 0 (nI 0))) (S2 := rowI (rowI S 186 (upd (S.2.1 186) 0 (nI 0))) 216 (upd (S.2.1 216) 24 (nI 0))) ?_ ?_ hS hS, ?_⟩
  · unfold f_X8_tear
    rw [r_0_5 c1, Option.bind_some, g_186 hS, c8.1, Option.bind_some, Option.bind_some, p_186 hS]; rfl
  · unfold f_X9_tear
    rw [mgI (by exact hS), Option.bind_some, mpI (by exact hS), Option.bind_some]
    show some (S.2.1 216 24, _) = _
    rw [m7.1]; rfl
  · refine ⟨p, ⟨⟨P, pal, n⟩, ⟨us, uc⟩, ⟨im, ik, isd, sd⟩, ⟨tx, tn, lf⟩, ⟨bk, bo, 0⟩⟩, ⟨rfC_e c1 rfl rfl, Cpal_fr c2 (fun b h1 h2 => ?_), StR_fr c3 (fun b h1 h2 => ?_), Cpast_fr c4 (fun b h1 h2 => ?_), Cimg_fr c5 (fun b h1 h2 => ?_), c6, Ctext_fr c7 rfl rfl, ⟨rfl, fun k hk => absurd hk (Nat.not_lt_zero k)⟩, Ctail_fr c9 (fun a ha hk => Or.inl ?_)⟩, ⟨Mpal_fr m1 (fun k hk => ?_) rfl rfl rfl, m2, Mpast_fr m3 rfl rfl, Mimg_fr m4 rfl rfl, m5, Mtext_fr m6 rfl rfl rfl, ⟨rfl, fun k hk => absurd hk (Nat.not_lt_zero k)⟩⟩, ?_⟩
    · rw [rI2, if_neg (by omega), rI2, if_neg (by omega)]
    · rw [rI2, if_neg (by omega), rI2, if_neg (by omega)]
    · rw [rI2, if_neg (by omega), rI2, if_neg (by omega)]
    · rw [rI2, if_neg (by omega), rI2, if_neg (by omega)]
    · have b1 := tl_ne (b := 186) (by decide +kernel) hk
      rw [rI2, if_neg (by omega), rI2, if_neg b1]
    · show upd (S.2.1 216) 24 (nI 0) k = S.2.1 216 k
      exact upd_n (by omega)
    · obtain ⟨a1, a2, a3, a4, a5, a6, a7, a8, a9, a10, a11⟩ := hw
      exact ⟨a1, a2, a3, a4, a5, a6, a7, a8, a9, Nat.zero_le _, fun k hk => absurd hk (Nat.not_lt_zero k)⟩
theorem op_31 (x y : Int32) (S : Mem) (h : Inv S) : ∃ S1, sk_31 x y S = some S1 ∧ Inv S1 := by
  obtain ⟨p, ⟨⟨P, pal, n⟩, ⟨us, uc⟩, ⟨im, ik, isd, sd⟩, ⟨tx, tn, lf⟩, ⟨bk, bo, bc⟩⟩, ⟨c1, c2, c3, c4, c5, c6, c7, c8, c9⟩, ⟨m1, m2, m3, m4, m5, m6, m7⟩, hw⟩ := id h
  dsimp only at c2 c3 c4 c6 c7 c8 m1 m2 m3 m5 m6 m7 hw
  have hS := c1.1
  have hp := c1.2.1
  have hP : wfP P := hw.1
  have hr8 := hP.1
  have hb : bc ≤ 15 := hw.2.2.2.2.2.2.2.2.2.1
  have n9 : ¬ y ≤ nI 9999 ↔ nI 9999 < y := by
    rw [Int32.le_iff_toInt_le, Int32.lt_iff_toInt_lt]; omega
  have g9 : nI 10000 ≤ y ↔ nI 9999 < y := by
    rw [Int32.le_iff_toInt_le, Int32.lt_iff_toInt_lt, nI_toInt (by omega), nI_toInt (by omega)]; omega
  rcases tri x (r := rms P) (by omega) with hx | ⟨j, hj, rfl⟩
  · refine ⟨_, pick2 (v := -1000000001) (S1 := S) (S2 := S) ?_ ?_ hS hS, h⟩
    · unfold f_X8_write
      rw [c_0 hS, Option.bind_some, c_noRoom1 c1 c2.1.1 hr8 hx, Option.bind_some, if_neg nI10]
    · unfold f_X9_write
      rw [mck hS, Option.bind_some, m_isRoom0 hS m1.2.1 hr8 hx, Option.bind_some, if_pos nI00]
  · have k1 := c_noRoom0 c1 c2.1.1 hr8 hj
    have k2 := m_isRoom1 hS m1.2.1 hr8 hj
    rcases tri y (r := 10000) (by omega) with hy | ⟨c, hc, rfl⟩
    · rw [g9] at hy
      refine ⟨_, pick2 (v := -1000000002) (S1 := S) (S2 := S) ?_ ?_ hS hS, h⟩
      · unfold f_X8_write
        rw [c_0 hS, Option.bind_some, k1, Option.bind_some, if_pos nI00]
        by_cases h0 : y < 0
        · rw [if_pos h0]
        · rw [if_neg h0, if_neg (show ¬ y ≤ (9999 : Int32) from n9.mpr (hy.resolve_left h0))]
      · unfold f_X9_write
        rw [mck hS, Option.bind_some, k2, Option.bind_some, if_neg nI10, zj 0, zj 9999, in_k0 (by omega) (by omega) hy, Option.bind_some, if_pos nI00]
    · have i1 : f_X9_in (nI c).toInt64 (lN 0) (lN 9999) = some (nI 1) := by rw [in_kj (by omega) (by omega) (by omega), if_pos (by omega)]
      have a1 : ¬ nI c < 0 := nI_pos (by omega)
      have a2 : nI c ≤ (9999 : Int32) := by rw [zi 9999, nI_leI (by omega) (by omega)]; omega
      by_cases h15 : bc = 15
      · refine ⟨_, pick2 (v := -1000000004) (S1 := S) (S2 := S) ?_ ?_ hS hS, h⟩
        · unfold f_X8_write
          rw [c_0 hS, Option.bind_some, k1, Option.bind_some, if_pos nI00, if_neg a1, if_pos a2, r_0_5 c1, Option.bind_some, g_186 hS, c8.1, h15, Option.bind_some, if_neg (by decide +kernel)]
        · unfold f_X9_write
          rw [mck hS, Option.bind_some, k2, Option.bind_some, if_neg nI10, zj 0, zj 9999, i1, Option.bind_some, if_neg nI10, mgI hS, m7.1, h15, Option.bind_some, if_pos (by decide +kernel)]
      · obtain ⟨S1, hS1⟩ : ∃ S1, S1 = rowI (rowI (rowI S 187 (upd (S.2.1 187) bc (nI j))) 188 (upd (S.2.1 188) bc (nI c))) 186 (upd (S.2.1 186) 0 (nI (bc + 1))) := ⟨_, rfl⟩
        have hS1' : S1.1 = 233 := by rw [hS1]; exact hS
        have hR1 : rfC S1 p := by rw [hS1]; exact rfC_e c1 rfl rfl
        have q24 : S1.2.1 216 24 = nI bc := by rw [hS1]; exact m7.1
        have q1 : S1.2.1 216 1 = nI (rms P) := by rw [hS1]; exact m1.2.1
        refine ⟨_, pick2 (v := nI (bc + 1)) (S1 := S1) (S2 := rowI (rowI S1 230 (upd (upd (S1.2.1 230) (2 * bc) (nI j)) (2 * bc + 1) (nI c))) 216 (upd (S1.2.1 216) 24 (nI (bc + 1)))) ?_ ?_ hS hS1', ?_⟩
        · have a3 : nI bc < (15 : Int32) := by rw [zi 15, nI_ltI (by omega) (by omega)]; omega
          have a4 : ¬ (15 : Int32) ≤ nI bc := by rw [zi 15, nI_leI (by omega) (by omega)]; omega
          unfold f_X8_write f_X0_add
          have g0 : ∀ {S' : Mem}, S'.1 = 233 → S'.2.1 186 0 = nI bc → gI 0 0 S' 186 = some (nI bc) := fun h1 h2 => by rw [g_186 h1, h2]
          refine bs (c_0 (by exact hS)) (bs k1 (bp nI00 (bn a1 (bp a2 (bs (r_0_5 c1) (bs (g0 (by exact hS) c8.1) (bp a3 (bs (r_0_5 c1) (bs (c_186 (by exact hS)) (bs (bs (g0 (by exact hS) c8.1) (bn a4 (bs (r_186_1 c1) (bs (g0 (by exact hS) c8.1) (bs (st_187 (by exact hS) (by omega) _) (bs (r_186_2 (rfC_e c1 rfl rfl)) (bs (g0 (by exact hS) c8.1) (bs (st_188 (by exact hS) (by omega) _) (bs (g0 (by exact hS) c8.1) (bs (p_186 (by exact hS) 0 _) rfl)))))))))) (bs (r_0_5 (rfC_e c1 rfl rfl)) (bs (g_186 (by exact hS) 0) ?_))))))))))))
          rw [zi 1, nI_add, hS1]; rfl
        · have a4 : ¬ nI bc = (15 : Int32) := by rw [zi 15, nI_eq (by omega) (by omega)]; omega
          unfold f_X9_write
          have g0 : ∀ {S' : Mem}, S'.1 = 233 → S'.2.1 216 24 = nI bc → gI 9 24 S' 216 = some (nI bc) := fun h1 h2 => by rw [mgI h1, h2]
          have s1 : ∀ {S' : Mem} (v : Int32), S'.1 = 233 → stI S' 230 (nI 2 * nI bc) v = some (rowI S' 230 (upd (S'.2.1 230) (2 * bc) v)) := fun v h => by rw [pk_mul]; exact st_230 h (by omega) v
          have s2 : ∀ {S' : Mem} (v : Int32), S'.1 = 233 → stI S' 230 (nI 2 * nI bc + nI 1) v = some (rowI S' 230 (upd (S'.2.1 230) (2 * bc + 1) v)) := fun v h => by rw [pk_mul, nI_add]; exact st_230 h (by omega) v
          rw [zi 2, zi 1]
          refine bs (mck (by exact hS1')) (bs (m_isRoom1 (by exact hS1') q1 hr8 hj) (bn nI10 (bs i1 (bn nI10 (bs (g0 (by exact hS1') q24) (bn a4 (bs (R_23 hR1) (bs (g0 (by exact hS1') q24) (bs (s1 _ (by exact hS1')) (bs (R_23 (rfC_e hR1 rfl rfl)) (bs (g0 (by exact hS1') q24) (bs (s2 _ (by exact hS1')) (bs (g0 (by exact hS1') q24) (bs (mpI (by exact hS1') 24 _) (bs (mgI (by exact hS1') 24) ?_)))))))))))))))
          rw [nI_add, rII]; rfl
        · refine ⟨p, ⟨⟨P, pal, n⟩, ⟨us, uc⟩, ⟨im, ik, isd, sd⟩, ⟨tx, tn, lf⟩, ⟨va_up bk bc j, va_up bo bc c, bc + 1⟩⟩, ⟨rfC_e hR1 rfl rfl, Cpal_fr c2 (fun b h1 h2 => ?_), StR_fr c3 (fun b h1 h2 => ?_), Cpast_fr c4 (fun b h1 h2 => ?_), Cimg_fr c5 (fun b h1 h2 => ?_), by rw [hS1]; exact c6, Ctext_fr c7 (by rw [hS1]; rfl) (by rw [hS1]; rfl), ⟨by rw [hS1]; rfl, ?_⟩, Ctail_fr c9 (fun a ha hk => Or.inl ?_)⟩, ⟨Mpal_fr m1 (fun k hk => ?_) (by rw [hS1]; rfl) (by rw [hS1]; rfl) (by rw [hS1]; rfl), by rw [hS1]; exact m2, Mpast_fr m3 (by rw [hS1]; rfl) (by rw [hS1]; rfl), Mimg_fr m4 (by rw [hS1]; rfl) (by rw [hS1]; rfl), by rw [hS1]; exact m5, Mtext_fr m6 (by rw [hS1]; rfl) (by rw [hS1]; rfl) (by rw [hS1]; rfl), ⟨by rw [hS1]; rfl, ?_⟩⟩, ?_⟩
          · rw [hS1, rI2, if_neg (by omega), rI2, if_neg (by omega), rI2, if_neg (by omega), rI2, if_neg (by omega), rI2, if_neg (by omega)]
          · rw [hS1, rI2, if_neg (by omega), rI2, if_neg (by omega), rI2, if_neg (by omega), rI2, if_neg (by omega), rI2, if_neg (by omega)]
          · rw [hS1, rI2, if_neg (by omega), rI2, if_neg (by omega), rI2, if_neg (by omega), rI2, if_neg (by omega), rI2, if_neg (by omega)]
          · rw [hS1, rI2, if_neg (by omega), rI2, if_neg (by omega), rI2, if_neg (by omega), rI2, if_neg (by omega), rI2, if_neg (by omega)]
          · intro k hk
            rw [hS1]
            show upd (S.2.1 187) bc (nI j) k = nI (va_up bk bc j k) ∧ upd (S.2.1 188) bc (nI c) k = nI (va_up bo bc c k)
            by_cases q : k = bc
            · subst q; rw [upd_s, upd_s, up_at, up_at, if_pos rfl, if_pos rfl]; exact ⟨rfl, rfl⟩
            · rw [upd_n q, upd_n q, up_at, up_at, if_neg q, if_neg q]; exact c8.2 k (by dsimp only at hk; omega)
          · have b1 := tl_ne (b := 186) (by decide +kernel) hk
            have b2 := tl_ne (b := 187) (by decide +kernel) hk
            have b3 := tl_ne (b := 188) (by decide +kernel) hk
            rw [hS1, rI2, if_neg (by omega), rI2, if_neg (by omega), rI2, if_neg b1, rI2, if_neg b3, rI2, if_neg b2]
          · rw [hS1]
            show upd (S.2.1 216) 24 (nI (bc + 1)) k = S.2.1 216 k
            exact upd_n (by omega)
          · intro k hk
            rw [hS1]
            show upd (upd (S.2.1 230) (2 * bc) (nI j)) (2 * bc + 1) (nI c) (2 * k) = nI (va_up bk bc j k) ∧ upd (upd (S.2.1 230) (2 * bc) (nI j)) (2 * bc + 1) (nI c) (2 * k + 1) = nI (va_up bo bc c k)
            by_cases q : k = bc
            · subst q; rw [upd_s, upd_n (by omega), upd_s, up_at, up_at, if_pos rfl, if_pos rfl]; exact ⟨rfl, rfl⟩
            · rw [upd_n (by omega), upd_n (by omega), upd_n (by omega), upd_n (by omega), up_at, up_at, if_neg q, if_neg q]; exact m7.2 k (by dsimp only at hk; omega)
          · obtain ⟨a1, a2, a3, a4, a5, a6, a7, a8, a9, a10, a11⟩ := hw
            refine ⟨a1, a2, a3, a4, a5, a6, a7, a8, a9, show bc + 1 ≤ 15 by omega, fun k hk => ?_⟩
            show va_up bk bc j k < rms P ∧ va_up bo bc c k ≤ 9999
            by_cases q : k = bc
            · rw [up_at, up_at, if_pos q, if_pos q]; exact ⟨hj, by omega⟩
            · rw [up_at, up_at, if_neg q, if_neg q]; exact a11 k (by dsimp only at hk; show k < bc; omega)
