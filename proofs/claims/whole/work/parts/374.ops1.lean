/-! palace -/
theorem hi_222 {S S' : Mem} (f : fr X222 S S') : fr hi S S' := f.mono (fun a ha => by
  have : ¬ 216 ≤ a := of_decide_eq_false ha
  simp only [X222, beq_eq_false_iff_ne]; omega)
theorem hi_21 {S S' : Mem} (f : fr X21 S S') : fr hi S S' := f.mono (fun a ha => by
  have : ¬ 216 ≤ a := of_decide_eq_false ha
  simp only [X21, Bool.or_eq_false_iff, beq_eq_false_iff_ne]; omega)
theorem op_1 (x y : Int32) (S : Mem) (h : Inv S) : ∃ S1, sk_1 x y S = some S1 ∧ Inv S1 := by
  obtain ⟨p, A, hC, hM, hW⟩ := id h
  have hS := hC.1.1
  obtain ⟨hE, hO⟩ := c_pal hC hW
  have h240 : A.2.2.2.1.2.1 ≤ 240 := hW.2.2.2.2.2.2.2.1
  have hRd := RdC_A hC hW
  have hRM : ∀ (T : Mem) p', rfC T p' → (∀ a, 216 ≤ a → T.2.1 a = S.2.1 a ∧ T.2.2.1 a = S.2.2.1 a) → RdM T p' (txx A) A.2.2.2.1.2.1 := fun T p' hR' he => ⟨hR', fun k hk => by
    rw [(he 221 (by decide)).1]
    unfold txx
    rw [if_pos hk]; exact hM.2.2.2.2.2.1.2.2 k hk, h240, hRd.2.2.2⟩
  cases e : aTxt (txx A) A.2.2.2.1.2.1 with
  | error e' =>
    obtain ⟨T, t1, t2, t3⟩ := hE e' e
    have hRT := t3.1
    have he : ∀ a, 216 ≤ a → T.2.1 a = S.2.1 a ∧ T.2.2.1 a = S.2.2.1 a := fun a ha => t2.2.2 a (by simp [lo]; omega)
    have hMT := IM_fr hM t2
    obtain ⟨S', F', m1, m2, m3, -, m5⟩ := m_pal (hRM T p hRT he) hMT.2.2.2.2.2.1.1
    obtain ⟨n1, n2⟩ := m5 e' e
    refine ⟨rowI S' 216 F', pick2 t1 n2 hS hRT.1, Inv_mk t3 (fr.tr (hi_222 m1) (fr.rowI (by decide))) ?_ ?_⟩
    · obtain ⟨i1, i2, i3, i4, i5, i6, i7⟩ := hMT
      have er : ∀ a, a ≠ 222 → a ≠ 216 → (rowI S' 216 F').2.1 a = T.2.1 a := fun a h1 h2 => by rw [row_n h2]; exact (m1.2.2 a (by simp [X222, h1])).1
      have eJ : ∀ a, a ≠ 222 → (rowI S' 216 F').2.2.1 a = T.2.2.1 a := fun a h1 => (m1.2.2 a (by simp [X222, h1])).2
      have e6 : ∀ k, k < 10 ∨ 13 < k → (rowI S' 216 F').2.1 216 k = T.2.1 216 k := fun k hk => by rw [row_s]; exact m2 k hk
      exact ⟨Mpal_fr i1 (fun k hk => e6 k (by omega)) (er _ (by decide) (by decide)) (er _ (by decide) (by decide)) (er _ (by decide) (by decide)), (eJ 220 (by decide)).trans i2, Mpast_fr i3 (e6 16 (by omega)) (eJ 223 (by decide)), Mimg_fr i4 (er _ (by decide) (by decide)) (eJ 231 (by decide)), by rw [eJ 216 (by decide)]; exact i5, ⟨by rw [row_s]; exact m3, by rw [row_s]; exact n1, fun k hk => absurd hk (Nat.not_lt_zero k)⟩, Mbook_fr i7 (e6 24 (by omega)) (er _ (by decide) (by decide))⟩
    · obtain ⟨a1, a2, a3, a4, a5, a6, a7, a8, a9, a10⟩ := hW
      exact ⟨a1, a2, a3, a4, a5, a6, a7, Nat.zero_le _, fun k hk => absurd hk (Nat.not_lt_zero k), a10⟩
  | ok D =>
    obtain ⟨T, t1, t0, he, t3⟩ := hO D e
    have hwD : wfD D := aPar_wf _ _ _ _ D0f_wf e
    have hRT := t3.1
    have hm10 : T.2.1 216 10 = nI A.2.2.2.1.2.1 := by rw [(he 216 (by decide)).1]; exact hM.2.2.2.2.2.1.1
    obtain ⟨S', F', m1, m2, m3, m4, -⟩ := m_pal (hRM T _ hRT he) hm10
    obtain ⟨n1, n2, n3⟩ := m4 D e
    have hR' := rfC_fr hRT m1
    have hn0 : S'.2.2.1 220 = LL A.1.2.2 := by rw [(m1.2.2 220 (by decide)).2, (he 220 (by decide)).2]; exact hM.2.1
    obtain ⟨T', F2, b1, b2, b3, b4, b5, b6, b7, b8, b9, b10, b11⟩ := m_becomes (F := F') hR' hn0 n2 hwD
    obtain ⟨M, hMd⟩ : ∃ M, M = sn (rowI (rowI T' 216 F2) 232 (upd (upd (S'.2.1 232) 0 0) 1 0)) (nwN D A.1.2.2) := ⟨_, rfl⟩
    rw [← hMd] at b1
    have g1 : gI 9 1 M 216 = some (nI (rms D.2.1)) := by
      have hM1 : M.1 = 233 := by rw [hMd]; exact b2.1.trans hR'.1
      rw [mgI hM1, hMd, sn_g, row_n (by decide), row_s, b5]
    have hpal : f_X9_palace 216 T = some (nI (rms D.2.1), M) := n3.trans (bs b1 (bs g1 rfl))
    have r216 : M.2.1 216 = F2 := by rw [hMd, sn_g, row_n (by decide), row_s]
    have rI : ∀ a, a ≠ 216 → a ≠ 232 → M.2.1 a = T'.2.1 a := fun a h1 h2 => by rw [hMd, sn_g, row_n h2, row_n h1]
    have rJ : ∀ a, a ≠ 220 → a ≠ 222 → X21 a = false → M.2.2.1 a = T.2.2.1 a := fun a h1 h2 h3 => by
      have : M.2.2.1 a = T'.2.2.1 a := by rw [hMd]; exact if_neg h1
      rw [this, (b2.2.2 a h3).2, (m1.2.2 a (by simp [X222, h2])).2]
    refine ⟨M, pick2 t1 hpal hS t0, Inv_mk t3 (fr.tr (hi_222 m1) (fr.tr (hi_21 b2) ?_)) ?_ ?_⟩
    · rw [hMd]
      exact fr.tr (fr.tr (fr.rowI (by decide)) (fr.rowI (by decide))) sn_hi
    · have s8 : M.2.2.1 216 8 = lN A.2.2.1.2.2.2 := by rw [rJ 216 (by decide) (by decide) (by decide), (he 216 (by decide)).2]; exact hM.2.2.2.2.1
      refine ⟨⟨by rw [r216]; exact b4, by rw [r216]; exact b5, by rw [r216]; exact b6, by rw [r216]; exact b7, fun d hd => by rw [rI _ (by decide) (by decide)]; exact (b10 d hd).1, fun d hd => by rw [rI _ (by decide) (by decide)]; exact (b10 d hd).2, fun d hd => by rw [rI _ (by decide) (by decide)]; exact b11 d hd⟩, by rw [hMd]; rfl, ⟨by rw [r216]; exact b8, fun i hi => absurd hi (Nat.not_lt_zero i)⟩, ?_, s8, ⟨by rw [r216, b3 10 (by decide) (by decide) (by decide)]; exact m3, by rw [r216, b3 13 (by decide) (by decide) (by decide)]; exact n1, fun k hk => absurd hk (Nat.not_lt_zero k)⟩, ⟨by rw [r216]; exact b9, fun k hk => absurd hk (Nat.not_lt_zero k)⟩⟩
      intro i hi
      refine ⟨?_, fun hk => absurd hk (by simp [nwA])⟩
      have r232 : M.2.1 232 = upd (upd (S'.2.1 232) 0 0) 1 0 := by rw [hMd, sn_g, row_s]
      rw [r232]
      rcases (by omega : i = 0 ∨ i = 1) with rfl | rfl <;> rfl
    · obtain ⟨a1, a2, a3, a4, a5, a6, a7, a8, a9, a10⟩ := hW
      refine ⟨hwD.1, fun z => hwD.2.2.2.2.2.1 ?_, nw_gd hwD, Nat.zero_le _, fun i hi => absurd hi (Nat.not_lt_zero i), fun i hi hk => absurd hk (by simp [nwA]), a7, Nat.zero_le _, fun k hk => absurd hk (Nat.not_lt_zero k), Nat.zero_le _, fun k hk => absurd hk (Nat.not_lt_zero k)⟩
      have z' : D.1.isSome = false := z
      cases hu : D.1 with
      | none => rfl
      | some v => rw [hu] at z'; exact absurd z' (by simp)
