/-! clauses of the model: doors, and all together -/
theorem aNum_skp {tx : Nat → Nat} {tn q lim : Nat} : aNum tx tn (skp tx tn q) lim = aNum tx tn q lim := by
  unfold aNum
  rw [skp_id]
theorem m_door {S : Mem} {p tn q : Nat} {tx : Nat → Nat} {F : Nat → Int32} {D : Dft} (h : RdM S p tx tn) (hq : q < tn) (hF : oM F tn q) (hC : MRd S D) (hD : wfD D) :
    ∃ S' F', f_X9_readDoor 216 (rowI S 216 F) = some (rowI S' 216 F') ∧ fr X222 S S' ∧ kM F F' ∧ (∀ q' D', aDoor tx tn q D = .ok (q', D') → oM F' tn q' ∧ MRd S' D') ∧ (∀ e, aDoor tx tn q D = .error e → eM F' tn e) := by
  have hR := h.1
  have hS := hR.1
  have hr8 := hD.1.1
  have hd12 := hD.1.2.1
  have hp6 := hD.1.2.2.1
  have h240 := h.2.2.1
  have hRT : ∀ F, rfC (rowI S 216 F) p := fun F => rfC_e hR rfl rfl
  have l1 : ∀ F, ldI (rowI S 216 F) 222 (1 : Int32) = some (nI (rms D.2.1)) := fun F => (rd_l hS (k := 1) (by decide)).trans (congrArg some hC.2.1)
  have l2 : ∀ F, ldI (rowI S 216 F) 222 (2 : Int32) = some (nI (drs D.2.1)) := fun F => (rd_l hS (k := 2) (by decide)).trans (congrArg some hC.2.2.1)
  unfold aDoor
  by_cases hs : 12 ≤ drs D.2.1
  · rw [decide_eq_true hs]
    obtain ⟨F', a1, a2, a3⟩ := m_full hS hF
    refine ⟨S, F', ?_, fr.rf, a2, fun q' D' h' => absurd (fin_ok h').1 (by simp [s0, sNum, sEnd, sDr]), fun e h' => ?_⟩
    · unfold f_X9_readDoor
      exact bs (R_14 (hRT F)) (bs (l2 F) (bp (by rw [show drs D.2.1 = 12 by omega]; rfl) (bs (u1_c hS) (bs a1 rfl))))
    · have := fin_er h'
      simp [s0, sNum, sEnd, sDr] at this
      subst this; exact a3
  · rw [decide_eq_false hs]
    have hr0 : s0 q false = .ok (q + 1) := rfl
    have g0 : gS tn (.ok (q + 1)) := by rw [← hr0]; exact gS_0 hq
    rw [hr0]
    obtain ⟨st1, st2⟩ := m_step hS hF
    obtain ⟨v, F2, n1, n2, nk, n3, n4⟩ := m_numS (lim := rms D.2.1) h g0 (stM_ok st2) (by omega)
    have g1 : gS tn (sNum tx tn (.ok (q + 1)) (rms D.2.1)) := gS_n g0
    have er1 : ∀ e, sNum tx tn (.ok (q + 1)) (rms D.2.1) = .error e → skp tx tn e.2 = e.2 := by
      intro e he
      unfold sNum at he
      dsimp only at he
      cases y : aNum tx tn (q + 1) (rms D.2.1) with
      | error z =>
        rw [y] at he
        injection he with he
        subst he
        exact (aNum_er y (by omega)).2.2.2
      | ok x => rw [y] at he; exact absurd he (by simp)
    have n8 : ¬ nI (drs D.2.1) = (12 : Int32) := fun w => by have := (nI_eq (b := 12) (by omega) (by omega)).mp w; omega
    -- the blanks ahead of the second number
    have hmid : ∃ z r1, z ≤ tn ∧ F2 10 = nI tn ∧ F2 11 = nI z ∧ stM (upd F2 11 (nI (skp tx tn z))) tn r1 ∧ gS tn r1 ∧ sNum tx tn r1 (rms D.2.1) = sNum tx tn (sNum tx tn (.ok (q + 1)) (rms D.2.1)) (rms D.2.1) ∧ nv tx tn r1 (rms D.2.1) = nv tx tn (sNum tx tn (.ok (q + 1)) (rms D.2.1)) (rms D.2.1) ∧ (∀ q1, sNum tx tn (.ok (q + 1)) (rms D.2.1) = .ok q1 → skp tx tn z = bpS tx tn (sNum tx tn (.ok (q + 1)) (rms D.2.1))) := by
      cases e : sNum tx tn (.ok (q + 1)) (rms D.2.1) with
      | error e' =>
        have he := n3.2 e' e
        have hg := g1.2 e' e
        refine ⟨e'.2, .error e', hg.2.2, he.1, he.2.2, ⟨fun q' h' => absurd h' (by simp), fun e'' h' => ?_⟩, ⟨fun q' h' => absurd h' (by simp), fun e'' h' => by injection h' with h'; subst h'; exact hg⟩, rfl, rfl, fun q1 h' => absurd h' (by simp)⟩
        injection h' with h'
        subst h'
        rw [er1 e' e]
        exact ⟨by rw [upd_n (by decide)]; exact he.1, by rw [upd_n (by decide)]; exact he.2.1, upd_s⟩
      | ok q1 =>
        have ho := n3.1 q1 e
        have hg := g1.1 q1 e
        have hsl := skp_le (tx := tx) hg
        refine ⟨q1, .ok (skp tx tn q1), hg, ho.1, ho.2.2, stM_ok ⟨by rw [upd_n (by decide)]; exact ho.1, by rw [upd_n (by decide)]; exact ho.2.1, upd_s⟩, ⟨fun q' h' => by injection h' with h'; omega, fun e'' h' => absurd h' (by simp)⟩, ?_, ?_, fun _ _ => rfl⟩
        · unfold sNum; dsimp only; rw [aNum_skp]
        · unfold nv; dsimp only; rw [aNum_skp]
    obtain ⟨z, r1, z1, z2, z3, z4, z5, z6, z7, z8⟩ := hmid
    have hh := m_here hR h.2.1 h240 h.2.2.2 z1 z2 z3
    obtain ⟨c, F3, k1, k2, kk, k3, k4⟩ := m_numS (lim := rms D.2.1) h z5 z4 (by omega)
    rw [z6] at k3 k4
    rw [z7] at k4
    have g2 : gS tn (sNum tx tn (sNum tx tn (.ok (q + 1)) (rms D.2.1)) (rms D.2.1)) := gS_n g1
    have kall : kM F F3 := (kM.up (Or.inl rfl)).tr (nk.tr ((kM.up (Or.inl rfl)).tr kk))
    -- whether it is known
    obtain ⟨EX, hEX⟩ : ∃ EX : Option Mem, EX = ((gI 9 12 (rowI S 216 F3) 216).bind fun v18 => (if v18 = (0 : Int32) then
        (if nI (if (decide (v = c) || hsD D.2.1 v c) then 1 else 0) = (0 : Int32) then f_X9_readDoor_b181 216 (nI v) (nI c) (rowI S 216 F3) else
          (ck 9 (rowI S 216 F3) 216).bind fun c33 => (f_X9_faults 216 (4 : Int32) (rowI S 216 F3)).bind fun S34 => (pI 9 11 S34 216 (nI (skp tx tn z))).bind fun S35 => f_X9_readDoor_b181 216 (nI v) (nI c) S35)
        else f_X9_readDoor_b181 216 (nI v) (nI c) (rowI S 216 F3))) := ⟨_, rfl⟩
    have known : ∀ m k fu, drs D.2.1 = k + m → m < fu → f_X9_readDoor_b78 fu 216 (nI v) (nI (skp tx tn z)) (nI c) (nI (if (decide (v = c) || !alb (fun d => !isD D.2.1 v c d) k) then 1 else 0)) (nI k) (rowI S 216 F3) = EX := by
      intro m
      induction m with
      | zero =>
        intro k fu hk hf
        obtain ⟨fu, rfl⟩ : ∃ z, fu = z + 1 := ⟨fu - 1, by omega⟩
        rw [f_X9_readDoor_b78, show k = drs D.2.1 by omega]
        rw [hEX]
        exact bs (R_14 (hRT F3)) (bs (l2 F3) (bp (nI_le (by omega) (by omega)) rfl))
      | succ m ih =>
        intro k fu hk hf
        obtain ⟨fu, rfl⟩ : ∃ z, fu = z + 1 := ⟨fu - 1, by omega⟩
        have ih := ih (k + 1) fu (by omega) (by omega)
        obtain ⟨f1, f2, f3⟩ := hD.1.2.2.2.1 k (by omega)
        obtain ⟨d1, d2⟩ := hC.2.2.2.2.2.1 k (by omega)
        have m1 : ldI (rowI S 216 F3) 222 ((20 : Int32) + (2 : Int32) * nI k) = some (nI (dfr D.2.1 k)) := by rw [zi 20, i_4, rd_l hS (by omega), d1]
        have m2 : ldI (rowI S 216 F3) 222 ((21 : Int32) + (2 : Int32) * nI k) = some (nI (dto D.2.1 k)) := by rw [zi 21, i_4, rd_l hS (by omega), d2]
        have eqs : ∀ x y, x < 8 → y < 2 ^ 23 → (nI x = nI y ↔ x = y) := fun x y hx hy => nI_eq (by omega) (by omega)
        have b151 : ∀ b : Bool, b = (decide (v = c) || !alb (fun d => !isD D.2.1 v c d) (k + 1)) → f_X9_readDoor_b151 (fun a0 x1 x2 x3 x4 x5 S => f_X9_readDoor_b78 fu a0 x1 x2 x3 x4 x5 S) 216 (nI v) (nI (skp tx tn z)) (nI c) (nI k) (nI (if b then 1 else 0)) (rowI S 216 F3) = EX := by
          intro b hb
          unfold f_X9_readDoor_b151
          rw [Option.bind_some, nI_1, hb]; exact ih
        rw [f_X9_readDoor_b78]
        refine bs (R_14 (hRT F3)) (bs (l2 F3) (bn (nI_ge (by omega) (by omega)) (bs (R_14 (hRT F3)) (bs m1 (bs (R_14 (hRT F3)) (bs m2 ?_))))))
        have hs1 : alb (fun d => !isD D.2.1 v c d) (k + 1) = (alb (fun d => !isD D.2.1 v c d) k && !isD D.2.1 v c k) := rfl
        cases e : (decide (v = c) || !alb (fun d => !isD D.2.1 v c d) k) with
        | true =>
          refine bn nI10 ?_
          unfold f_X9_readDoor_b146
          refine b151 true ?_
          rw [hs1]
          cases e1 : decide (v = c) <;> cases e2 : alb (fun d => !isD D.2.1 v c d) k <;> rw [e1, e2] at e <;> simp at e ⊢
        | false =>
          refine bp nI00 ?_
          simp only [Bool.or_eq_false_iff, Bool.not_eq_false'] at e
          have hk1 : (decide (v = c) || !alb (fun d => !isD D.2.1 v c d) (k + 1)) = isD D.2.1 v c k := by
            rw [hs1, e.1, e.2]; simp
          have y1 : isD D.2.1 v c k = true → f_X9_readDoor_b146 (fun a0 x1 x2 x3 x4 x5 S => f_X9_readDoor_b78 fu a0 x1 x2 x3 x4 x5 S) 216 (nI v) (nI (skp tx tn z)) (nI c) (nI k) (rowI S 216 F3) = EX := fun w => b151 true (by rw [hk1, w])
          have y0 : isD D.2.1 v c k = false → f_X9_readDoor_b150 (fun a0 x1 x2 x3 x4 x5 S => f_X9_readDoor_b78 fu a0 x1 x2 x3 x4 x5 S) 216 (nI v) (nI (skp tx tn z)) (nI c) (nI k) (rowI S 216 F3) = EX := fun w => b151 false (by rw [hk1, w])
          have y134 : ¬ (dfr D.2.1 k = v ∧ dto D.2.1 k = c) → f_X9_readDoor_b134 (fun a0 x1 x2 x3 x4 x5 S => f_X9_readDoor_b78 fu a0 x1 x2 x3 x4 x5 S) 216 (nI v) (nI (skp tx tn z)) (nI c) (nI k) (nI (dfr D.2.1 k)) (nI (dto D.2.1 k)) (rowI S 216 F3) = EX := fun w => by
            unfold f_X9_readDoor_b134
            by_cases u1 : dfr D.2.1 k = c
            · refine bp ((eqs _ _ (by omega) k1).mpr u1) ?_
              by_cases u2 : dto D.2.1 k = v
              · exact bp ((eqs _ _ (by omega) n1).mpr u2) (y1 (by unfold isD; simp [u1, u2]))
              · exact bn (fun u => u2 ((eqs _ _ (by omega) n1).mp u)) (y0 (by unfold isD; simp [u2]; exact fun x1 x2 => w ⟨x1, x2⟩))
            · exact bn (fun u => u1 ((eqs _ _ (by omega) k1).mp u)) (y0 (by unfold isD; simp [u1]; exact fun x1 x2 => w ⟨x1, x2⟩))
          by_cases u1 : dfr D.2.1 k = v
          · refine bp ((eqs _ _ (by omega) n1).mpr u1) ?_
            by_cases u2 : dto D.2.1 k = c
            · exact bp ((eqs _ _ (by omega) k1).mpr u2) (y1 (by unfold isD; simp [u1, u2]))
            · exact bn (fun u => u2 ((eqs _ _ (by omega) k1).mp u)) (y134 (fun x => u2 x.2))
          · exact bn (fun u => u1 ((eqs _ _ (by omega) n1).mp u)) (y134 (fun x => u1 x.1))
    have kn := known (drs D.2.1) 0 FU (by omega) (by unfold FU; omega)
    rw [hEX] at kn
    have pre : ∀ r, ((gI 9 12 (rowI S 216 F3) 216).bind fun v18 => (if v18 = (0 : Int32) then
        (if nI (if (decide (v = c) || hsD D.2.1 v c) then 1 else 0) = (0 : Int32) then f_X9_readDoor_b181 216 (nI v) (nI c) (rowI S 216 F3) else
          (ck 9 (rowI S 216 F3) 216).bind fun c33 => (f_X9_faults 216 (4 : Int32) (rowI S 216 F3)).bind fun S34 => (pI 9 11 S34 216 (nI (skp tx tn z))).bind fun S35 => f_X9_readDoor_b181 216 (nI v) (nI c) S35)
        else f_X9_readDoor_b181 216 (nI v) (nI c) (rowI S 216 F3))) = r → f_X9_readDoor 216 (rowI S 216 F) = r := by
      intro r hr
      unfold f_X9_readDoor f_X9_readDoor_b73
      refine bs (R_14 (hRT F)) (bs (l2 F) (bn n8 (bs (u1_g hS 11) (bs st1 (bs (R_14 (hRT _)) (bs (l1 _) (bs (u1_c hS) (bs n2 (bs (u1_c hS) (bs hh (bs (u1_g hS 11) (bs (R_14 (hRT _)) (bs (l1 _) (bs (u1_c hS) (bs k2 ?_)))))))))))))))
      rw [upd_s]
      by_cases y : v = c
      · rw [decide_eq_true y] at kn hr
        exact bp (by rw [y]) (kn.trans hr)
      · rw [decide_eq_false y] at kn hr
        exact bn (fun u => y ((nI_eq (by omega) (by omega)).mp u)) (kn.trans hr)
    have b181 : ∀ Fx rx, stM Fx tn rx → gS tn rx → ∃ S' F', f_X9_readDoor_b181 216 (nI v) (nI c) (rowI S 216 Fx) = some (rowI S' 216 F') ∧ fr X222 S S' ∧ kM Fx F' ∧ (∀ q', sEnd tx tn rx = .ok q' → oM F' tn q' ∧ MRd S' (dDoor D v c)) ∧ (∀ e, sEnd tx tn rx = .error e → eM F' tn e) := by
      intro Fx rx hx hgx
      obtain ⟨F4, e1, ek, e2⟩ := m_endS h hgx hx
      unfold f_X9_readDoor_b181
      cases er : sEnd tx tn rx with
      | error e =>
        have he := e2.2 e er
        have hg := (gS_e hgx).2 e er
        exact ⟨S, F4, bs (u1_c hS) (bs e1 (bs (u1_g hS 12) (bn (by rw [he.2.1]; exact nI_ne0 (by omega) (by omega)) rfl))), fr.rf, ek, fun q' h' => absurd h' (by simp), fun e' h' => by injection h' with h'; subst h'; exact he⟩
      | ok q3 =>
        have ho := e2.1 q3 er
        obtain ⟨G, hG⟩ : ∃ G, G = upd (upd (upd (S.2.1 222) (20 + 2 * drs D.2.1) (nI v)) (21 + 2 * drs D.2.1) (nI c)) 2 (nI (drs D.2.1 + 1)) := ⟨_, rfl⟩
        have s1 : stI (rowI S 216 F4) 222 ((20 : Int32) + (2 : Int32) * nI (drs D.2.1)) (nI v) = some (rowI (rowI S 222 (upd (S.2.1 222) (20 + 2 * drs D.2.1) (nI v))) 216 F4) := by
          rw [zi 20, i_4]; exact rd_s hS (by omega) _
        have s2 : stI (rowI (rowI S 222 (upd (S.2.1 222) (20 + 2 * drs D.2.1) (nI v))) 216 F4) 222 ((21 : Int32) + (2 : Int32) * nI (drs D.2.1)) (nI c) = some (rowI (rowI S 222 (upd (upd (S.2.1 222) (20 + 2 * drs D.2.1) (nI v)) (21 + 2 * drs D.2.1) (nI c))) 216 F4) := by
          rw [zi 21, i_4, rd_s (by exact hS) (by omega), row_s, rII]
        have s3 : stI (rowI (rowI S 222 (upd (upd (S.2.1 222) (20 + 2 * drs D.2.1) (nI v)) (21 + 2 * drs D.2.1) (nI c))) 216 F4) 222 (2 : Int32) (nI (drs D.2.1) + (1 : Int32)) = some (rowI (rowI S 222 G) 216 F4) := by
          rw [nI_1, zi 2, rd_s (by exact hS) (by decide), row_s, rII, hG]
        have m1 : ldI (rowI (rowI S 222 (upd (S.2.1 222) (20 + 2 * drs D.2.1) (nI v))) 216 F4) 222 (2 : Int32) = some (nI (drs D.2.1)) := by
          rw [zi 2, rd_l (by exact hS) (by decide), row_s, upd_n (by omega), hC.2.2.1]
        have m2 : ldI (rowI (rowI S 222 (upd (upd (S.2.1 222) (20 + 2 * drs D.2.1) (nI v)) (21 + 2 * drs D.2.1) (nI c))) 216 F4) 222 (2 : Int32) = some (nI (drs D.2.1)) := by
          rw [zi 2, rd_l (by exact hS) (by decide), row_s, upd_n (by omega), upd_n (by omega), hC.2.2.1]
        refine ⟨rowI S 222 G, F4, bs (u1_c hS) (bs e1 (bs (u1_g hS 12) (bp (by rw [ho.2.1]; rfl) (bs (R_14 (hRT F4)) (bs (R_14 (hRT F4)) (bs (l2 F4) (bs s1 (bs (R_14 (rfC_e hR rfl rfl)) (bs (R_14 (rfC_e hR rfl rfl)) (bs m1 (bs s2 (bs (R_14 (rfC_e hR rfl rfl)) (bs m2 (bs s3 rfl)))))))))))))), fr_r, ek, fun q' h' => ?_, fun e' h' => absurd h' (by simp)⟩
        injection h' with h'
        subst h'
        refine ⟨ho, ?_⟩
        obtain ⟨c0, c1, c2, c3, c4, c5, c6⟩ := hC
        unfold MRd
        rw [row_s, hG]
        have e1 : rms (dDoor D v c).2.1 = rms D.2.1 := rfl
        have e2 : drs (dDoor D v c).2.1 = drs D.2.1 + 1 := rfl
        have e3 : pts (dDoor D v c).2.1 = pts D.2.1 := rfl
        rw [e1, e2, e3]
        refine ⟨?_, ?_, ?_, ?_, fun a ha => ?_, fun a ha => ?_, fun a ha => ?_⟩
        · rw [upd_n (by omega), upd_n (by omega), upd_n (by omega)]; exact c0
        · rw [upd_n (by omega), upd_n (by omega), upd_n (by omega)]; exact c1
        · rw [upd_s]
        · rw [upd_n (by omega), upd_n (by omega), upd_n (by omega)]; exact c3
        · rw [upd_n (by omega), upd_n (by omega), upd_n (by omega), upd_n (by omega), upd_n (by omega), upd_n (by omega)]; exact c4 a ha
        · show _ = nI (va_up (dfr D.2.1) (drs D.2.1) v a) ∧ _ = nI (va_up (dto D.2.1) (drs D.2.1) c a)
          rw [up_at, up_at]
          by_cases z : a = drs D.2.1
          · subst z
            rw [upd_n (by omega), upd_n (by omega), upd_s, upd_n (by omega), upd_s, if_pos rfl, if_pos rfl]
            exact ⟨rfl, rfl⟩
          · rw [upd_n (by omega), upd_n (by omega), upd_n (by omega), upd_n (by omega), upd_n (by omega), upd_n (by omega), if_neg z, if_neg z]
            exact c5 a (by omega)
        · rw [upd_n (by omega), upd_n (by omega), upd_n (by omega), upd_n (by omega), upd_n (by omega), upd_n (by omega)]; exact c6 a ha
    cases e2 : sNum tx tn (sNum tx tn (.ok (q + 1)) (rms D.2.1)) (rms D.2.1) with
    | error e =>
      have he := k3.2 e e2
      have hg := g2.2 e e2
      obtain ⟨S', F', a1, a2, a3, a4, a5⟩ := b181 F3 (.error e) ⟨fun q' h' => absurd h' (by simp), fun e' h' => by injection h' with h'; subst h'; exact he⟩ ⟨fun q' h' => absurd h' (by simp), fun e' h' => by injection h' with h'; subst h'; exact hg⟩
      exact ⟨S', F', pre _ (bs (u1_g hS 12) (bn (by rw [he.2.1]; exact nI_ne0 (by omega) (by omega)) a1)), a2, kall.tr a3, fun q' D' h' => absurd (fin_ok h').1 (by simp [sDr, sEnd]), fun e' h' => a5 e' (fin_er h')⟩
    | ok q2 =>
      have ho := k3.1 _ e2
      obtain ⟨q1', x1, -, y1, -⟩ := sNum_ok e2 g1
      have hv := n4 _ x1
      have hc := k4 _ e2
      have hz := z8 _ x1
      rw [← hv, ← hc, ← hz]
      by_cases w : v = c ∨ hsD D.2.1 v c = true
      · have hb : (decide (v = c) || hsD D.2.1 v c) = true := by
          rcases w with w | w
          · rw [decide_eq_true w]; rfl
          · rw [w]; simp
        have hsd : sDr D.2.1 v c (skp tx tn z) (.ok q2) = .error (4, skp tx tn z) := by unfold sDr; dsimp only; rw [if_pos w]
        rw [hsd]
        have hef : eM (upd (upd F3 12 4) 11 (nI (skp tx tn z))) tn (4, skp tx tn z) := ⟨by rw [upd_n (by decide), upd_n (by decide)]; exact ho.1, by rw [upd_n (by decide), upd_s]; rfl, upd_s⟩
        have hzt := skp_le (tx := tx) z1
        obtain ⟨S', F', a1, a2, a3, a4, a5⟩ := b181 (upd (upd F3 12 4) 11 (nI (skp tx tn z))) (.error (4, skp tx tn z)) ⟨fun q' h' => absurd h' (by simp), fun e' h' => by injection h' with h'; subst h'; exact hef⟩ ⟨fun q' h' => absurd h' (by simp), fun e' h' => by injection h' with h'; subst h'; exact ⟨by simp, by simp, hzt⟩⟩
        refine ⟨S', F', pre _ (bs (u1_g hS 12) (bp (by rw [ho.2.1]; rfl) ?_)), a2, kall.tr ((kM.up (Or.inr rfl)).tr ((kM.up (Or.inl rfl)).tr a3)), fun q' D' h' => absurd (fin_ok h').1 (by simp [sEnd]), fun e' h' => a5 e' (fin_er h')⟩
        rw [hb]
        exact bn nI10 (bs (u1_c hS) (bs (m_fault0 hS ho.2.1 _) (bs (u1_p hS 11 _) a1)))
      · have hb : (decide (v = c) || hsD D.2.1 v c) = false := by
          cases y : hsD D.2.1 v c with
          | true => exact absurd (Or.inr y) w
          | false => rw [decide_eq_false (fun u => w (Or.inl u))]; rfl
        have hsd : sDr D.2.1 v c (skp tx tn z) (.ok q2) = .ok q2 := by unfold sDr; dsimp only; rw [if_neg w]
        rw [hsd]
        obtain ⟨S', F', a1, a2, a3, a4, a5⟩ := b181 F3 (.ok q2) (stM_ok ho) ⟨fun q' h' => by injection h' with h'; subst h'; exact g2.1 _ e2, fun e' h' => absurd h' (by simp)⟩
        refine ⟨S', F', pre _ (bs (u1_g hS 12) (bp (by rw [ho.2.1]; rfl) ?_)), a2, kall.tr a3, fun q' D' h' => ?_, fun e' h' => a5 e' (fin_er h')⟩
        · rw [hb]; exact bp nI00 a1
        · obtain ⟨b1, b2⟩ := fin_ok h'
          obtain ⟨b3, b4⟩ := a4 q' b1
          subst b2
          exact ⟨b3, b4⟩
