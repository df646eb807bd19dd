/-! clauses of the class: doors, and all together -/
theorem c_addDoor {S : Mem} {p d a b : Nat} {F : Nat → Int32} {D : Dft} (hR : rfC S p) (hd : d = 2 ∨ d = 8) (hC : CRd S d D) (hr : drs D.2.1 < 12) :
    ∃ S', f_X2_addDoor d (nI a) (nI b) (rowI S 1 F) = some (rowI S' 1 F) ∧ fr (XD d) S S' ∧ CRd S' d (dDoor D a b) := by
  have hS := hR.1
  obtain ⟨c0, c1, c2, c3, c4, c5, c6, c7, c8, c9, c10⟩ := hC
  have hRT : ∀ T : Mem, T.1 = S.1 → T.2.2.2 = S.2.2.2 → rfC (rowI T 1 F) p := fun T e1 e2 => rfC_e hR e1 e2
  refine ⟨rowI (rowI (rowI S (d + 1) (upd (S.2.1 (d + 1)) (drs D.2.1) (nI a))) (d + 2) (upd (S.2.1 (d + 2)) (drs D.2.1) (nI b))) d (upd (S.2.1 d) 3 (nI (drs D.2.1 + 1))), ?_, fr.tr (fr.rowI (xd_t (by omega) (by omega))) (fr.tr (fr.rowI (xd_t (by omega) (by omega))) fr_d), ?_⟩
  · have s3 : stI (rowI S 1 F) (d + 1) (S.2.1 d 3) (nI a) = some (rowI (rowI S (d + 1) (upd (S.2.1 (d + 1)) (drs D.2.1) (nI a))) 1 F) := by
      rw [c3]; exact dl_st hS hd (Or.inl ⟨Or.inl rfl, rfl⟩) hr _
    have s4 : stI (rowI (rowI S (d + 1) (upd (S.2.1 (d + 1)) (drs D.2.1) (nI a))) 1 F) (d + 2) ((rowI S (d + 1) (upd (S.2.1 (d + 1)) (drs D.2.1) (nI a))).2.1 d 3) (nI b) = some (rowI (rowI (rowI S (d + 1) (upd (S.2.1 (d + 1)) (drs D.2.1) (nI a))) (d + 2) (upd (S.2.1 (d + 2)) (drs D.2.1) (nI b))) 1 F) := by
      rw [row_n (by omega), c3, dl_st (by exact hS) hd (Or.inl ⟨Or.inr rfl, rfl⟩) hr _, row_n (by omega)]
    unfold f_X2_addDoor
    refine bs (r_p_7 (hRT S rfl rfl) hd) (bs (dg_g hS hd 3) (bs s3 (bs (r_p_8 (hRT _ rfl rfl) hd) (bs (dg_g (by exact hS) hd 3) (bs s4 (bs (dg_g (by exact hS) hd 3) (bs (dg_p (by exact hS) hd 3 _) ?_)))))))
    rw [row_n (by omega), row_n (by omega), c3, nI_1]
  · unfold CRd
    rw [row_s, row_n (by omega), row_n (by omega), row_s, row_n (by omega), row_s, row_n (by omega), row_n (by omega), row_n (by omega), row_n (by omega), row_n (by omega), row_n (by omega)]
    refine ⟨?_, ?_, ?_, ?_, ?_, ?_, ?_, fun i hi => ?_, fun i hi => ?_, c9, c10⟩
    · rw [upd_n (by decide)]; exact c0
    · rw [upd_n (by decide)]; exact c1
    · rw [upd_n (by decide)]; exact c2
    · rw [upd_s]; rfl
    · rw [upd_n (by decide)]; exact c4
    · rw [upd_n (by decide)]; exact c5
    · rw [upd_n (by decide)]; exact c6
    · have hi' : i < drs D.2.1 + 1 := hi
      show _ = nI (va_up (dfr D.2.1) (drs D.2.1) a i)
      rw [up_at]
      by_cases z : i = drs D.2.1
      · rw [if_pos z, z, upd_s]
      · rw [if_neg z, upd_n z]; exact c7 i (by omega)
    · have hi' : i < drs D.2.1 + 1 := hi
      show _ = nI (va_up (dto D.2.1) (drs D.2.1) b i)
      rw [up_at]
      by_cases z : i = drs D.2.1
      · rw [if_pos z, z, upd_s]
      · rw [if_neg z, upd_n z]; exact c8 i (by omega)
theorem c_hasDoor {S : Mem} {p d a b : Nat} {F : Nat → Int32} {D : Dft} (hR : rfC S p) (hd : d = 2 ∨ d = 8) (hC : CRd S d D) (hD : wfP D.2.1) (ha : a < 8) (hb : b < 8) : f_X2_hasDoor d (nI a) (nI b) (rowI S 1 F) = some (nI (if hsD D.2.1 a b then 1 else 0)) := by
  have hS := hR.1
  obtain ⟨c0, c1, c2, c3, c4, c5, c6, c7, c8, c9, c10⟩ := hC
  have hd12 := hD.2.1
  have hr8 := hD.1
  have hRT : rfC (rowI S 1 F) p := rfC_e hR rfl rfl
  have g3 : gI 2 3 (rowI S 1 F) d = some (nI (drs D.2.1)) := (dg_g hS hd 3).trans (congrArg some c3)
  have key : ∀ m k fu, drs D.2.1 = k + m → m < fu → alb (fun e => !isD D.2.1 a b e) k = true → f_X2_hasDoor_b2 (rowI S 1 F) fu d (nI a) (nI b) (nI k) = some (nI (if hsD D.2.1 a b then 1 else 0)) := by
    intro m
    induction m with
    | zero =>
      intro k fu hk hf hal
      obtain ⟨fu, rfl⟩ : ∃ z, fu = z + 1 := ⟨fu - 1, by omega⟩
      rw [f_X2_hasDoor_b2]
      refine bs g3 (bp (nI_le (by omega) (by omega)) ?_)
      have : hsD D.2.1 a b = false := by unfold hsD; rw [show drs D.2.1 = k by omega, hal]; rfl
      rw [this]; rfl
    | succ m ih =>
      intro k fu hk hf hal
      obtain ⟨fu, rfl⟩ : ∃ z, fu = z + 1 := ⟨fu - 1, by omega⟩
      obtain ⟨f1, f2, f3⟩ := hD.2.2.2.1 k (by omega)
      have l1 : ldI (rowI S 1 F) (d + 1) (nI k) = some (nI (dfr D.2.1 k)) := by rw [ld_p1 (by exact hS) hd (by omega), row_n (by omega), c7 k (by omega)]
      have l2 : ldI (rowI S 1 F) (d + 2) (nI k) = some (nI (dto D.2.1 k)) := by rw [ld_p2 (by exact hS) hd (by omega), row_n (by omega), c8 k (by omega)]
      have eqs : ∀ x y, x < 8 → y < 8 → (nI x = nI y ↔ x = y) := fun x y hx hy => nI_eq (by omega) (by omega)
      have yes : isD D.2.1 a b k = true → hsD D.2.1 a b = true := fun h => by
        unfold hsD
        rw [alb_f1 (g := fun e => !isD D.2.1 a b e) (k := k) (by rw [h]; rfl) (by omega)]; rfl
      have no : isD D.2.1 a b k = false → f_X2_hasDoor_b52 (rowI S 1 F) (fun a0 x1 x2 x3 => f_X2_hasDoor_b2 (rowI S 1 F) fu a0 x1 x2 x3) d (nI a) (nI b) (nI k) = some (nI (if hsD D.2.1 a b then 1 else 0)) := fun h => by
        unfold f_X2_hasDoor_b52
        rw [Option.bind_some, nI_1]
        exact ih (k + 1) fu (by omega) (by omega) (by rw [alb, hal, h]; rfl)
      have b30 : ¬ (dfr D.2.1 k = a ∧ dto D.2.1 k = b) → f_X2_hasDoor_b30 (rowI S 1 F) (fun a0 x1 x2 x3 => f_X2_hasDoor_b2 (rowI S 1 F) fu a0 x1 x2 x3) d (nI a) (nI b) (nI k) = some (nI (if hsD D.2.1 a b then 1 else 0)) := fun h => by
        unfold f_X2_hasDoor_b30
        refine bs (r_p_7 hRT hd) (bs l1 ?_)
        by_cases z : dfr D.2.1 k = b
        · refine bp ((eqs _ _ (by omega) hb).mpr z) (bs (r_p_8 hRT hd) (bs l2 ?_))
          by_cases y : dto D.2.1 k = a
          · refine bp ((eqs _ _ (by omega) ha).mpr y) ?_
            rw [yes (by unfold isD; simp [z, y])]; rfl
          · refine bn (fun w => y ((eqs _ _ (by omega) ha).mp w)) (no ?_)
            unfold isD; simp [y]; exact fun w1 w2 => h ⟨w1, w2⟩
        · refine bn (fun w => z ((eqs _ _ (by omega) hb).mp w)) (no ?_)
          unfold isD; simp [z]; exact fun w1 w2 => h ⟨w1, w2⟩
      rw [f_X2_hasDoor_b2]
      refine bs g3 (bn (nI_ge (by omega) (by omega)) (bs (r_p_7 hRT hd) (bs l1 ?_)))
      by_cases z : dfr D.2.1 k = a
      · refine bp ((eqs _ _ (by omega) ha).mpr z) (bs (r_p_8 hRT hd) (bs l2 ?_))
        by_cases y : dto D.2.1 k = b
        · refine bp ((eqs _ _ (by omega) hb).mpr y) ?_
          rw [yes (by unfold isD; simp [z, y])]; rfl
        · exact bn (fun w => y ((eqs _ _ (by omega) hb).mp w)) (b30 (fun w => y w.2))
      · exact bn (fun w => z ((eqs _ _ (by omega) ha).mp w)) (b30 (fun w => z w.1))
  unfold f_X2_hasDoor
  exact key (drs D.2.1) 0 FU (by omega) (by unfold FU; omega) rfl
theorem bpS_le {tx : Nat → Nat} {tn : Nat} {r : Except (Nat × Nat) Nat} (h : gS tn r) : bpS tx tn r ≤ tn := by
  unfold bpS
  cases e : r with
  | error z => exact Nat.zero_le _
  | ok q => exact skp_le (h.1 q e)
theorem c_door {S : Mem} {p tn q : Nat} {tx : Nat → Nat} {F : Nat → Int32} {D : Dft} (h : RdC S p tx tn) (hq : q < tn) (hF : oF F tn q) (hC : CRd S (10 - p) D) (hD : wfD D) :
    ∃ S' F', f_X6_readDoor 1 (rowI S 1 F) = some (rowI S' 1 F') ∧ fr (XD (10 - p)) S S' ∧ (∀ q' D', aDoor tx tn q D = .ok (q', D') → oF F' tn q' ∧ F' 2 = F 2 ∧ CRd S' (10 - p) D') ∧ (∀ e, aDoor tx tn q D = .error e → eF F' tn e) := by
  have hR := h.1
  have hS := hR.1
  have hr8 := hD.1.1
  have hd12 := hD.1.2.1
  have h240 := h.2.2.1
  have hd : 10 - p = 2 ∨ 10 - p = 8 := by have := hR.2.1; omega
  have hRT : ∀ F, rfC (rowI S 1 F) p := fun F => rfC_e hR rfl rfl
  obtain ⟨F1, w1, w2, w3⟩ := c_wordS hS (by omega) hF (decide (12 ≤ drs D.2.1))
  have g0 : gS tn (s0 q (decide (12 ≤ drs D.2.1))) := gS_0 hq
  have hfull : ∀ q', s0 q (decide (12 ≤ drs D.2.1)) = .ok q' → drs D.2.1 < 12 ∧ F1 2 = F 2 := fun q' hq' => by
    obtain ⟨x0, -⟩ := s0_ok hq'
    exact ⟨by have := of_decide_eq_false x0; omega, w3 x0⟩
  obtain ⟨v, F2, n1, n2, n3, n4⟩ := c_numS (lim := rms D.2.1) h g0 w2 (by omega)
  obtain ⟨c, F3, k1, k2, k3, k4⟩ := c_numS (lim := rms D.2.1) h (gS_n g0) n3 (by omega)
  have n2' : f_X6_readNumber 1 (S.2.1 (10 - p) 2 - (1 : Int32)) (rowI S 1 F1) = some (nI v, rowI S 1 F2) := by rw [hC.2.2.1]; exact n2
  have k2' : f_X6_readNumber 1 (S.2.1 (10 - p) 2 - (1 : Int32)) (rowI S 1 F2) = some (nI c, rowI S 1 F3) := by rw [hC.2.2.1]; exact k2
  have pre : ∀ r, ((gI 6 1 (rowI S 1 F3) 1).bind fun v13 => if v13 = (0 : Int32) then (if nI v = nI c then f_X6_readDoor_b73 1 (nI v) (nI c) (rowI S 1 F3) else
      (gR 6 3 (rowI S 1 F3) 1).bind fun r23 => (ck 2 (rowI S 1 F3) r23).bind fun c24 => (f_X2_hasDoor r23 (nI v) (nI c) (rowI S 1 F3)).bind fun v25 => if v25 = (0 : Int32) then f_X6_readDoor_b82 1 (nI v) (nI c) (rowI S 1 F3) else f_X6_readDoor_b73 1 (nI v) (nI c) (rowI S 1 F3)) else f_X6_readDoor_b82 1 (nI v) (nI c) (rowI S 1 F3)) = r → f_X6_readDoor 1 (rowI S 1 F) = r := by
    intro r hr
    have b18 : ∀ b : Bool, b = decide (12 ≤ drs D.2.1) → f_X6_readDoor_b18 1 (nI (if b then 1 else 0)) 1 (rowI S 1 F) = r := by
      intro b hb
      unfold f_X6_readDoor_b18
      exact bs (t1_c hS) (bs (by rw [hb]; exact w1) (bs (r_1_3 (hRT F1)) (bs (dg_g hS hd 2) (bs (t1_c hS) (bs n2' (bs (r_1_3 (hRT F2)) (bs (dg_g hS hd 2) (bs (t1_c hS) (bs k2' hr)))))))))
    unfold f_X6_readDoor
    refine bs (r_1_3 (hRT F)) (bs (dg_g hS hd 3) ?_)
    rw [hC.2.2.2.1]
    by_cases z : drs D.2.1 < 12
    · exact bp (nI_lt (b := 12) z (by omega)) (b18 false (by rw [decide_eq_false]; omega))
    · exact bn (nI_nlt (b := 12) (by omega) (by omega)) (b18 true (by rw [decide_eq_true]; omega))
  have b82 : ∀ Fx rx, stF Fx tn rx → gS tn rx → (∀ q', rx = .ok q' → drs D.2.1 < 12) → ∃ S' F', f_X6_readDoor_b82 1 (nI v) (nI c) (rowI S 1 Fx) = some (rowI S' 1 F') ∧ fr (XD (10 - p)) S S' ∧ (∀ q', sEnd tx tn rx = .ok q' → oF F' tn q' ∧ F' 2 = Fx 2 ∧ CRd S' (10 - p) (dDoor D v c)) ∧ (∀ e, sEnd tx tn rx = .error e → eF F' tn e) := by
    intro Fx rx hx hgx h12
    obtain ⟨F4, e1, e2, e3⟩ := c_endS h hgx hx
    unfold f_X6_readDoor_b82
    cases er : sEnd tx tn rx with
    | error e =>
      have he := e2.2 e er
      have hg := (gS_e hgx).2 e er
      exact ⟨S, F4, bs (t1_c hS) (bs e1 (bs (t1_g hS 1) (bn (by rw [he.2.1]; exact nI_ne0 (by omega) (by omega)) rfl))), fr.rf, fun q' h' => absurd h' (by simp), fun e' h' => by injection h' with h'; subst h'; exact he⟩
    | ok q3 =>
      obtain ⟨q3', x3, -, -⟩ := sEnd_ok er
      have ho := e2.1 q3 er
      obtain ⟨S', y1, y2, y3⟩ := c_addDoor (a := v) (b := c) (F := F4) hR hd hC (h12 _ x3)
      exact ⟨S', F4, bs (t1_c hS) (bs e1 (bs (t1_g hS 1) (bp (by rw [ho.2.1]; rfl) (bs (r_1_3 (hRT F4)) (bs (dg_c hS hd) (bs y1 rfl)))))), y2, fun q' h' => by injection h' with h'; subst h'; exact ⟨ho, e3 _ er, y3⟩, fun e' h' => absurd h' (by simp)⟩
  have hbp := bpS_le (tx := tx) (gS_n (tx := tx) (lim := rms D.2.1) g0)
  have b73 : ∀ z, z < 1000 → F3 5 = nI z → F3 0 = nI tn → F3 6 = nI (bpS tx tn (sNum tx tn (s0 q (decide (12 ≤ drs D.2.1))) (rms D.2.1))) → ∃ F', f_X6_readDoor_b73 1 (nI v) (nI c) (rowI S 1 F3) = some (rowI S 1 F') ∧ eF F' tn (4, bpS tx tn (sNum tx tn (s0 q (decide (12 ≤ drs D.2.1))) (rms D.2.1))) := by
    intro z5 hz5 f5 f0 f6
    have hef : eF (upd (upd F3 1 (nI 4)) 2 (nI (bpS tx tn (sNum tx tn (s0 q (decide (12 ≤ drs D.2.1))) (rms D.2.1))))) tn (4, bpS tx tn (sNum tx tn (s0 q (decide (12 ≤ drs D.2.1))) (rms D.2.1))) := ⟨by rw [upd_n (by decide), upd_n (by decide)]; exact f0, by rw [upd_n (by decide), upd_s], upd_s, z5, hz5, by rw [upd_n (by decide), upd_n (by decide)]; exact f5⟩
    refine ⟨_, ?_, hef⟩
    unfold f_X6_readDoor_b73 f_X6_readDoor_b82
    refine bs (t1_g hS 6) (bs (t1_c hS) (bs (c_note hS _ _) ?_))
    rw [f6]
    exact bs (t1_c hS) (bs (c_end_e hS hef ⟨by simp, by simp⟩) (bs (t1_g hS 1) (bn (by rw [upd_n (by decide), upd_s]; decide) rfl)))
  unfold aDoor
  cases e2 : sNum tx tn (sNum tx tn (s0 q (decide (12 ≤ drs D.2.1))) (rms D.2.1)) (rms D.2.1) with
  | error e =>
    have hst := k3.2 e e2
    have hg := (gS_n (tx := tx) (lim := rms D.2.1) (gS_n (tx := tx) (lim := rms D.2.1) g0)).2 e e2
    obtain ⟨S', F', a1, a2, a3, a4⟩ := b82 F3 (.error e) ⟨fun q' h' => absurd h' (by simp), fun e' h' => by injection h' with h'; subst h'; exact hst⟩ ⟨fun q' h' => absurd h' (by simp), fun e' h' => by injection h' with h'; subst h'; exact hg⟩ (fun q' h' => absurd h' (by simp))
    refine ⟨S', F', pre _ (bs (t1_g hS 1) (bn (by rw [hst.2.1]; exact nI_ne0 (by omega) (by omega)) a1)), a2, fun q' D' h' => ?_, fun e' h' => a4 e' (fin_er h')⟩
    exact absurd (fin_ok h').1 (by simp [sDr, sEnd])
  | ok q2 =>
    obtain ⟨q1', x1, -, l1, -⟩ := sNum_ok e2 (gS_n g0)
    obtain ⟨q0', x0, -, l0, -⟩ := sNum_ok x1 g0
    obtain ⟨hf12, hF12⟩ := hfull _ x0
    obtain ⟨m1, m2, -⟩ := n4 _ x1
    obtain ⟨m3, m4, m5⟩ := k4 _ e2
    have ho := k3.1 _ e2
    rw [← m1, ← m3]
    by_cases z : v = c ∨ hsD D.2.1 v c = true
    · obtain ⟨F', a1, a2⟩ := b73 q2 (by have := (gS_n (tx := tx) (lim := rms D.2.1) (gS_n (tx := tx) (lim := rms D.2.1) g0)).1 _ e2; omega) ho.2.2 ho.1 m5
      have hsd : sDr D.2.1 v c (bpS tx tn (sNum tx tn (s0 q (decide (12 ≤ drs D.2.1))) (rms D.2.1))) (.ok q2) = .error (4, bpS tx tn (sNum tx tn (s0 q (decide (12 ≤ drs D.2.1))) (rms D.2.1))) := by unfold sDr; dsimp only; rw [if_pos z]
      rw [hsd]
      refine ⟨S, F', pre _ (bs (t1_g hS 1) (bp (by rw [ho.2.1]; rfl) ?_)), fr.rf, fun q' D' h' => absurd (fin_ok h').1 (by simp [sEnd]), fun e' h' => ?_⟩
      · by_cases y : v = c
        · exact bp (by rw [y]) a1
        · have hh := z.resolve_left y
          refine bn (fun w => y ((nI_eq (by omega) (by omega)).mp w)) (bs (r_1_3 (hRT F3)) (bs (dg_c hS hd) (bs (c_hasDoor hR hd hC hD.1 (by omega) (by omega)) ?_)))
          rw [hh]; exact bn nI10 a1
      · have := fin_er h'
        simp [sEnd] at this
        subst this; exact a2
    · have hsd : sDr D.2.1 v c (bpS tx tn (sNum tx tn (s0 q (decide (12 ≤ drs D.2.1))) (rms D.2.1))) (.ok q2) = .ok q2 := by unfold sDr; dsimp only; rw [if_neg z]
      rw [hsd]
      obtain ⟨S', F', a1, a2, a3, a4⟩ := b82 F3 (.ok q2) ⟨fun q' h' => by injection h' with h'; subst h'; exact ho, fun e' h' => absurd h' (by simp)⟩ ⟨fun q' h' => by injection h' with h'; subst h'; exact (gS_n (gS_n g0)).1 _ e2, fun e' h' => absurd h' (by simp)⟩ (fun _ _ => hf12)
      refine ⟨S', F', pre _ (bs (t1_g hS 1) (bp (by rw [ho.2.1]; rfl) (bn (fun w => z (Or.inl ((nI_eq (by omega) (by omega)).mp w))) (bs (r_1_3 (hRT F3)) (bs (dg_c hS hd) (bs (c_hasDoor hR hd hC hD.1 (by omega) (by omega)) ?_)))))), a2, fun q' D' h' => ?_, fun e' h' => a4 e' (fin_er h')⟩
      · have : hsD D.2.1 v c = false := by
          cases y : hsD D.2.1 v c with
          | false => rfl
          | true => exact absurd (Or.inr y) z
        rw [this]; exact bp nI00 a1
      · obtain ⟨z1, z2⟩ := fin_ok h'
        obtain ⟨b1, b2, b3⟩ := a3 q' z1
        subst z2
        exact ⟨b1, by rw [b2, m4, m2, hF12], b3⟩
theorem c_cl {S : Mem} {p tn q : Nat} {tx : Nat → Nat} {F : Nat → Int32} {D : Dft} (h : RdC S p tx tn) (hq : q < tn) (hF : oF F tn q) (hC : CRd S (10 - p) D) (hD : wfD D) :
    ∃ S' F', f_X6_readClause 1 (rowI S 1 F) = some (rowI S' 1 F') ∧ fr (XD (10 - p)) S S' ∧ (∀ q' D', aCl tx tn q D = .ok (q', D') → oF F' tn q' ∧ F' 2 = F 2 ∧ CRd S' (10 - p) D') ∧ (∀ e, aCl tx tn q D = .error e → eF F' tn e) := by
  have hR := h.1
  have hS := hR.1
  have hd : 10 - p = 2 ∨ 10 - p = 8 := by have := hR.2.1; omega
  have hRT : ∀ F, rfC (rowI S 1 F) p := fun F => rfC_e hR rfl rfl
  have hx := h.2.2.2 q
  have l : ldI (rowI S 1 F) 7 (F 5) = some (nI (tx q)) := by rw [hF.2.2]; exact t1_l hS h.2.1 h.2.2.1 hq
  have g0 : gI 2 0 (rowI S 1 F) (10 - p) = some (nI (if D.1.isSome then 1 else 0)) := (dg_g hS hd 0).trans (congrArg some hC.1)
  have eqs : ∀ y, y < 256 → (nI (tx q) = nI y ↔ tx q = y) := fun y hy => nI_eq (by omega) (by omega)
  have flt : f_X6_noteFault 1 (1 : Int32) (F 5) (rowI S 1 F) = some (rowI S 1 (upd (upd F 1 (nI 1)) 2 (nI q))) := by rw [hF.2.2]; exact c_note hS _ _
  have hef : eF (upd (upd F 1 (nI 1)) 2 (nI q)) tn (1, q) := ⟨by rw [upd_n (by decide), upd_n (by decide)]; exact hF.1, by rw [upd_n (by decide), upd_s], upd_s, q, by have := h.2.2.1; omega, by rw [upd_n (by decide), upd_n (by decide)]; exact hF.2.2⟩
  have fault : ∀ r, r = Except.error (1, q) → ∃ S' F', ((gI 6 5 (rowI S 1 F) 1).bind fun v14 => (ck 6 (rowI S 1 F) 1).bind fun c15 => (f_X6_noteFault 1 (1 : Int32) v14 (rowI S 1 F)).bind fun S16 => some S16) = some (rowI S' 1 F') ∧ fr (XD (10 - p)) S S' ∧ (∀ q' D', r = Except.ok (q', D') → oF F' tn q' ∧ F' 2 = F 2 ∧ CRd S' (10 - p) D') ∧ (∀ e, r = Except.error e → eF F' tn e) := by
    intro r hr
    subst hr
    exact ⟨S, _, bs (t1_g hS 5) (bs (t1_c hS) (bs flt rfl)), fr.rf, fun q' D' h' => absurd h' (by simp), fun e h' => by injection h' with h'; subst h'; exact hef⟩
  have pre : ∀ r, (if nI (if D.1.isSome then 1 else 0) = (0 : Int32) then (if nI (tx q) = (115 : Int32) then f_X6_readClause_b36 1 (nI (tx q)) (rowI S 1 F) else
      (gI 6 5 (rowI S 1 F) 1).bind fun v17 => (ck 6 (rowI S 1 F) 1).bind fun c18 => (f_X6_noteFault 1 (1 : Int32) v17 (rowI S 1 F)).bind fun S19 => some S19) else f_X6_readClause_b36 1 (nI (tx q)) (rowI S 1 F)) = r → f_X6_readClause 1 (rowI S 1 F) = r := by
    intro r hr
    unfold f_X6_readClause
    exact bs (r_1_4 (hRT F)) (bs (t1_g hS 5) (bs l (bs (r_1_3 (hRT F)) (bs g0 hr))))
  unfold aCl
  by_cases e115 : tx q = 115
  · rw [if_pos e115]
    obtain ⟨S', F', a1, a2, a3⟩ := c_rule h hq hF hC
    refine ⟨S', F', pre _ ?_, a2, a3⟩
    have b36 : f_X6_readClause_b36 1 (nI (tx q)) (rowI S 1 F) = some (rowI S' 1 F') := by
      rw [e115]
      unfold f_X6_readClause_b36
      exact bn (by decide) (bn (by decide) (bn (by decide) (bp rfl (bs (t1_c hS) (bs a1 rfl)))))
    cases D.1.isSome with
    | false => exact bp nI00 (bp (by rw [e115]; rfl) b36)
    | true => exact bn nI10 b36
  · rw [if_neg e115]
    have n115 : ¬ nI (tx q) = (115 : Int32) := fun w => e115 ((eqs 115 (by decide)).mp w)
    cases hs : D.1.isSome with
    | false =>
      rw [if_pos rfl]
      obtain ⟨S', F', a1, a2, a3⟩ := fault _ rfl
      refine ⟨S', F', pre _ ?_, a2, a3⟩
      rw [hs]
      exact bp nI00 (bn n115 a1)
    | true =>
      rw [if_neg (by simp)]
      have pre2 : ∀ r, f_X6_readClause_b36 1 (nI (tx q)) (rowI S 1 F) = r → f_X6_readClause 1 (rowI S 1 F) = r := fun r hr => pre r (by rw [hs]; exact bn nI10 hr)
      by_cases e114 : tx q = 114
      · rw [if_pos e114]
        obtain ⟨S', F', a1, a2, a3⟩ := c_room h hq hF hC hD
        refine ⟨S', F', pre2 _ ?_, a2, a3⟩
        rw [e114]
        unfold f_X6_readClause_b36
        exact bn (by decide) (bn (by decide) (bp rfl (bs (t1_c hS) (bs a1 rfl))))
      · rw [if_neg e114]
        by_cases e100 : tx q = 100
        · rw [if_pos e100]
          obtain ⟨S', F', a1, a2, a3⟩ := c_door h hq hF hC hD
          refine ⟨S', F', pre2 _ ?_, a2, a3⟩
          rw [e100]
          unfold f_X6_readClause_b36
          exact bp rfl (bs (t1_c hS) (bs a1 rfl))
        · rw [if_neg e100]
          by_cases e112 : tx q = 112
          · rw [if_pos e112]
            obtain ⟨S', F', a1, a2, a3⟩ := c_pet h hq hF hC hD
            refine ⟨S', F', pre2 _ ?_, a2, a3⟩
            rw [e112]
            unfold f_X6_readClause_b36
            exact bn (by decide) (bp rfl (bs (t1_c hS) (bs a1 rfl)))
          · rw [if_neg e112]
            obtain ⟨S', F', a1, a2, a3⟩ := fault _ rfl
            refine ⟨S', F', pre2 _ ?_, a2, a3⟩
            unfold f_X6_readClause_b36
            exact bn (fun w => e100 ((eqs 100 (by decide)).mp w)) (bn (fun w => e112 ((eqs 112 (by decide)).mp w)) (bn (fun w => e114 ((eqs 114 (by decide)).mp w)) (bn n115 a1)))
