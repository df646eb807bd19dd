/-! the model reads a text -/
theorem m_cl {S : Mem} {p tn q : Nat} {tx : Nat → Nat} {F : Nat → Int32} {D : Dft} (h : RdM S p tx tn) (hq : q < tn) (hk : skp tx tn q = q) (hF : oM F tn q) (hC : MRd S D) (hD : wfD D) :
    ∃ S' F', f_X9_readClause 216 (rowI S 216 F) = some (rowI S' 216 F') ∧ fr X222 S S' ∧ kM F F' ∧ (∀ q' D', aCl tx tn q D = .ok (q', D') → oM F' tn q' ∧ MRd S' D') ∧ (∀ e, aCl tx tn q D = .error e → eM F' tn e) := by
  have hR := h.1
  have hS := hR.1
  have hRT : ∀ F, rfC (rowI S 216 F) p := fun F => rfC_e hR rfl rfl
  have hx := h.2.2.2 q
  have hh := m_here hR h.2.1 h.2.2.1 h.2.2.2 (Nat.le_of_lt hq) hF.1 hF.2.2
  rw [hk, fa_upd_same hF.2.2] at hh
  have hch : chr tx tn q = nI (tx q) := by unfold chr; rw [if_pos hq]
  rw [hch] at hh
  have l0 : ldI (rowI S 216 F) 222 (0 : Int32) = some (dBi D.1) := (rd_l hS (k := 0) (by decide)).trans (congrArg some hC.1)
  have eqs : ∀ y, y < 256 → (nI (tx q) = nI y ↔ tx q = y) := fun y hy => nI_eq (by omega) (by omega)
  have fault : ∀ r, r = Except.error (1, q) → ∃ S' F', f_X9_readClause_b46 216 (rowI S 216 F) = some (rowI S' 216 F') ∧ fr X222 S S' ∧ kM F F' ∧ (∀ q' D', r = Except.ok (q', D') → oM F' tn q' ∧ MRd S' D') ∧ (∀ e, r = Except.error e → eM F' tn e) := by
    intro r hr
    subst hr
    refine ⟨S, upd F 12 1, ?_, fr.rf, kM.up (Or.inr rfl), fun q' D' h' => absurd h' (by simp), fun e h' => ?_⟩
    · unfold f_X9_readClause_b46
      exact bs (u1_c hS) (bs (m_fault0 hS hF.2.1 _) rfl)
    · injection h' with h'
      subst h'
      exact ⟨by rw [upd_n (by decide)]; exact hF.1, by rw [upd_s]; rfl, by rw [upd_n (by decide)]; exact hF.2.2⟩
  unfold aCl f_X9_readClause
  by_cases e115 : tx q = 115
  · rw [if_pos e115]
    obtain ⟨S', F', a1, a2⟩ := m_rule h hq hF hC hD
    exact ⟨S', F', bs (u1_c hS) (bs hh (bp (by rw [e115]; rfl) (bs (u1_c hS) (bs a1 rfl)))), a2⟩
  · rw [if_neg e115]
    have n115 : ¬ nI (tx q) = (115 : Int32) := fun w => e115 ((eqs 115 (by decide)).mp w)
    cases hs : D.1.isSome with
    | false =>
      rw [if_pos rfl]
      obtain ⟨S', F', a1, a2⟩ := fault _ rfl
      exact ⟨S', F', bs (u1_c hS) (bs hh (bn n115 (bs (R_14 (hRT F)) (bs l0 (bp ((dbi_i hD.2.2.2.2.2.2).mpr hs) a1))))), a2⟩
    | true =>
      rw [if_neg (by simp)]
      have nn : ¬ dBi D.1 = (-1 : Int32) := fun w => by rw [(dbi_i hD.2.2.2.2.2.2).mp w] at hs; exact absurd hs (by simp)
      by_cases e114 : tx q = 114
      · rw [if_pos e114]
        obtain ⟨S', F', a1, a2⟩ := m_room h hq hF hC hD
        refine ⟨S', F', bs (u1_c hS) (bs hh (bn n115 (bs (R_14 (hRT F)) (bs l0 (bn nn (bp (by rw [e114]; rfl) ?_)))))), a2⟩
        unfold f_X9_readClause_b54
        exact bp (by rw [e114]; rfl) (bs (u1_c hS) (bs a1 rfl))
      · rw [if_neg e114]
        have n114 : ¬ nI (tx q) = (114 : Int32) := fun w => e114 ((eqs 114 (by decide)).mp w)
        by_cases e100 : tx q = 100
        · rw [if_pos e100]
          obtain ⟨S', F', a1, a2⟩ := m_door h hq hF hC hD
          refine ⟨S', F', bs (u1_c hS) (bs hh (bn n115 (bs (R_14 (hRT F)) (bs l0 (bn nn (bn n114 (bp (by rw [e100]; rfl) ?_))))))), a2⟩
          unfold f_X9_readClause_b54
          exact bn n114 (bp (by rw [e100]; rfl) (bs (u1_c hS) (bs a1 rfl)))
        · rw [if_neg e100]
          have n100 : ¬ nI (tx q) = (100 : Int32) := fun w => e100 ((eqs 100 (by decide)).mp w)
          by_cases e112 : tx q = 112
          · rw [if_pos e112]
            obtain ⟨S', F', a1, a2⟩ := m_pet h hq hF hC hD
            refine ⟨S', F', bs (u1_c hS) (bs hh (bn n115 (bs (R_14 (hRT F)) (bs l0 (bn nn (bn n114 (bn n100 (bp (by rw [e112]; rfl) ?_)))))))), a2⟩
            unfold f_X9_readClause_b54
            exact bn n114 (bn n100 (bs (u1_c hS) (bs a1 rfl)))
          · rw [if_neg e112]
            obtain ⟨S', F', a1, a2⟩ := fault _ rfl
            exact ⟨S', F', bs (u1_c hS) (bs hh (bn n115 (bs (R_14 (hRT F)) (bs l0 (bn nn (bn n114 (bn n100 (bn (fun w => e112 ((eqs 112 (by decide)).mp w)) a1)))))))), a2⟩
theorem b51_0 {fu : Nat} {M : Mem} : f_X9_palace_b51 (fu + 1) 216 (nI 0) M = f_X9_palace_b51 1 216 (nI 0) M := by
  rw [f_X9_palace_b51, f_X9_palace_b51, if_pos nI00, if_pos nI00]
theorem m_par_b {p tn : Nat} {tx : Nat → Nat} : ∀ m q fu (S : Mem) F D, tn - q ≤ m → m + 1 < fu → q ≤ tn → skp tx tn q = q → RdM S p tx tn → oM F tn q → MRd S D → wfD D →
    ∃ S' F', f_X9_palace_b51 fu 216 (nI (if q < tn then 1 else 0)) (rowI S 216 F) = f_X9_palace_b51 1 216 (nI 0) (rowI S' 216 F') ∧ fr X222 S S' ∧ kM F F' ∧ (∀ D', aPar tx tn m q D = .ok D' → F' 12 = nI 0 ∧ MRd S' D') ∧ (∀ e, aPar tx tn m q D = .error e → eM F' tn e) := by
  have stop : ∀ q fu (S : Mem) F D, tn ≤ q → 0 < fu → oM F tn q → MRd S D → ∃ S' F', f_X9_palace_b51 fu 216 (nI (if q < tn then 1 else 0)) (rowI S 216 F) = f_X9_palace_b51 1 216 (nI 0) (rowI S' 216 F') ∧ fr X222 S S' ∧ kM F F' ∧ (∀ D', (Except.ok D : Except (Nat × Nat) Dft) = .ok D' → F' 12 = nI 0 ∧ MRd S' D') ∧ (∀ e, (Except.ok D : Except (Nat × Nat) Dft) = .error e → eM F' tn e) := by
    intro q fu S F D hq hf hF hC
    obtain ⟨fu, rfl⟩ : ∃ z, fu = z + 1 := ⟨fu - 1, by omega⟩
    refine ⟨S, F, ?_, fr.rf, kM.rf, fun D' h' => by injection h' with h'; subst h'; exact ⟨hF.2.1, hC⟩, fun e h' => absurd h' (by simp)⟩
    rw [if_neg (by omega)]; exact b51_0
  intro m
  induction m with
  | zero =>
    intro q fu S F D hm hf hq hk h hF hC hD
    exact stop q fu S F D (by omega) (by omega) hF hC
  | succ m ih =>
    intro q fu S F D hm hf hq hk h hF hC hD
    rw [aPar]
    by_cases z : q < tn
    · rw [if_pos z, if_pos z]
      obtain ⟨fu, rfl⟩ : ∃ z, fu = z + 1 := ⟨fu - 1, by omega⟩
      obtain ⟨fu, rfl⟩ : ∃ z, fu = z + 1 := ⟨fu - 1, by omega⟩
      have hS := h.1.1
      have h240 := h.2.2.1
      obtain ⟨S1, F1, a1, a2, ak, a3, a4⟩ := m_cl h z hk hF hC hD
      have h1 := RdM_fr h a2
      have hS1 := h1.1.1
      have pre : ∀ r, ((gI 9 12 (rowI S1 216 F1) 216).bind fun v18 => if v18 = (0 : Int32) then (ck 9 (rowI S1 216 F1) 216).bind fun c19 => (f_X9_here 216 (rowI S1 216 F1)).bind fun q20 => (if q20.1 = (-1 : Int32) then f_X9_palace_b78 (fun a0 x1 S => f_X9_palace_b51 (fu + 1) a0 x1 S) 216 q20.2 else f_X9_palace_b79 (fun a0 x1 S => f_X9_palace_b51 (fu + 1) a0 x1 S) 216 (1 : Int32) q20.2) else f_X9_palace_b78 (fun a0 x1 S => f_X9_palace_b51 (fu + 1) a0 x1 S) 216 (rowI S1 216 F1)) = r → f_X9_palace_b51 (fu + 1 + 1) 216 (nI 1) (rowI S 216 F) = r := by
        intro r hr
        rw [f_X9_palace_b51]
        exact bn nI10 (bs (u1_c hS) (bs a1 hr))
      cases e : aCl tx tn q D with
      | error e' =>
        dsimp only
        have he := a4 e' e
        have hg := aPar_er (m + 1) q D e' (by rw [aPar, if_pos z, e])
        refine ⟨S1, F1, pre _ (bs (u1_g hS1 12) (bn (by rw [he.2.1]; exact nI_ne0 (by omega) (by omega)) ?_)), a2, ak, fun D' h' => absurd h' (by simp), fun e'' h' => by injection h' with h'; subst h'; exact he⟩
        unfold f_X9_palace_b78 f_X9_palace_b79
        exact b51_0
      | ok x =>
        dsimp only
        obtain ⟨c1, c3⟩ := a3 x.1 x.2 e
        obtain ⟨d1, d2, d3, -⟩ := aCl_ok (q' := x.1) (D' := x.2) z hD e
        have hs := skp_ge (tx := tx) (tn := tn) (q := x.1)
        have hs2 := skp_le (tx := tx) d3
        have hh := m_here h1.1 h1.2.1 h240 h1.2.2.2 d3 c1.1 c1.2.2
        obtain ⟨S', F', i1, i2, ik, i3, i4⟩ := ih (skp tx tn x.1) (fu + 1) S1 (upd F1 11 (nI (skp tx tn x.1))) x.2 (by omega) (by omega) hs2 skp_id h1 ⟨by rw [upd_n (by decide)]; exact c1.1, by rw [upd_n (by decide)]; exact c1.2.1, upd_s⟩ c3 d1
        refine ⟨S', F', pre _ (bs (u1_g hS1 12) (bp (by rw [c1.2.1]; rfl) (bs (u1_c hS1) (bs hh ?_)))), fr.tr a2 i2, ak.tr ((kM.up (Or.inl rfl)).tr ik), i3, i4⟩
        unfold f_X9_palace_b78 f_X9_palace_b79 chr
        by_cases w : skp tx tn x.1 < tn
        · rw [if_pos w] at i1 ⊢
          have := h1.2.2.2 (skp tx tn x.1)
          exact bn (z_nem1 (by omega)) i1
        · rw [if_neg w] at i1 ⊢
          exact bp rfl i1
    · have := stop q fu S F D (by omega) (by omega) hF hC
      rw [if_neg z] at this
      rw [if_neg z, if_neg z]
      exact this
def kN (F F' : Nat → Int32) : Prop := ∀ k, k < 10 ∨ 13 < k → F' k = F k
theorem m_pal {S : Mem} {p tn : Nat} {tx : Nat → Nat} (h : RdM S p tx tn) (h0 : S.2.1 216 10 = nI tn) :
    ∃ S' F', fr X222 S S' ∧ kN (S.2.1 216) F' ∧ F' 10 = nI 0 ∧
      (∀ D', aTxt tx tn = .ok D' → F' 13 = -1 ∧ MRd S' D' ∧ f_X9_palace 216 S = (f_X9_becomes 216 (rowI S' 216 F')).bind fun S13 => (gI 9 1 S13 216).bind fun v14 => some (v14, S13)) ∧
      (∀ e, aTxt tx tn = .error e → F' 13 = nI e.2 ∧ f_X9_palace 216 S = some ((-10 : Int32) - nI e.1, rowI S' 216 F')) := by
  have hR := h.1
  have hS := hR.1
  have h240 := h.2.2.1
  obtain ⟨F0, hF0⟩ : ∃ F0, F0 = upd (upd (S.2.1 216) 11 0) 12 0 := ⟨_, rfl⟩
  obtain ⟨G, hG⟩ : ∃ G, G = upd (upd (upd (upd (S.2.1 222) 0 (-1)) 1 0) 2 0) 3 0 := ⟨_, rfl⟩
  have g10 : F0 10 = nI tn := by rw [hF0, upd_n (by decide), upd_n (by decide)]; exact h0
  have g12 : F0 12 = nI 0 := by rw [hF0, upd_s]; rfl
  have g11 : F0 11 = nI 0 := by rw [hF0, upd_n (by decide), upd_s]; rfl
  have f0 : fr X222 S (rowI S 222 G) := fr_r
  have h1 := RdM_fr h f0
  have hS1 := h1.1.1
  have hC : MRd (rowI S 222 G) D0f := by
    unfold MRd
    rw [row_s, hG]
    refine ⟨rfl, rfl, rfl, rfl, fun i hi => absurd hi (Nat.not_lt_zero i), fun i hi => absurd hi (Nat.not_lt_zero i), fun i hi => absurd hi (Nat.not_lt_zero i)⟩
  have hs2 := skp_le (tx := tx) (Nat.zero_le tn)
  have hh := m_here h1.1 h1.2.1 h240 h1.2.2.2 (Nat.zero_le tn) g10 g11
  obtain ⟨S', F', i1, i2, ik, i3, i4⟩ := m_par_b (p := p) tn (skp tx tn 0) FU (rowI S 222 G) (upd F0 11 (nI (skp tx tn 0))) D0f (by omega) (by unfold FU; omega) hs2 skp_id h1 ⟨by rw [upd_n (by decide)]; exact g10, by rw [upd_n (by decide)]; exact g12, upd_s⟩ hC D0f_wf
  have hS' : S'.1 = 233 := i2.1.trans hS1
  have start : f_X9_palace 216 S = f_X9_palace_b51 1 216 (nI 0) (rowI S' 216 F') := by
    have e0 : rowI S 216 (S.2.1 216) = S := rI_same
    have hRT : ∀ T : Mem, T.1 = S.1 → T.2.2.2 = S.2.2.2 → rfC (rowI T 216 F0) p := fun T e1 e2 => rfC_e hR e1 e2
    unfold f_X9_palace
    rw [← e0]
    refine bs (u1_p hS 11 _) (bs (u1_p hS 12 _) ?_)
    rw [← hF0]
    refine bs (R_14 (hRT S rfl rfl)) (bs (rd_s hS (k := 0) (by decide) _) ?_)
    unfold FU
    rw [f_X9_palace_b19]
    refine bn (by decide) (bs (R_14 (hRT _ rfl rfl)) (bs (rd_s (by exact hS) (k := 1) (by decide) _) ?_))
    rw [Option.bind_some, row_s, rII, f_X9_palace_b19]
    refine bn (by decide) (bs (R_14 (hRT _ rfl rfl)) (bs (rd_s (by exact hS) (k := 2) (by decide) _) ?_))
    rw [Option.bind_some, row_s, rII, f_X9_palace_b19]
    refine bn (by decide) (bs (R_14 (hRT _ rfl rfl)) (bs (rd_s (by exact hS) (k := 3) (by decide) _) ?_))
    rw [Option.bind_some, row_s, rII, f_X9_palace_b19, ← hG]
    refine bp (by decide) (bs (u1_c hS1) (bs hh ?_))
    unfold f_X9_palace_b50 chr
    by_cases w : skp tx tn 0 < tn
    · rw [if_pos w] at i1 ⊢
      have := h1.2.2.2 (skp tx tn 0)
      exact bn (z_nem1 (by omega)) i1
    · rw [if_neg w] at i1 ⊢
      exact bp rfl i1
  have fin51 : ∀ (x : Int32), (F' 12 = nI 0 → x = -1) → (¬ F' 12 = nI 0 → x = F' 11) → f_X9_palace_b51 1 216 (nI 0) (rowI S' 216 F') = f_X9_palace_b104 216 x 216 (rowI S' 216 (upd F' 10 (nI 0))) := by
    intro x h1 h2
    rw [f_X9_palace_b51]
    refine bp nI00 (bs (u1_p hS' 10 _) (bs (u1_g hS' 12) ?_))
    rw [upd_n (by decide)]
    by_cases w : F' 12 = nI 0
    · rw [h1 w]; exact bp w rfl
    · rw [h2 w]
      refine bn w (bs (u1_g hS' 11) ?_)
      rw [upd_n (by decide)]; rfl
  have kk : ∀ x, kN (S.2.1 216) (upd (upd F' 10 (nI 0)) 13 x) := fun x k hk => by
    rw [upd_n (by omega), upd_n (by omega), ik k (by omega) (by omega), upd_n (by omega), hF0, upd_n (by omega), upd_n (by omega)]
  cases e : aTxt tx tn with
  | ok D' =>
    obtain ⟨j1, j2⟩ := i3 D' e
    refine ⟨S', upd (upd F' 10 (nI 0)) 13 (-1), fr.tr f0 i2, kk _, by rw [upd_n (by decide), upd_s], fun D'' h' => ?_, fun e' h' => absurd h' (by simp)⟩
    injection h' with h'
    subst h'
    refine ⟨upd_s, j2, ?_⟩
    rw [start, fin51 (-1) (fun _ => rfl) (fun w => absurd j1 w)]
    unfold f_X9_palace_b104
    exact bs (u1_p hS' 13 _) (bs (u1_g hS' 12) (bp (by rw [upd_n (by decide), upd_n (by decide), j1]; decide) (bs (u1_c hS') rfl)))
  | error e' =>
    have he := i4 e' e
    have hg := aPar_er _ _ _ _ e
    have hn : ¬ F' 12 = nI 0 := by rw [he.2.1]; exact fun w => by have := (nI_eq (by omega) (by omega)).mp w; omega
    refine ⟨S', upd (upd F' 10 (nI 0)) 13 (nI e'.2), fr.tr f0 i2, kk _, by rw [upd_n (by decide), upd_s], fun D'' h' => absurd h' (by simp), fun e'' h' => ?_⟩
    injection h' with h'
    subst h'
    refine ⟨upd_s, ?_⟩
    rw [start, fin51 (nI e'.2) (fun w => absurd w hn) (fun _ => he.2.2.symm)]
    unfold f_X9_palace_b104
    refine bs (u1_p hS' 13 _) (bs (u1_g hS' 12) (bn (by rw [upd_n (by decide), upd_n (by decide), he.2.1]; exact nI_nle (by omega) (by omega)) (bs (u1_g hS' 12) ?_)))
    rw [upd_n (by decide), upd_n (by decide), he.2.1]
