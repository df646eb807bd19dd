/-! the class reads a text -/
def aPar (tx : Nat → Nat) (tn : Nat) : Nat → Nat → Dft → Except (Nat × Nat) Dft
  | 0, _, D => .ok D
  | m + 1, q, D => if q < tn then (match aCl tx tn q D with
    | .error e => .error e
    | .ok x => aPar tx tn m (skp tx tn x.1) x.2) else .ok D
theorem XD_no {p b : Nat} (hp : p = 2 ∨ p = 8) (h : b = 7 ∨ b = 1 ∨ 13 ≤ b ∨ b = 0 ∨ (p ≤ b ∧ b ≤ p + 4)) : XD (10 - p) b = false := btw_f (by omega)
theorem RdC_fr {S S' : Mem} {p tn : Nat} {tx : Nat → Nat} (h : RdC S p tx tn) (f : fr (XD (10 - p)) S S') : RdC S' p tx tn := by
  obtain ⟨hR, ht, h2⟩ := h
  exact ⟨rfC_fr hR f, fun k hk => by rw [(f.2.2 7 (XD_no hR.2.1 (Or.inl rfl))).1]; exact ht k hk, h2⟩
theorem c_skipE {S : Mem} {p tn : Nat} {tx : Nat → Nat} {F : Nat → Int32} {e : Nat × Nat} (h : RdC S p tx tn) (hF : eF F tn e) : ∃ F', f_X6_skipBlanks 1 (rowI S 1 F) = some (rowI S 1 F') ∧ eF F' tn e := by
  obtain ⟨hR, ht, h240, h256⟩ := h
  obtain ⟨f0, f1, f2, z, hz, f5⟩ := hF
  by_cases q : z ≤ tn
  · have hs := skp_le (tx := tx) q
    exact ⟨_, c_skip hR ht h240 h256 q f0 f5, by rw [upd_n (by decide)]; exact f0, by rw [upd_n (by decide)]; exact f1, by rw [upd_n (by decide)]; exact f2, skp tx tn z, by omega, upd_s⟩
  · refine ⟨F, ?_, f0, f1, f2, z, hz, f5⟩
    unfold f_X6_skipBlanks FU
    rw [f_X6_skipBlanks_b0]
    exact bs (t1_g hR.1 5) (bs (t1_g hR.1 0) (bp (by rw [f0, f5]; exact nI_le (by omega) (by omega)) rfl))
theorem c_read_b {p tn : Nat} {tx : Nat → Nat} : ∀ m q c fu (S : Mem) F D, tn - q ≤ m → m + 1 < fu → c ≤ q → q ≤ tn → RdC S p tx tn → oF F tn q → CRd S (10 - p) D → wfD D →
    ∃ S' F', f_X6_read_b28 fu 1 (nI c) (rowI S 1 F) = some (rowI S' 1 F') ∧ fr (XD (10 - p)) S S' ∧ (∀ D', aPar tx tn m q D = .ok D' → F' 0 = nI tn ∧ F' 1 = nI 0 ∧ F' 2 = F 2 ∧ CRd S' (10 - p) D') ∧ (∀ e, aPar tx tn m q D = .error e → eF F' tn e) := by
  have stop : ∀ q c fu (S : Mem) F D, tn ≤ q → q ≤ tn → c ≤ q → 0 < fu → RdC S p tx tn → oF F tn q → CRd S (10 - p) D → ∃ S' F', f_X6_read_b28 fu 1 (nI c) (rowI S 1 F) = some (rowI S' 1 F') ∧ fr (XD (10 - p)) S S' ∧ (∀ D', (Except.ok D : Except (Nat × Nat) Dft) = .ok D' → F' 0 = nI tn ∧ F' 1 = nI 0 ∧ F' 2 = F 2 ∧ CRd S' (10 - p) D') ∧ (∀ e, (Except.ok D : Except (Nat × Nat) Dft) = .error e → eF F' tn e) := by
    intro q c fu S F D hq hq2 hc hf h hF hC
    obtain ⟨fu, rfl⟩ : ∃ z, fu = z + 1 := ⟨fu - 1, by omega⟩
    have hS := h.1.1
    have h240 := h.2.2.1
    refine ⟨S, F, ?_, fr.rf, fun D' h' => by injection h' with h'; subst h'; exact ⟨hF.1, hF.2.1, rfl, hC⟩, fun e h' => absurd h' (by simp)⟩
    rw [f_X6_read_b28]
    by_cases z : 240 ≤ c
    · exact bp (nI_le (a := 240) z (by omega)) rfl
    · exact bn (nI_ge (b := 240) (by omega) (by omega)) (bs (t1_g hS 5) (bs (t1_g hS 0) (bp (by rw [hF.1, hF.2.2]; exact nI_le (by omega) (by omega)) rfl)))
  intro m
  induction m with
  | zero =>
    intro q c fu S F D hm hf hc hq h hF hC hD
    exact stop q c fu S F D (by omega) hq hc (by omega) h hF hC
  | succ m ih =>
    intro q c fu S F D hm hf hc hq h hF hC hD
    rw [aPar]
    by_cases z : q < tn
    · rw [if_pos z]
      obtain ⟨fu, rfl⟩ : ∃ z, fu = z + 1 := ⟨fu - 1, by omega⟩
      have hS := h.1.1
      have h240 := h.2.2.1
      obtain ⟨S1, F1, a1, a2, a3, a4⟩ := c_cl h z hF hC hD
      have h1 := RdC_fr h a2
      have pre : ∀ r, ((f_X6_skipBlanks 1 (rowI S1 1 F1)).bind fun S15 => (some (nI c + (1 : Int32))).bind fun v16 => f_X6_read_b28 fu 1 v16 S15) = r → f_X6_read_b28 (fu + 1) 1 (nI c) (rowI S 1 F) = r := by
        intro r hr
        rw [f_X6_read_b28]
        exact bn (nI_ge (b := 240) (by omega) (by omega)) (bs (t1_g hS 5) (bs (t1_g hS 0) (bn (by rw [hF.1, hF.2.2]; exact nI_ge (by omega) (by omega)) (bs (t1_g hS 1) (bp (by rw [hF.2.1]; rfl) (bs (t1_c hS) (bs a1 (bs (t1_c h1.1.1) hr))))))))
      cases e : aCl tx tn q D with
      | error e' =>
        dsimp only
        obtain ⟨F2, b1, b2⟩ := c_skipE h1 (a4 e' e)
        have hg : 1 ≤ e'.1 ∧ e'.1 ≤ 4 := by
          unfold aCl at e
          have hf0 : ∀ (r : Except (Nat × Nat) Nat) D', gS tn r → fin r D' = .error e' → 1 ≤ e'.1 ∧ e'.1 ≤ 4 := fun r D' hg hr => by
            have := hg.2 e' (fin_er hr); exact ⟨this.1, this.2.1⟩
          split at e
          · exact hf0 _ _ (gS_e (gS_n (gS_0 z))) e
          · split at e
            · injection e with e; subst e; exact ⟨by simp, by simp⟩
            · split at e
              · exact hf0 _ _ (gS_e (gS_n (gS_n (gS_0 z)))) e
              · split at e
                · exact hf0 _ _ (gS_e (gS_d (gS_n (gS_n (gS_0 z))) (bpS_le (gS_n (gS_0 z))))) e
                · split at e
                  · exact hf0 _ _ (gS_e (gS_n (gS_n (gS_0 z)))) e
                  · injection e with e; subst e; exact ⟨by simp, by simp⟩
        refine ⟨S1, F2, pre _ (bs b1 ?_), a2, fun D' h' => absurd h' (by simp), fun e'' h' => by injection h' with h'; subst h'; exact b2⟩
        rw [Option.bind_some]
        obtain ⟨fu, rfl⟩ : ∃ z, fu = z + 1 := ⟨fu - 1, by omega⟩
        rw [f_X6_read_b28, nI_1]
        have hS1 := h1.1.1
        obtain ⟨y, hy, y5⟩ := b2.2.2.2
        by_cases w : 240 ≤ c + 1
        · exact bp (nI_le (a := 240) w (by omega)) rfl
        · refine bn (nI_ge (b := 240) (by omega) (by omega)) (bs (t1_g hS1 5) (bs (t1_g hS1 0) ?_))
          by_cases u : tn ≤ y
          · exact bp (by rw [b2.1, y5]; exact nI_le u (by omega)) rfl
          · exact bn (by rw [b2.1, y5]; exact nI_ge (by omega) (by omega)) (bs (t1_g hS1 1) (bn (by rw [b2.2.1]; exact nI_ne0 (by omega) (by omega)) rfl))
      | ok x =>
        dsimp only
        obtain ⟨c1, c2, c3⟩ := a3 x.1 x.2 e
        obtain ⟨d1, d2, d3, -⟩ := aCl_ok (q' := x.1) (D' := x.2) z hD e
        have hs := skp_ge (tx := tx) (tn := tn) (q := x.1)
        have hs2 := skp_le (tx := tx) d3
        have hsk := c_skip h1.1 h1.2.1 h240 h1.2.2.2 d3 c1.1 c1.2.2
        obtain ⟨S', F', i1, i2, i3, i4⟩ := ih (skp tx tn x.1) (c + 1) fu S1 (upd F1 5 (nI (skp tx tn x.1))) x.2 (by omega) (by omega) (by omega) hs2 h1 ⟨by rw [upd_n (by decide)]; exact c1.1, by rw [upd_n (by decide)]; exact c1.2.1, upd_s⟩ c3 d1
        refine ⟨S', F', pre _ (bs hsk ?_), fr.tr a2 i2, fun D' h' => ?_, i4⟩
        · rw [Option.bind_some, nI_1]; exact i1
        · obtain ⟨j0, j1, j2, j3⟩ := i3 D' h'
          exact ⟨j0, j1, by rw [j2, upd_n (by decide)]; exact c2, j3⟩
    · rw [if_neg z]
      exact stop q c fu S F D (by omega) hq hc (by omega) h hF hC
/-- what a text tells -/
def D0f : Dft := (none, ((0, 0, 0), (fun _ => 0), (fun _ => 0), (fun _ => 0)), (fun _ => 0), 0, (fun _ => 0))
def aTxt (tx : Nat → Nat) (tn : Nat) : Except (Nat × Nat) Dft := aPar tx tn tn (skp tx tn 0) D0f
theorem D0f_wf : wfD D0f := ⟨⟨by decide, by decide, by decide, fun d hd => absurd hd (Nat.not_lt_zero d), fun d e hd => absurd hd (Nat.not_lt_zero d), fun d hd => absurd hd (Nat.not_lt_zero d)⟩, fun _ => Nat.zero_le _, fun _ _ => rfl, by decide, fun i hi => absurd hi (Nat.not_lt_zero i), fun _ => rfl, fun v hv => absurd hv (by simp [D0f])⟩
theorem aPar_wf {tx : Nat → Nat} {tn : Nat} : ∀ m q D D', wfD D → aPar tx tn m q D = .ok D' → wfD D'
  | 0, q, D, D', h, e => by rw [aPar] at e; injection e with e; subst e; exact h
  | m + 1, q, D, D', h, e => by
    rw [aPar] at e
    split at e
    · next z =>
      cases y : aCl tx tn q D with
      | error w => rw [y] at e; exact absurd e (by simp)
      | ok x =>
        rw [y] at e
        exact aPar_wf m _ _ _ (aCl_ok (q' := x.1) (D' := x.2) z h y).1 e
    · injection e with e; subst e; exact h
theorem aPar_er {tx : Nat → Nat} {tn : Nat} : ∀ m q D e, aPar tx tn m q D = .error e → 1 ≤ e.1 ∧ e.1 ≤ 4
  | 0, q, D, e, h => by rw [aPar] at h; exact absurd h (by simp)
  | m + 1, q, D, e, h => by
    rw [aPar] at h
    split at h
    · next z =>
      cases y : aCl tx tn q D with
      | error w =>
        rw [y] at h
        injection h with h
        subst h
        have hf0 : ∀ (r : Except (Nat × Nat) Nat) D', gS tn r → fin r D' = .error w → 1 ≤ w.1 ∧ w.1 ≤ 4 := fun r D' hg hr => by
          have := hg.2 w (fin_er hr); exact ⟨this.1, this.2.1⟩
        unfold aCl at y
        split at y
        · exact hf0 _ _ (gS_e (gS_n (gS_0 z))) y
        · split at y
          · injection y with y; subst y; exact ⟨by simp, by simp⟩
          · split at y
            · exact hf0 _ _ (gS_e (gS_n (gS_n (gS_0 z)))) y
            · split at y
              · exact hf0 _ _ (gS_e (gS_d (gS_n (gS_n (gS_0 z))) (bpS_le (gS_n (gS_0 z))))) y
              · split at y
                · exact hf0 _ _ (gS_e (gS_n (gS_n (gS_0 z)))) y
                · injection y with y; subst y; exact ⟨by simp, by simp⟩
      | ok x => rw [y] at h; exact aPar_er m _ _ _ h
    · exact absurd h (by simp)
theorem c_read {S : Mem} {p tn : Nat} {tx : Nat → Nat} (h : RdC S p tx tn) (h0 : S.2.1 1 0 = nI tn) :
    ∃ S' F', f_X6_read 1 S = some (rowI S' 1 F') ∧ fr (XD (10 - p)) S S' ∧ (∀ D', aTxt tx tn = .ok D' → F' 0 = nI tn ∧ F' 1 = nI 0 ∧ F' 2 = -1 ∧ CRd S' (10 - p) D') ∧ (∀ e, aTxt tx tn = .error e → eF F' tn e) := by
  have hR := h.1
  have hS := hR.1
  have h240 := h.2.2.1
  have hd : 10 - p = 2 ∨ 10 - p = 8 := by have := hR.2.1; omega
  obtain ⟨F0, hF0⟩ : ∃ F0, F0 = upd (upd (upd (S.2.1 1) 5 0) 1 0) 2 (-1) := ⟨_, rfl⟩
  obtain ⟨S0, hS0⟩ : ∃ S0, S0 = rowI S (10 - p) (upd (upd (upd (upd (upd (upd (upd (S.2.1 (10 - p)) 0 0) 1 0) 2 0) 3 0) 4 0) 5 0) 6 0) := ⟨_, rfl⟩
  have hclr : f_X2_clear (10 - p) (rowI S 1 F0) = some (rowI S0 1 F0) := by
    unfold f_X2_clear
    refine bs (dg_z hS hd 0 0 (Or.inl rfl)) (bs (dg_p (by exact hS) hd 1 _) (bs (dg_p (by exact hS) hd 2 _) (bs (dg_p (by exact hS) hd 3 _) (bs (dg_p (by exact hS) hd 4 _) (bs (dg_p (by exact hS) hd 5 _) (bs (dg_p (by exact hS) hd 6 _) ?_))))))
    simp only [row_s, rII]
    rw [hS0]
  have f0 : fr (XD (10 - p)) S S0 := by rw [hS0]; exact fr_d
  have h1 := RdC_fr h f0
  have g0 : F0 0 = nI tn := by rw [hF0, upd_n (by decide), upd_n (by decide), upd_n (by decide)]; exact h0
  have g1 : F0 1 = nI 0 := by rw [hF0, upd_n (by decide), upd_s]; rfl
  have g2 : F0 2 = -1 := by rw [hF0, upd_s]
  have g5 : F0 5 = nI 0 := by rw [hF0, upd_n (by decide), upd_n (by decide), upd_s]; rfl
  have hC : CRd S0 (10 - p) D0f := by
    unfold CRd
    rw [hS0, row_s]
    refine ⟨?_, ?_, ?_, ?_, ?_, ?_, ?_, fun i hi => absurd hi (Nat.not_lt_zero i), fun i hi => absurd hi (Nat.not_lt_zero i), fun i hi => absurd hi (Nat.not_lt_zero i), fun i hi => absurd hi (Nat.not_lt_zero i)⟩ <;> rfl
  have hs2 := skp_le (tx := tx) (Nat.zero_le tn)
  have hsk := c_skip h1.1 h1.2.1 h240 h1.2.2.2 (Nat.zero_le tn) g0 g5
  obtain ⟨S', F', i1, i2, i3, i4⟩ := c_read_b (p := p) tn (skp tx tn 0) 0 FU S0 (upd F0 5 (nI (skp tx tn 0))) D0f (by omega) (by unfold FU; omega) (Nat.zero_le _) hs2 h1 ⟨by rw [upd_n (by decide)]; exact g0, by rw [upd_n (by decide)]; exact g1, upd_s⟩ hC D0f_wf
  refine ⟨S', F', ?_, fr.tr f0 i2, fun D' h' => ?_, i4⟩
  · have e0 : rowI S 1 (S.2.1 1) = S := rI_same
    unfold f_X6_read
    rw [← e0]
    refine bs (t1_p hS 5 _) (bs (t1_p hS 1 _) (bs (t1_p hS 2 _) ?_))
    rw [← hF0]
    exact bs (r_1_3 (rfC_e hR rfl rfl)) (bs (dg_c hS hd) (bs hclr (bs (t1_c h1.1.1) (bs hsk i1))))
  · obtain ⟨j0, j1, j2, j3⟩ := i3 D' h'
    exact ⟨j0, j1, by rw [j2, upd_n (by decide)]; exact g2, j3⟩
