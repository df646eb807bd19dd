/-! the model reads: row 216 is F -/
def oM (F : Nat → Int32) (tn q : Nat) : Prop := F 10 = nI tn ∧ F 12 = nI 0 ∧ F 11 = nI q
def eM (F : Nat → Int32) (tn : Nat) (e : Nat × Nat) : Prop := F 10 = nI tn ∧ F 12 = nI e.1 ∧ F 11 = nI e.2
def kM (F F' : Nat → Int32) : Prop := ∀ k, k ≠ 11 → k ≠ 12 → F' k = F k
theorem kM.tr {F F' F'' : Nat → Int32} (h : kM F F') (h' : kM F' F'') : kM F F'' := fun k h1 h2 => (h' k h1 h2).trans (h k h1 h2)
theorem kM.rf {F : Nat → Int32} : kM F F := fun _ _ _ => rfl
theorem kM.up {F : Nat → Int32} {k : Nat} {v : Int32} (h : k = 11 ∨ k = 12) : kM F (upd F k v) := fun j h1 h2 => upd_n (by omega)
theorem u1_g {S : Mem} {F : Nat → Int32} (h : S.1 = 233) (k : Nat) : gI 9 k (rowI S 216 F) 216 = some (F k) := by rw [mgI (by exact h), row_s]
theorem u1_p {S : Mem} {F : Nat → Int32} (h : S.1 = 233) (k : Nat) (v : Int32) : pI 9 k (rowI S 216 F) 216 v = some (rowI S 216 (upd F k v)) := by rw [mpI (by exact h), row_s, rII]
theorem u1_c {S : Mem} {F : Nat → Int32} (h : S.1 = 233) : ck 9 (rowI S 216 F) 216 = some () := mck (by exact h)
theorem u1_l {S : Mem} {F : Nat → Int32} {tx : Nat → Nat} {tn : Nat} (h : S.1 = 233) (ht : ∀ k, k < tn → S.2.1 221 k = nI (tx k)) (h240 : tn ≤ 240) {k : Nat} (hk : k < tn) : ldI (rowI S 216 F) 221 (nI k) = some (nI (tx k)) := by
  rw [ld_221 (by exact h) (by omega), row_n (by decide), ht k hk]
def chr (tx : Nat → Nat) (tn b : Nat) : Int32 := if b < tn then nI (tx b) else -1
theorem m_here_b {S : Mem} {p : Nat} {tx : Nat → Nat} {tn : Nat} (hR : rfC S p) (ht : ∀ k, k < tn → S.2.1 221 k = nI (tx k)) (h240 : tn ≤ 240) (h256 : ∀ k, tx k < 256) :
    ∀ m q fu F, tn - q ≤ m → m < fu → q ≤ tn → F 10 = nI tn → F 11 = nI q → f_X9_here_b0 fu 216 (rowI S 216 F) = some (chr tx tn (skF tx tn m q), rowI S 216 (upd F 11 (nI (skF tx tn m q)))) := by
  have hS := hR.1
  have hRT : ∀ F, rfC (rowI S 216 F) p := fun F => rfC_e hR rfl rfl
  have b38 : ∀ q F, q ≤ tn → F 10 = nI tn → F 11 = nI q → f_X9_here_b38 216 (rowI S 216 F) = some (chr tx tn q, rowI S 216 F) := by
    intro q F hq f0 f5
    unfold f_X9_here_b38 chr
    by_cases z : q < tn
    · rw [if_pos z]
      exact bs (u1_g hS 11) (bs (u1_g hS 10) (bn (by rw [f0, f5]; exact nI_ge (by omega) (by omega)) (bs (R_9 (hRT F)) (bs (u1_g hS 11) (bs (by rw [f5]; exact u1_l hS ht h240 z) rfl)))))
    · rw [if_neg z]
      exact bs (u1_g hS 11) (bs (u1_g hS 10) (bp (by rw [f0, f5]; exact nI_le (by omega) (by omega)) rfl))
  intro m
  induction m with
  | zero =>
    intro q fu F hq hf hqt f0 f5
    obtain ⟨fu, rfl⟩ : ∃ z, fu = z + 1 := ⟨fu - 1, by omega⟩
    rw [f_X9_here_b0, skF, fa_upd_same f5]
    exact bs (u1_g hS 11) (bs (u1_g hS 10) (bp (by rw [f0, f5]; exact nI_le (by omega) (by omega)) (b38 q F hqt f0 f5)))
  | succ m ih =>
    intro q fu F hq hf hqt f0 f5
    obtain ⟨fu, rfl⟩ : ∃ z, fu = z + 1 := ⟨fu - 1, by omega⟩
    rw [f_X9_here_b0, skF]
    by_cases z : q < tn
    · have l : ldI (rowI S 216 F) 221 (F 11) = some (nI (tx q)) := by rw [f5]; exact u1_l hS ht h240 z
      have hx := h256 q
      have n0 : ¬ F 10 ≤ F 11 := by rw [f0, f5]; exact nI_ge (by omega) (by omega)
      by_cases y : tx q = 32
      · rw [if_pos ⟨z, y⟩]
        have ih := ih (q + 1) fu (upd F 11 (nI (q + 1))) (by omega) (by omega) (by omega) (by rw [upd_n (by decide)]; exact f0) upd_s
        rw [fa_upd_twice] at ih
        refine bs (u1_g hS 11) (bs (u1_g hS 10) (bn n0 (bs (R_9 (hRT F)) (bs (u1_g hS 11) (bs l (bp (by rw [y]; rfl) (bs (u1_g hS 11) (bs (u1_p hS 11 _) ?_))))))))
        rw [f5, nI_1]; exact ih
      · rw [if_neg (fun w => y w.2), fa_upd_same f5]
        exact bs (u1_g hS 11) (bs (u1_g hS 10) (bn n0 (bs (R_9 (hRT F)) (bs (u1_g hS 11) (bs l (bn (fun w => y ((nI_eq (b := 32) (by omega) (by omega)).mp w)) (b38 q F hqt f0 f5)))))))
    · rw [if_neg (fun w => z w.1), fa_upd_same f5]
      exact bs (u1_g hS 11) (bs (u1_g hS 10) (bp (by rw [f0, f5]; exact nI_le (by omega) (by omega)) (b38 q F hqt f0 f5)))
theorem m_here {S : Mem} {p : Nat} {tx : Nat → Nat} {tn : Nat} (hR : rfC S p) (ht : ∀ k, k < tn → S.2.1 221 k = nI (tx k)) (h240 : tn ≤ 240) (h256 : ∀ k, tx k < 256) {q : Nat} {F : Nat → Int32} (hq : q ≤ tn) (f0 : F 10 = nI tn) (f5 : F 11 = nI q) : f_X9_here 216 (rowI S 216 F) = some (chr tx tn (skp tx tn q), rowI S 216 (upd F 11 (nI (skp tx tn q)))) :=
  m_here_b hR ht h240 h256 (tn - q) q FU F (Nat.le_refl _) (by unfold FU; omega) hq f0 f5
theorem m_isg {c : Nat} (h : c < 256) : f_X9_isFigure (nI c) = some (nI (if isg c then 1 else 0)) := by
  unfold f_X9_isFigure
  have e : f_X9_in (nI c).toInt64 (48 : Int64) (57 : Int64) = some (nI (if isg c then 1 else 0)) := by
    refine (in_kj (j := c) (a := 48) (b := 57) (by omega) (by omega) (by omega)).trans ?_
    unfold isg
    by_cases q : 48 ≤ c ∧ c ≤ 57
    · rw [if_pos q, decide_eq_true q]; rfl
    · rw [if_neg q, decide_eq_false q]; rfl
  refine bs e (bs (a := nI (if isg c then 1 else 0)) ?_ rfl)
  cases isg c <;> rfl
theorem m_isg0 : f_X9_isFigure (-1 : Int32) = some (nI 0) := by decide +kernel
theorem m_fault0 {S : Mem} {F : Nat → Int32} (h : S.1 = 233) (h12 : F 12 = nI 0) (x : Int32) : f_X9_faults 216 x (rowI S 216 F) = some (rowI S 216 (upd F 12 x)) := by
  unfold f_X9_faults f_X9_faults_b16
  exact bs (u1_g h 12) (bp (by rw [h12]; rfl) (bs (u1_p h 12 _) rfl))
theorem m_fig_b {S : Mem} {p : Nat} {tx : Nat → Nat} {tn : Nat} (hR : rfC S p) (ht : ∀ k, k < tn → S.2.1 221 k = nI (tx k)) (h240 : tn ≤ 240) (h256 : ∀ k, tx k < 256) {b : Nat} {x1 : Int32} :
    ∀ m k fu F, tn - (b + k) ≤ m → m < fu → b + k ≤ tn → F 10 = nI tn → F 11 = nI (b + k) → f_X9_number_b36 fu 216 x1 (nI b) (nI (vlF 4 tx b k)) (rowI S 216 F) = f_X9_number_b110 216 x1 (nI b) (nI (vlF 4 tx b (dgE tx tn m (b + k) - b))) (rowI S 216 (upd F 11 (nI (dgE tx tn m (b + k))))) := by
  have hS := hR.1
  have hRT : ∀ F, rfC (rowI S 216 F) p := fun F => rfC_e hR rfl rfl
  intro m
  induction m with
  | zero =>
    intro k fu F hq hf hqt f0 f5
    obtain ⟨fu, rfl⟩ : ∃ z, fu = z + 1 := ⟨fu - 1, by omega⟩
    rw [f_X9_number_b36, dgE, fa_upd_same f5, Nat.add_sub_cancel_left]
    exact bs (u1_g hS 11) (bs (u1_g hS 10) (bp (by rw [f0, f5]; exact nI_le (by omega) (by omega)) rfl))
  | succ m ih =>
    intro k fu F hq hf hqt f0 f5
    obtain ⟨fu, rfl⟩ : ∃ z, fu = z + 1 := ⟨fu - 1, by omega⟩
    rw [f_X9_number_b36, dgE]
    by_cases z : b + k < tn
    · have hx := h256 (b + k)
      have l5 : ldI (rowI S 216 F) 221 (F 11) = some (nI (tx (b + k))) := by rw [f5]; exact u1_l hS ht h240 z
      have n0 : ¬ F 10 ≤ F 11 := by rw [f0, f5]; exact nI_ge (by omega) (by omega)
      cases y : isg (tx (b + k)) with
      | true =>
        rw [if_pos ⟨z, rfl⟩]
        have y' := of_decide_eq_true y
        have hi := m_isg hx
        rw [y] at hi
        have ih := ih (k + 1) fu (upd F 11 (nI (b + k + 1))) (by omega) (by omega) (by omega) (by rw [upd_n (by decide)]; exact f0) upd_s
        rw [fa_upd_twice, show b + (k + 1) = b + k + 1 by omega] at ih
        refine bs (u1_g hS 11) (bs (u1_g hS 10) (bn n0 (bs (R_9 (hRT F)) (bs (u1_g hS 11) (bs l5 (bs hi (bn nI10 (bs (u1_g hS 11) ?_))))))))
        have hsub : F 11 - nI b = nI k := by rw [f5, pk_sub (by omega)]; congr 1; omega
        rw [hsub]
        unfold f_X9_number_b95
        by_cases w : k < 4
        · refine bn (nI_ge (b := 4) w (by omega)) (bs (R_9 (hRT F)) (bs (u1_g hS 11) (bs l5 (bs (u1_g hS 11) (bs (u1_p hS 11 _) ?_)))))
          rw [f5, nI_1]
          have hv : (10 : Int32) * nI (vlF 4 tx b k) + nI (tx (b + k)) - (48 : Int32) = nI (vlF 4 tx b (k + 1)) := by
            rw [zi 10, pk_mul, nI_add, zi 48, pk_sub (by omega), vlF, if_pos w]
          rw [hv]; exact ih
        · refine bp (nI_le (a := 4) (by omega) (by omega)) (bs (u1_g hS 11) (bs (u1_p hS 11 _) ?_))
          rw [f5, nI_1]
          have hv : vlF 4 tx b k = vlF 4 tx b (k + 1) := by rw [vlF, if_neg w]
          rw [hv]; exact ih
      | false =>
        rw [if_neg (fun w => absurd w.2 (by simp)), fa_upd_same f5, Nat.add_sub_cancel_left]
        have hi := m_isg hx
        rw [y] at hi
        exact bs (u1_g hS 11) (bs (u1_g hS 10) (bn n0 (bs (R_9 (hRT F)) (bs (u1_g hS 11) (bs l5 (bs hi (bp nI00 rfl)))))))
    · rw [if_neg (fun w => z w.1), fa_upd_same f5, Nat.add_sub_cancel_left]
      exact bs (u1_g hS 11) (bs (u1_g hS 10) (bp (by rw [f0, f5]; exact nI_le (by omega) (by omega)) rfl))
theorem m_num {S : Mem} {p : Nat} {tx : Nat → Nat} {tn : Nat} (hR : rfC S p) (ht : ∀ k, k < tn → S.2.1 221 k = nI (tx k)) (h240 : tn ≤ 240) (h256 : ∀ k, tx k < 256) {q lim : Nat} {F : Nat → Int32} (hq : q ≤ tn) (hF : oM F tn q) (hl : lim < 2 ^ 20) :
    ∃ v F', v < 2 ^ 23 ∧ f_X9_number 216 (nI lim - (1 : Int32)) (rowI S 216 F) = some (nI v, rowI S 216 F') ∧ kM F F' ∧ (∀ v' q', aNum tx tn q lim = .ok (v', q') → v = v' ∧ oM F' tn q') ∧ (∀ e, aNum tx tn q lim = .error e → eM F' tn e) := by
  have hS := hR.1
  obtain ⟨f0, f1, f5⟩ := hF
  have hs := skp_le (tx := tx) hq
  have hh := m_here hR ht h240 h256 hq f0 f5
  have hb := m_fig_b hR ht h240 h256 (b := skp tx tn q) (x1 := nI lim - (1 : Int32)) (tn - skp tx tn q) 0 FU (upd F 11 (nI (skp tx tn q))) (by omega) (by unfold FU; omega) (by omega) (by rw [upd_n (by decide)]; exact f0) upd_s
  rw [Nat.add_zero] at hb
  have he := dgE_ge (tx := tx) (tn := tn) (tn - skp tx tn q) (skp tx tn q)
  have hel := dgE_le (tx := tx) (tn := tn) (tn - skp tx tn q) (skp tx tn q) hs
  have hvl := vlF_lt2 (K := 4) (tx := tx) (b := skp tx tn q) (by decide) (fun k => h256 _) (dgE tx tn (tn - skp tx tn q) (skp tx tn q) - skp tx tn q)
  have h34 := vlF_34 (tx := tx) (b := skp tx tn q) (dgE tx tn (tn - skp tx tn q) (skp tx tn q) - skp tx tn q)
  have hdg : skp tx tn q < tn ∧ isg (tx (skp tx tn q)) = true ↔ ¬ dgE tx tn (tn - skp tx tn q) (skp tx tn q) = skp tx tn q := by
    constructor
    · intro h w
      obtain ⟨z, hz⟩ : ∃ z, tn - skp tx tn q = z + 1 := ⟨tn - skp tx tn q - 1, by omega⟩
      rw [hz, dgE, if_pos h] at w
      have := dgE_ge (tx := tx) (tn := tn) z (skp tx tn q + 1)
      omega
    · intro h
      refine Classical.byContradiction fun w => h ?_
      cases tn - skp tx tn q with
      | zero => rfl
      | succ z => rw [dgE, if_neg w]
  have hx := h256 (skp tx tn q)
  have hfig : ∀ c : Bool, (decide (skp tx tn q < tn ∧ isg (tx (skp tx tn q)) = true)) = c → f_X9_isFigure (chr tx tn (skp tx tn q)) = some (nI (if c then 1 else 0)) := by
    intro c hc
    unfold chr
    by_cases z : skp tx tn q < tn
    · rw [if_pos z, m_isg hx]
      cases y : isg (tx (skp tx tn q)) <;> rw [y] at hc <;> simp [z] at hc <;> subst hc <;> rfl
    · rw [if_neg z, m_isg0]
      simp [z] at hc
      subst hc; rfl
  have hN : aNum tx tn q lim = (if dgE tx tn (tn - skp tx tn q) (skp tx tn q) = skp tx tn q then .error (1, skp tx tn q)
    else if 3 < dgE tx tn (tn - skp tx tn q) (skp tx tn q) - skp tx tn q ∨ ¬ vlF 3 tx (skp tx tn q) (dgE tx tn (tn - skp tx tn q) (skp tx tn q) - skp tx tn q) < lim then .error (2, skp tx tn q)
    else .ok (vlF 3 tx (skp tx tn q) (dgE tx tn (tn - skp tx tn q) (skp tx tn q) - skp tx tn q), dgE tx tn (tn - skp tx tn q) (skp tx tn q))) := rfl
  generalize dgE tx tn (tn - skp tx tn q) (skp tx tn q) = e at *
  generalize skp tx tn q = b at *
  generalize vlF 3 tx b (e - b) = v3 at *
  generalize vlF 4 tx b (e - b) = v at *
  by_cases z : e = b
  · rw [if_pos z] at hN
    have hc := hfig false (decide_eq_false (fun w => (hdg.mp w) z))
    refine ⟨0, upd (upd F 11 (nI b)) 12 (nI 1), by decide, ?_, (kM.up (Or.inl rfl)).tr (kM.up (Or.inr rfl)), fun v' q' h => ?_, fun e' h => ?_⟩
    · unfold f_X9_number
      exact bs (u1_g hS 12) (bp (by rw [f1]; decide) (bs (u1_c hS) (bs hh (bs hc (bp nI00 (bs (u1_c hS) (bs (m_fault0 hS (by rw [upd_n (by decide)]; exact f1) _) rfl)))))))
    · rw [hN] at h; exact absurd h (by simp)
    · rw [hN] at h; injection h with h; subst h
      exact ⟨by rw [upd_n (by decide), upd_n (by decide)]; exact f0, upd_s, by rw [upd_n (by decide), upd_s]⟩
  · rw [if_neg z] at hN
    have hc := hfig true (decide_eq_true (hdg.mpr z))
    have c5 : (upd (upd F 11 (nI b)) 11 (nI e)) 11 = nI e := upd_s
    have c0 : (upd (upd F 11 (nI b)) 11 (nI e)) 10 = nI tn := by rw [upd_n (by decide), upd_n (by decide)]; exact f0
    have c1 : (upd (upd F 11 (nI b)) 11 (nI e)) 12 = nI 0 := by rw [upd_n (by decide), upd_n (by decide)]; exact f1
    have kk : kM F (upd (upd F 11 (nI b)) 11 (nI e)) := (kM.up (Or.inl rfl)).tr (kM.up (Or.inl rfl))
    have pre : ∀ r, f_X9_number_b110 216 (nI lim - (1 : Int32)) (nI b) (nI v) (rowI S 216 (upd (upd F 11 (nI b)) 11 (nI e))) = r → f_X9_number 216 (nI lim - (1 : Int32)) (rowI S 216 F) = r := by
      intro r hr
      unfold f_X9_number
      refine bs (u1_g hS 12) (bp (by rw [f1]; decide) (bs (u1_c hS) (bs hh (bs hc (bn nI10 (bs (u1_g hS 11) ?_))))))
      rw [upd_s]
      exact hb.trans hr
    generalize upd (upd F 11 (nI b)) 11 (nI e) = F1 at *
    have hsub : F1 11 - nI b = nI (e - b) := by rw [c5, pk_sub he]
    have fault2 : f_X9_number_b126 216 (nI b) (nI v) (rowI S 216 F1) = some (nI v, rowI S 216 (upd (upd F1 12 (nI 2)) 11 (nI b))) := by
      unfold f_X9_number_b126
      exact bs (u1_c hS) (bs (m_fault0 hS c1 _) (bs (u1_p hS 11 _) rfl))
    by_cases y : 3 < e - b ∨ ¬ v3 < lim
    · rw [if_pos y] at hN
      refine ⟨v, upd (upd F1 12 (nI 2)) 11 (nI b), hvl, pre _ ?_, kk.tr ((kM.up (Or.inr rfl)).tr (kM.up (Or.inl rfl))), fun v' q' h => ?_, fun e' h => ?_⟩
      · unfold f_X9_number_b110
        refine bs (u1_g hS 11) ?_
        rw [hsub]
        by_cases w : 3 < e - b
        · exact bp (nI_lt (a := 3) w (by omega)) fault2
        · refine bn (nI_nlt (a := 3) (by omega) (by omega)) (bn (fun h => ?_) fault2)
          have hx : ¬ v3 < lim := y.resolve_left w
          have := h34 (by omega)
          by_cases l0 : lim = 0
          · subst l0
            have := Int32.le_iff_toInt_le.mp h
            rw [nI_toInt (by omega)] at this
            have e2 : (nI 0 - (1 : Int32)).toInt = -1 := by decide
            omega
          · rw [zi 1, pk_sub (by omega), nI_leI (by omega) (by omega)] at h
            omega
      · rw [hN] at h; exact absurd h (by simp)
      · rw [hN] at h; injection h with h; subst h
        exact ⟨by rw [upd_n (by decide), upd_n (by decide)]; exact c0, by rw [upd_n (by decide), upd_s], upd_s⟩
    · rw [if_neg y] at hN
      have y1 : ¬ 3 < e - b := fun w => y (Or.inl w)
      have y2 : v3 < lim := Classical.byContradiction fun w => y (Or.inr w)
      have e34 := h34 (by omega)
      refine ⟨v, F1, hvl, pre _ ?_, kk, fun v' q' h => ?_, fun e' h => ?_⟩
      · unfold f_X9_number_b110
        refine bs (u1_g hS 11) ?_
        rw [hsub]
        refine bn (nI_nlt (a := 3) (by omega) (by omega)) (bp ?_ rfl)
        rw [zi 1, pk_sub (by omega)]; exact nI_le (by omega) (by omega)
      · rw [hN] at h; injection h with h; injection h with h1 h2
        subst h1; subst h2
        exact ⟨e34.symm, c0, c1, c5⟩
      · rw [hN] at h; exact absurd h (by simp)
theorem m_num_e {S : Mem} {F : Nat → Int32} {tn : Nat} {e : Nat × Nat} {x : Int32} (h : S.1 = 233) (hF : eM F tn e) (h1 : 1 ≤ e.1 ∧ e.1 ≤ 4) : f_X9_number 216 x (rowI S 216 F) = some (nI 0, rowI S 216 F) := by
  unfold f_X9_number
  exact bs (u1_g h 12) (bn (by rw [hF.2.1]; exact nI_nle (by omega) (by omega)) rfl)
theorem m_ends_e {S : Mem} {F : Nat → Int32} {tn : Nat} {e : Nat × Nat} (h : S.1 = 233) (hF : eM F tn e) (h1 : 1 ≤ e.1 ∧ e.1 ≤ 4) : f_X9_ends 216 (rowI S 216 F) = some (rowI S 216 F) := by
  have hz : ¬ F 12 = (0 : Int32) := by rw [hF.2.1]; exact nI_ne0 (by omega) (by omega)
  unfold f_X9_ends f_X9_ends_b21 f_X9_ends_b38
  refine bs (u1_g h 12) (bn hz (bs (u1_g h 11) (bs (u1_g h 12) (bn hz (bs (u1_p h 11 _) ?_)))))
  rw [fa_upd_same]
  rw [hF.2.2, zi 0, nI_add, Nat.add_zero]
theorem m_ends {S : Mem} {p : Nat} {tx : Nat → Nat} {tn : Nat} (hR : rfC S p) (ht : ∀ k, k < tn → S.2.1 221 k = nI (tx k)) (h240 : tn ≤ 240) (h256 : ∀ k, tx k < 256) {q : Nat} {F : Nat → Int32} (hq : q ≤ tn) (hF : oM F tn q) :
    ∃ F', f_X9_ends 216 (rowI S 216 F) = some (rowI S 216 F') ∧ kM F F' ∧ (∀ q', aEnd tx tn q = .ok q' → oM F' tn q') ∧ (∀ e, aEnd tx tn q = .error e → eM F' tn e) := by
  have hS := hR.1
  obtain ⟨f0, f1, f5⟩ := hF
  have hs := skp_le (tx := tx) hq
  have hh := m_here hR ht h240 h256 hq f0 f5
  have hN : aEnd tx tn q = (if skp tx tn q < tn ∧ tx (skp tx tn q) = 59 then .ok (skp tx tn q + 1) else .error (1, skp tx tn q)) := rfl
  have hx := h256 (skp tx tn q)
  generalize skp tx tn q = b at *
  have c5 : (upd F 11 (nI b)) 11 = nI b := upd_s
  have c0 : (upd F 11 (nI b)) 10 = nI tn := by rw [upd_n (by decide)]; exact f0
  have c1 : (upd F 11 (nI b)) 12 = nI 0 := by rw [upd_n (by decide)]; exact f1
  have kk : kM F (upd F 11 (nI b)) := kM.up (Or.inl rfl)
  generalize upd F 11 (nI b) = F1 at *
  have start : ∀ r, (if chr tx tn b = (59 : Int32) then f_X9_ends_b21 216 (rowI S 216 F1) else
      (ck 9 (rowI S 216 F1) 216).bind fun c7 => (f_X9_faults 216 (1 : Int32) (rowI S 216 F1)).bind fun S8 => f_X9_ends_b21 216 S8) = r → f_X9_ends 216 (rowI S 216 F) = r := by
    intro r hr
    unfold f_X9_ends
    exact bs (u1_g hS 12) (bp (by rw [f1]; rfl) (bs (u1_c hS) (bs hh hr)))
  by_cases z : b < tn ∧ tx b = 59
  · rw [if_pos z] at hN
    refine ⟨upd F1 11 (nI (b + 1)), start _ (bp ?_ ?_), kk.tr (kM.up (Or.inl rfl)), fun q' h => ?_, fun e h => ?_⟩
    · unfold chr; rw [if_pos z.1, z.2]; rfl
    · unfold f_X9_ends_b21 f_X9_ends_b38
      refine bs (u1_g hS 11) (bs (u1_g hS 12) (bp (by rw [c1]; rfl) (bs (u1_p hS 11 _) ?_)))
      rw [c5, nI_1]
    · rw [hN] at h; injection h with h; subst h
      exact ⟨by rw [upd_n (by decide)]; exact c0, by rw [upd_n (by decide)]; exact c1, upd_s⟩
    · rw [hN] at h; exact absurd h (by simp)
  · rw [if_neg z] at hN
    have hc : ¬ chr tx tn b = (59 : Int32) := by
      unfold chr
      by_cases w : b < tn
      · rw [if_pos w]
        exact fun y => z ⟨w, (nI_eq (b := 59) (by omega) (by omega)).mp y⟩
      · rw [if_neg w]; decide
    refine ⟨upd F1 12 (nI 1), start _ (bn hc (bs (u1_c hS) (bs (m_fault0 hS c1 _) ?_))), kk.tr (kM.up (Or.inr rfl)), fun q' h => ?_, fun e h => ?_⟩
    · unfold f_X9_ends_b21 f_X9_ends_b38
      refine bs (u1_g hS 11) (bs (u1_g hS 12) (bn (by rw [upd_s]; decide) (bs (u1_p hS 11 _) ?_)))
      rw [fa_upd_same (by rw [upd_n (by decide), c5, zi 0, nI_add, Nat.add_zero])]; rfl
    · rw [hN] at h; exact absurd h (by simp)
    · rw [hN] at h; injection h with h; subst h
      exact ⟨by rw [upd_n (by decide)]; exact c0, upd_s, by rw [upd_n (by decide)]; exact c5⟩
