/-! the text is read: what is read, by numbers -/
def skF (tx : Nat → Nat) (tn : Nat) : Nat → Nat → Nat
  | 0, q => q
  | f + 1, q => if q < tn ∧ tx q = 32 then skF tx tn f (q + 1) else q
def skp (tx : Nat → Nat) (tn q : Nat) : Nat := skF tx tn (tn - q) q
theorem skF_ge {tx : Nat → Nat} {tn : Nat} : ∀ f q, q ≤ skF tx tn f q
  | 0, _ => Nat.le_refl _
  | f + 1, q => by
    rw [skF]
    split
    · have := skF_ge (tx := tx) (tn := tn) f (q + 1); omega
    · exact Nat.le_refl _
theorem skF_le {tx : Nat → Nat} {tn : Nat} : ∀ f q, q ≤ tn → skF tx tn f q ≤ tn
  | 0, _, h => h
  | f + 1, q, h => by
    rw [skF]
    split
    · next z => exact skF_le f (q + 1) (by omega)
    · exact h
theorem skF_no {tx : Nat → Nat} {tn : Nat} : ∀ f q, tn - q ≤ f → ¬ (skF tx tn f q < tn ∧ tx (skF tx tn f q) = 32)
  | 0, q, h => by rw [skF]; omega
  | f + 1, q, h => by
    rw [skF]
    split
    · exact skF_no f (q + 1) (by omega)
    · next z => exact z
theorem skF_id {tx : Nat → Nat} {tn f q : Nat} (h : ¬ (q < tn ∧ tx q = 32)) : skF tx tn f q = q := by
  cases f with
  | zero => rfl
  | succ f => rw [skF, if_neg h]
theorem skp_ge {tx : Nat → Nat} {tn q : Nat} : q ≤ skp tx tn q := skF_ge _ _
theorem skp_le {tx : Nat → Nat} {tn q : Nat} (h : q ≤ tn) : skp tx tn q ≤ tn := skF_le _ _ h
theorem skp_no {tx : Nat → Nat} {tn q : Nat} : ¬ (skp tx tn q < tn ∧ tx (skp tx tn q) = 32) := skF_no _ _ (Nat.le_refl _)
theorem skp_id {tx : Nat → Nat} {tn q : Nat} : skp tx tn (skp tx tn q) = skp tx tn q := skF_id skp_no
def isg (c : Nat) : Bool := decide (48 ≤ c ∧ c ≤ 57)
def dgE (tx : Nat → Nat) (tn : Nat) : Nat → Nat → Nat
  | 0, q => q
  | f + 1, q => if q < tn ∧ isg (tx q) = true then dgE tx tn f (q + 1) else q
theorem dgE_ge {tx : Nat → Nat} {tn : Nat} : ∀ f q, q ≤ dgE tx tn f q
  | 0, _ => Nat.le_refl _
  | f + 1, q => by
    rw [dgE]
    split
    · have := dgE_ge (tx := tx) (tn := tn) f (q + 1); omega
    · exact Nat.le_refl _
theorem dgE_le {tx : Nat → Nat} {tn : Nat} : ∀ f q, q ≤ tn → dgE tx tn f q ≤ tn
  | 0, _, h => h
  | f + 1, q, h => by
    rw [dgE]
    split
    · next z => exact dgE_le f (q + 1) (by omega)
    · exact h
/-- the value of k figures from b on, of which the first K count -/
def vlF (K : Nat) (tx : Nat → Nat) (b : Nat) : Nat → Nat
  | 0 => 0
  | k + 1 => if k < K then 10 * vlF K tx b k + tx (b + k) - 48 else vlF K tx b k
theorem vlF_34 {tx : Nat → Nat} {b : Nat} : ∀ k, k ≤ 3 → vlF 3 tx b k = vlF 4 tx b k
  | 0, _ => rfl
  | k + 1, h => by rw [vlF, vlF, if_pos (by omega), if_pos (by omega), vlF_34 k (by omega)]
theorem vlF_lt {K : Nat} {tx : Nat → Nat} {b : Nat} (hK : K ≤ 4) (ht : ∀ k, tx (b + k) < 256) : ∀ k, vlF K tx b k + 208 ≤ 416 * 11 ^ (min k K)
  | 0 => by simp [vlF]
  | k + 1 => by
    have ih := vlF_lt hK ht k
    have h1 := ht k
    rw [vlF]
    by_cases q : k < K
    · rw [if_pos q, show min (k + 1) K = min k K + 1 by omega, Nat.pow_succ]
      generalize 11 ^ min k K = z at *
      omega
    · rw [if_neg q, show min (k + 1) K = min k K by omega]; exact ih
theorem vlF_lt2 {K : Nat} {tx : Nat → Nat} {b : Nat} (hK : K ≤ 4) (ht : ∀ k, tx (b + k) < 256) (k : Nat) : vlF K tx b k < 2 ^ 23 := by
  have := vlF_lt hK ht k
  have h2 : 11 ^ min k K ≤ 11 ^ 4 := Nat.pow_le_pow_right (by decide) (by omega)
  omega
def aNum (tx : Nat → Nat) (tn q lim : Nat) : Except (Nat × Nat) (Nat × Nat) :=
  if dgE tx tn (tn - skp tx tn q) (skp tx tn q) = skp tx tn q then .error (1, skp tx tn q)
  else if 3 < dgE tx tn (tn - skp tx tn q) (skp tx tn q) - skp tx tn q ∨ ¬ vlF 3 tx (skp tx tn q) (dgE tx tn (tn - skp tx tn q) (skp tx tn q) - skp tx tn q) < lim then .error (2, skp tx tn q)
  else .ok (vlF 3 tx (skp tx tn q) (dgE tx tn (tn - skp tx tn q) (skp tx tn q) - skp tx tn q), dgE tx tn (tn - skp tx tn q) (skp tx tn q))
def aEnd (tx : Nat → Nat) (tn q : Nat) : Except (Nat × Nat) Nat :=
  if skp tx tn q < tn ∧ tx (skp tx tn q) = 59 then .ok (skp tx tn q + 1) else .error (1, skp tx tn q)
theorem aNum_ok {tx : Nat → Nat} {tn q lim v q' : Nat} (h : aNum tx tn q lim = .ok (v, q')) (hq : q ≤ tn) : q < q' ∧ q' ≤ tn ∧ v < lim := by
  unfold aNum at h
  split at h
  · exact absurd h (by simp)
  · split at h
    · exact absurd h (by simp)
    · next h1 h2 =>
      injection h with h
      injection h with e1 e2
      have g1 := skp_ge (tx := tx) (tn := tn) (q := q)
      have g2 := dgE_ge (tx := tx) (tn := tn) (tn - skp tx tn q) (skp tx tn q)
      have g3 := dgE_le (tx := tx) (tn := tn) (tn - skp tx tn q) (skp tx tn q) (skp_le hq)
      omega
theorem aNum_er {tx : Nat → Nat} {tn q lim : Nat} {e : Nat × Nat} (h : aNum tx tn q lim = .error e) (hq : q ≤ tn) : 1 ≤ e.1 ∧ e.1 ≤ 4 ∧ e.2 ≤ tn ∧ skp tx tn e.2 = e.2 := by
  unfold aNum at h
  split at h
  · injection h with h
    subst h
    exact ⟨by simp, by simp, skp_le hq, skp_id⟩
  · split at h
    · injection h with h
      subst h
      exact ⟨by simp, by simp, skp_le hq, skp_id⟩
    · exact absurd h (by simp)
theorem aEnd_ok {tx : Nat → Nat} {tn q q' : Nat} (h : aEnd tx tn q = .ok q') : q < q' ∧ q' ≤ tn := by
  unfold aEnd at h
  split at h
  · injection h with h
    have g1 := skp_ge (tx := tx) (tn := tn) (q := q)
    omega
  · exact absurd h (by simp)
theorem aEnd_er {tx : Nat → Nat} {tn q : Nat} {e : Nat × Nat} (h : aEnd tx tn q = .error e) (hq : q ≤ tn) : 1 ≤ e.1 ∧ e.1 ≤ 4 ∧ e.2 ≤ tn ∧ skp tx tn e.2 = e.2 := by
  unfold aEnd at h
  split at h
  · exact absurd h (by simp)
  · injection h with h
    subst h
    exact ⟨by simp, by simp, skp_le hq, skp_id⟩
/-! the class reads: row 1 is F -/
/-- how it stands: no fault so far -/
def oF (F : Nat → Int32) (tn q : Nat) : Prop := F 0 = nI tn ∧ F 1 = nI 0 ∧ F 5 = nI q
def eF (F : Nat → Int32) (tn : Nat) (e : Nat × Nat) : Prop := F 0 = nI tn ∧ F 1 = nI e.1 ∧ F 2 = nI e.2 ∧ ∃ z, z < 1000 ∧ F 5 = nI z
theorem t1_g {S : Mem} {F : Nat → Int32} (h : S.1 = 233) (k : Nat) : gI 6 k (rowI S 1 F) 1 = some (F k) := by rw [g_1 (by exact h), row_s]
theorem t1_p {S : Mem} {F : Nat → Int32} (h : S.1 = 233) (k : Nat) (v : Int32) : pI 6 k (rowI S 1 F) 1 v = some (rowI S 1 (upd F k v)) := by rw [p_1 (by exact h), row_s, rII]
theorem t1_c {S : Mem} {F : Nat → Int32} (h : S.1 = 233) : ck 6 (rowI S 1 F) 1 = some () := c_1 (by exact h)
theorem t1_l {S : Mem} {F : Nat → Int32} {tx : Nat → Nat} {tn : Nat} (h : S.1 = 233) (ht : ∀ k, k < tn → S.2.1 7 k = nI (tx k)) (h240 : tn ≤ 240) {k : Nat} (hk : k < tn) : ldI (rowI S 1 F) 7 (nI k) = some (nI (tx k)) := by
  rw [ld_7 (by exact h) (by omega), row_n (by decide), ht k hk]
theorem c_skip_b {S : Mem} {p : Nat} {tx : Nat → Nat} {tn : Nat} (hR : rfC S p) (ht : ∀ k, k < tn → S.2.1 7 k = nI (tx k)) (h240 : tn ≤ 240) (h256 : ∀ k, tx k < 256) :
    ∀ m q fu F, tn - q ≤ m → m < fu → q ≤ tn → F 0 = nI tn → F 5 = nI q → f_X6_skipBlanks_b0 fu 1 (rowI S 1 F) = some (rowI S 1 (upd F 5 (nI (skF tx tn m q)))) := by
  have hS := hR.1
  have hRT : ∀ F, rfC (rowI S 1 F) p := fun F => rfC_e hR rfl rfl
  intro m
  induction m with
  | zero =>
    intro q fu F hq hf hqt f0 f5
    obtain ⟨fu, rfl⟩ : ∃ z, fu = z + 1 := ⟨fu - 1, by omega⟩
    rw [f_X6_skipBlanks_b0, skF, fa_upd_same f5]
    exact bs (t1_g hS 5) (bs (t1_g hS 0) (bp (by rw [f0, f5]; exact nI_le (by omega) (by omega)) rfl))
  | succ m ih =>
    intro q fu F hq hf hqt f0 f5
    obtain ⟨fu, rfl⟩ : ∃ z, fu = z + 1 := ⟨fu - 1, by omega⟩
    rw [f_X6_skipBlanks_b0, skF]
    by_cases z : q < tn
    · have l := t1_l (F := F) hS ht h240 z
      have hx := h256 q
      by_cases y : tx q = 32
      · rw [if_pos ⟨z, y⟩]
        have ih := ih (q + 1) fu (upd F 5 (nI (q + 1))) (by omega) (by omega) (by omega) (by rw [upd_n (by decide)]; exact f0) upd_s
        rw [fa_upd_twice] at ih
        refine bs (t1_g hS 5) (bs (t1_g hS 0) (bn (by rw [f0, f5]; exact nI_ge (by omega) (by omega)) (bs (r_1_4 (hRT F)) (bs (t1_g hS 5) (bs (by rw [f5]; exact l) (bp (by rw [y]; rfl) (bs (t1_g hS 5) (bs (t1_p hS 5 _) ?_))))))))
        rw [f5, nI_1]; exact ih
      · rw [if_neg (fun w => y w.2), fa_upd_same f5]
        exact bs (t1_g hS 5) (bs (t1_g hS 0) (bn (by rw [f0, f5]; exact nI_ge (by omega) (by omega)) (bs (r_1_4 (hRT F)) (bs (t1_g hS 5) (bs (by rw [f5]; exact l) (bn (fun w => y ((nI_eq (b := 32) (by omega) (by omega)).mp w)) rfl))))))
    · rw [if_neg (fun w => z w.1), fa_upd_same f5]
      exact bs (t1_g hS 5) (bs (t1_g hS 0) (bp (by rw [f0, f5]; exact nI_le (by omega) (by omega)) rfl))
theorem c_skip {S : Mem} {p : Nat} {tx : Nat → Nat} {tn : Nat} (hR : rfC S p) (ht : ∀ k, k < tn → S.2.1 7 k = nI (tx k)) (h240 : tn ≤ 240) (h256 : ∀ k, tx k < 256) {q : Nat} {F : Nat → Int32} (hq : q ≤ tn) (f0 : F 0 = nI tn) (f5 : F 5 = nI q) : f_X6_skipBlanks 1 (rowI S 1 F) = some (rowI S 1 (upd F 5 (nI (skp tx tn q)))) :=
  c_skip_b hR ht h240 h256 (tn - q) q FU F (Nat.le_refl _) (by unfold FU; omega) hq f0 f5
theorem c_fig_b {S : Mem} {p : Nat} {tx : Nat → Nat} {tn : Nat} (hR : rfC S p) (ht : ∀ k, k < tn → S.2.1 7 k = nI (tx k)) (h240 : tn ≤ 240) (h256 : ∀ k, tx k < 256) {b : Nat} {x1 : Int32} :
    ∀ m k fu F, tn - (b + k) ≤ m → m < fu → b + k ≤ tn → F 0 = nI tn → F 5 = nI (b + k) → F 6 = nI b → f_X6_readNumber_b23 fu 1 x1 (nI (vlF 3 tx b k)) (rowI S 1 F) = f_X6_readNumber_b110 1 x1 (nI (vlF 3 tx b (dgE tx tn m (b + k) - b))) (rowI S 1 (upd F 5 (nI (dgE tx tn m (b + k))))) := by
  have hS := hR.1
  have hRT : ∀ F, rfC (rowI S 1 F) p := fun F => rfC_e hR rfl rfl
  intro m
  induction m with
  | zero =>
    intro k fu F hq hf hqt f0 f5 f6
    obtain ⟨fu, rfl⟩ : ∃ z, fu = z + 1 := ⟨fu - 1, by omega⟩
    rw [f_X6_readNumber_b23, dgE, fa_upd_same f5, Nat.add_sub_cancel_left]
    exact bs (t1_g hS 5) (bs (t1_g hS 0) (bp (by rw [f0, f5]; exact nI_le (by omega) (by omega)) rfl))
  | succ m ih =>
    intro k fu F hq hf hqt f0 f5 f6
    obtain ⟨fu, rfl⟩ : ∃ z, fu = z + 1 := ⟨fu - 1, by omega⟩
    rw [f_X6_readNumber_b23, dgE]
    by_cases z : b + k < tn
    · have l := t1_l (F := F) hS ht h240 z
      have hx := h256 (b + k)
      have l5 : ldI (rowI S 1 F) 7 (F 5) = some (nI (tx (b + k))) := by rw [f5]; exact l
      have n0 : ¬ F 0 ≤ F 5 := by rw [f0, f5]; exact nI_ge (by omega) (by omega)
      by_cases y : 48 ≤ tx (b + k) ∧ tx (b + k) ≤ 57
      · have hg : isg (tx (b + k)) = true := decide_eq_true y
        rw [if_pos ⟨z, hg⟩]
        have ih := ih (k + 1) fu (upd F 5 (nI (b + k + 1))) (by omega) (by omega) (by omega) (by rw [upd_n (by decide)]; exact f0) upd_s (by rw [upd_n (by decide)]; exact f6)
        rw [fa_upd_twice, show b + (k + 1) = b + k + 1 by omega] at ih
        refine bs (t1_g hS 5) (bs (t1_g hS 0) (bn n0 (bs (r_1_4 (hRT F)) (bs (t1_g hS 5) (bs l5 (bn (nI_nlt (b := 48) y.1 (by omega)) (bs (r_1_4 (hRT F)) (bs (t1_g hS 5) (bs l5 (bn (nI_nlt (a := 57) y.2 (by omega)) (bs (t1_g hS 5) (bs (t1_g hS 6) ?_))))))))))))
        have hsub : F 5 - F 6 = nI k := by rw [f5, f6, pk_sub (by omega)]; congr 1; omega
        rw [hsub]
        unfold f_X6_readNumber_b96
        by_cases w : k < 3
        · refine bn (nI_ge (b := 3) w (by omega)) (bs (r_1_4 (hRT F)) (bs (t1_g hS 5) (bs l5 (bs (t1_g hS 5) (bs (t1_p hS 5 _) ?_)))))
          rw [f5, nI_1]
          have hv : nI (vlF 3 tx b k) * (10 : Int32) + nI (tx (b + k)) - (48 : Int32) = nI (vlF 3 tx b (k + 1)) := by
            rw [zi 10, pk_mul, nI_add, zi 48, pk_sub (by omega), vlF, if_pos w]; congr 1; omega
          rw [hv]; exact ih
        · refine bp (nI_le (a := 3) (by omega) (by omega)) (bs (t1_g hS 5) (bs (t1_p hS 5 _) ?_))
          rw [f5, nI_1]
          have hv : vlF 3 tx b k = vlF 3 tx b (k + 1) := by rw [vlF, if_neg w]
          rw [hv]; exact ih
      · have hg : ¬ (b + k < tn ∧ isg (tx (b + k)) = true) := fun w => y (of_decide_eq_true w.2)
        rw [if_neg hg, fa_upd_same f5, Nat.add_sub_cancel_left]
        refine bs (t1_g hS 5) (bs (t1_g hS 0) (bn n0 (bs (r_1_4 (hRT F)) (bs (t1_g hS 5) (bs l5 ?_)))))
        by_cases w : tx (b + k) < 48
        · exact bp (nI_lt (b := 48) w (by omega)) rfl
        · exact bn (nI_nlt (b := 48) (by omega) (by omega)) (bs (r_1_4 (hRT F)) (bs (t1_g hS 5) (bs l5 (bp (nI_lt (a := 57) (by omega) (by omega)) rfl))))
    · rw [if_neg (fun w => z w.1), fa_upd_same f5, Nat.add_sub_cancel_left]
      exact bs (t1_g hS 5) (bs (t1_g hS 0) (bp (by rw [f0, f5]; exact nI_le (by omega) (by omega)) rfl))
theorem c_note {S : Mem} {F : Nat → Int32} (h : S.1 = 233) (x y : Int32) : f_X6_noteFault 1 x y (rowI S 1 F) = some (rowI S 1 (upd (upd F 1 x) 2 y)) := by
  unfold f_X6_noteFault
  exact bs (t1_p h 1 _) (bs (t1_p h 2 _) rfl)
/-- a number is read -/
theorem c_num {S : Mem} {p : Nat} {tx : Nat → Nat} {tn : Nat} (hR : rfC S p) (ht : ∀ k, k < tn → S.2.1 7 k = nI (tx k)) (h240 : tn ≤ 240) (h256 : ∀ k, tx k < 256) {q lim : Nat} {F : Nat → Int32} (hq : q ≤ tn) (hF : oF F tn q) (hl : lim < 2 ^ 20) :
    ∃ v F', v < 2 ^ 23 ∧ f_X6_readNumber 1 (nI lim - (1 : Int32)) (rowI S 1 F) = some (nI v, rowI S 1 F') ∧ (∀ v' q', aNum tx tn q lim = .ok (v', q') → v = v' ∧ oF F' tn q' ∧ F' 2 = F 2 ∧ F' 6 = nI (skp tx tn q)) ∧ (∀ e, aNum tx tn q lim = .error e → eF F' tn e) := by
  have hS := hR.1
  obtain ⟨f0, f1, f5⟩ := hF
  have hs := skp_le (tx := tx) hq
  have hb := c_fig_b hR ht h240 h256 (b := skp tx tn q) (x1 := nI lim - (1 : Int32)) (tn - skp tx tn q) 0 FU (upd (upd F 5 (nI (skp tx tn q))) 6 (nI (skp tx tn q))) (by omega) (by unfold FU; omega) (by omega) (by rw [upd_n (by decide), upd_n (by decide)]; exact f0) (by rw [upd_n (by decide), upd_s]; rfl) upd_s
  rw [Nat.add_zero] at hb
  have he := dgE_ge (tx := tx) (tn := tn) (tn - skp tx tn q) (skp tx tn q)
  have hel := dgE_le (tx := tx) (tn := tn) (tn - skp tx tn q) (skp tx tn q) hs
  have hvl := vlF_lt2 (K := 3) (tx := tx) (b := skp tx tn q) (by decide) (fun k => h256 _) (dgE tx tn (tn - skp tx tn q) (skp tx tn q) - skp tx tn q)
  have pre : ∀ r, f_X6_readNumber_b110 1 (nI lim - (1 : Int32)) (nI (vlF 3 tx (skp tx tn q) (dgE tx tn (tn - skp tx tn q) (skp tx tn q) - skp tx tn q))) (rowI S 1 (upd (upd (upd F 5 (nI (skp tx tn q))) 6 (nI (skp tx tn q))) 5 (nI (dgE tx tn (tn - skp tx tn q) (skp tx tn q))))) = r → f_X6_readNumber 1 (nI lim - (1 : Int32)) (rowI S 1 F) = r := by
    intro r hr
    unfold f_X6_readNumber
    refine bs (t1_g hS 1) (bp (by rw [f1]; rfl) (bs (t1_c hS) (bs (c_skip hR ht h240 h256 hq f0 f5) (bs (t1_g hS 5) (bs (t1_p hS 6 _) ?_)))))
    rw [upd_s]
    exact hb.trans hr
  have hN : aNum tx tn q lim = (if dgE tx tn (tn - skp tx tn q) (skp tx tn q) = skp tx tn q then .error (1, skp tx tn q)
    else if 3 < dgE tx tn (tn - skp tx tn q) (skp tx tn q) - skp tx tn q ∨ ¬ vlF 3 tx (skp tx tn q) (dgE tx tn (tn - skp tx tn q) (skp tx tn q) - skp tx tn q) < lim then .error (2, skp tx tn q)
    else .ok (vlF 3 tx (skp tx tn q) (dgE tx tn (tn - skp tx tn q) (skp tx tn q) - skp tx tn q), dgE tx tn (tn - skp tx tn q) (skp tx tn q))) := rfl
  generalize dgE tx tn (tn - skp tx tn q) (skp tx tn q) = e at *
  generalize skp tx tn q = b at *
  generalize vlF 3 tx b (e - b) = v at *
  have c5 : (upd (upd (upd F 5 (nI b)) 6 (nI b)) 5 (nI e)) 5 = nI e := upd_s
  have c6 : (upd (upd (upd F 5 (nI b)) 6 (nI b)) 5 (nI e)) 6 = nI b := by rw [upd_n (by decide), upd_s]
  have c0 : (upd (upd (upd F 5 (nI b)) 6 (nI b)) 5 (nI e)) 0 = nI tn := by rw [upd_n (by decide), upd_n (by decide), upd_n (by decide)]; exact f0
  have c1 : (upd (upd (upd F 5 (nI b)) 6 (nI b)) 5 (nI e)) 1 = nI 0 := by rw [upd_n (by decide), upd_n (by decide), upd_n (by decide)]; exact f1
  have c2 : (upd (upd (upd F 5 (nI b)) 6 (nI b)) 5 (nI e)) 2 = F 2 := by rw [upd_n (by decide), upd_n (by decide), upd_n (by decide)]
  generalize upd (upd (upd F 5 (nI b)) 6 (nI b)) 5 (nI e) = F1 at *
  have hsub : F1 5 - F1 6 = nI (e - b) := by rw [c5, c6, pk_sub he]
  have fault2 : f_X6_readNumber_b146 1 (nI v) (rowI S 1 F1) = some (nI v, rowI S 1 (upd (upd F1 1 (nI 2)) 2 (nI b))) := by
    unfold f_X6_readNumber_b146
    refine bs (t1_g hS 6) (bs (t1_c hS) (bs (c_note hS _ _) ?_))
    rw [c6]; rfl
  by_cases z : e = b
  · rw [if_pos z] at hN
    refine ⟨v, upd (upd F1 1 (nI 1)) 2 (nI b), hvl, pre _ ?_, fun v' q' h => ?_, fun e' h => ?_⟩
    · unfold f_X6_readNumber_b110
      refine bs (t1_g hS 5) (bs (t1_g hS 6) ?_)
      rw [Option.bind_some, hsub]
      refine bp (by rw [z, Nat.sub_self]; rfl) (bs (t1_g hS 5) (bs (t1_c hS) (bs (c_note hS _ _) ?_)))
      rw [c5, z]; rfl
    · rw [hN] at h; exact absurd h (by simp)
    · rw [hN] at h; injection h with h; subst h
      exact ⟨by rw [upd_n (by decide), upd_n (by decide)]; exact c0, by rw [upd_n (by decide), upd_s], upd_s, e, by omega, by rw [upd_n (by decide), upd_n (by decide)]; exact c5⟩
  · rw [if_neg z] at hN
    by_cases y : 3 < e - b ∨ ¬ v < lim
    · rw [if_pos y] at hN
      refine ⟨v, upd (upd F1 1 (nI 2)) 2 (nI b), hvl, pre _ ?_, fun v' q' h => ?_, fun e' h => ?_⟩
      · unfold f_X6_readNumber_b110
        refine bs (t1_g hS 5) (bs (t1_g hS 6) ?_)
        rw [Option.bind_some, hsub]
        refine bn (nI_ne0 (by omega) (by omega)) ?_
        by_cases w : 3 < e - b
        · exact bp (nI_lt (a := 3) w (by omega)) fault2
        · refine bn (nI_nlt (a := 3) (by omega) (by omega)) (bn (fun h => ?_) fault2)
          have hx : ¬ v < lim := y.resolve_left w
          by_cases l0 : lim = 0
          · subst l0
            have := Int32.le_iff_toInt_le.mp h
            rw [nI_toInt (by omega)] at this
            have e2 : (nI 0 - (1 : Int32)).toInt = -1 := by decide
            omega
          · rw [zi 1, pk_sub (by omega), nI_leI (by omega) (by omega)] at h
            omega
      · rw [hN] at h; exact absurd h (by simp)
      · rw [hN] at h; injection h with h; subst h
        exact ⟨by rw [upd_n (by decide), upd_n (by decide)]; exact c0, by rw [upd_n (by decide), upd_s], upd_s, e, by omega, by rw [upd_n (by decide), upd_n (by decide)]; exact c5⟩
    · rw [if_neg y] at hN
      have y1 : ¬ 3 < e - b := fun w => y (Or.inl w)
      have y2 : v < lim := Classical.byContradiction fun w => y (Or.inr w)
      refine ⟨v, F1, hvl, pre _ ?_, fun v' q' h => ?_, fun e' h => ?_⟩
      · unfold f_X6_readNumber_b110
        refine bs (t1_g hS 5) (bs (t1_g hS 6) ?_)
        rw [Option.bind_some, hsub]
        refine bn (nI_ne0 (by omega) (by omega)) (bn (nI_nlt (a := 3) (by omega) (by omega)) (bp ?_ rfl))
        rw [zi 1, pk_sub (by omega)]; exact nI_le (by omega) (by omega)
      · rw [hN] at h; injection h with h; injection h with h1 h2
        subst h1; subst h2
        exact ⟨rfl, ⟨c0, c1, c5⟩, c2, c6⟩
      · rw [hN] at h; exact absurd h (by simp)
theorem c_num_e {S : Mem} {F : Nat → Int32} {tn : Nat} {e : Nat × Nat} {x : Int32} (h : S.1 = 233) (hF : eF F tn e) (h1 : 1 ≤ e.1 ∧ e.1 ≤ 4) : f_X6_readNumber 1 x (rowI S 1 F) = some (nI 0, rowI S 1 F) := by
  unfold f_X6_readNumber
  exact bs (t1_g h 1) (bn (by rw [hF.2.1]; exact nI_ne0 (by omega) (by omega)) rfl)
theorem c_end {S : Mem} {p : Nat} {tx : Nat → Nat} {tn : Nat} (hR : rfC S p) (ht : ∀ k, k < tn → S.2.1 7 k = nI (tx k)) (h240 : tn ≤ 240) (h256 : ∀ k, tx k < 256) {q : Nat} {F : Nat → Int32} (hq : q ≤ tn) (hF : oF F tn q) :
    ∃ F', f_X6_readEnd 1 (rowI S 1 F) = some (rowI S 1 F') ∧ (∀ q', aEnd tx tn q = .ok q' → oF F' tn q' ∧ F' 2 = F 2) ∧ (∀ e, aEnd tx tn q = .error e → eF F' tn e) := by
  have hS := hR.1
  obtain ⟨f0, f1, f5⟩ := hF
  have hs := skp_le (tx := tx) hq
  have hRT : ∀ F, rfC (rowI S 1 F) p := fun F => rfC_e hR rfl rfl
  have hsk := c_skip hR ht h240 h256 hq f0 f5
  have hN : aEnd tx tn q = (if skp tx tn q < tn ∧ tx (skp tx tn q) = 59 then .ok (skp tx tn q + 1) else .error (1, skp tx tn q)) := rfl
  have hx := h256 (skp tx tn q)
  generalize skp tx tn q = b at *
  have c5 : (upd F 5 (nI b)) 5 = nI b := upd_s
  have c0 : (upd F 5 (nI b)) 0 = nI tn := by rw [upd_n (by decide)]; exact f0
  have c1 : (upd F 5 (nI b)) 1 = nI 0 := by rw [upd_n (by decide)]; exact f1
  have c2 : (upd F 5 (nI b)) 2 = F 2 := by rw [upd_n (by decide)]
  generalize upd F 5 (nI b) = F1 at *
  have b46 : ∀ G : Nat → Int32, G 5 = nI b → f_X6_readEnd_b46 1 (rowI S 1 G) = some (rowI S 1 (upd G 5 (nI (b + 1)))) := fun G hG => by
    unfold f_X6_readEnd_b46
    refine bs (t1_g hS 5) (bs (t1_p hS 5 _) ?_)
    rw [hG, nI_1]
  have b37 : f_X6_readEnd_b37 1 (rowI S 1 F1) = some (rowI S 1 (upd (upd (upd F1 1 (nI 1)) 2 (nI b)) 5 (nI (b + 1)))) := by
    unfold f_X6_readEnd_b37
    refine bs (t1_g hS 5) (bs (t1_c hS) (bs (c_note hS _ _) ?_))
    rw [c5]
    exact b46 _ (by rw [upd_n (by decide), upd_n (by decide)]; exact c5)
  have er : eF (upd (upd (upd F1 1 (nI 1)) 2 (nI b)) 5 (nI (b + 1))) tn (1, b) := ⟨by rw [upd_n (by decide), upd_n (by decide), upd_n (by decide)]; exact c0, by rw [upd_n (by decide), upd_n (by decide), upd_s], by rw [upd_n (by decide), upd_s], b + 1, by omega, upd_s⟩
  have start : ∀ r, (if F1 0 ≤ F1 5 then f_X6_readEnd_b37 1 (rowI S 1 F1) else
      (gR 6 4 (rowI S 1 F1) 1).bind fun r11 => (gI 6 5 (rowI S 1 F1) 1).bind fun v12 => (ldI (rowI S 1 F1) r11 v12).bind fun v13 =>
      if v13 = (59 : Int32) then f_X6_readEnd_b46 1 (rowI S 1 F1) else f_X6_readEnd_b37 1 (rowI S 1 F1)) = r → f_X6_readEnd 1 (rowI S 1 F) = r := by
    intro r hr
    unfold f_X6_readEnd
    exact bs (t1_g hS 1) (bp (by rw [f1]; rfl) (bs (t1_c hS) (bs hsk (bs (t1_g hS 5) (bs (t1_g hS 0) hr)))))
  by_cases z : b < tn
  · have l : ldI (rowI S 1 F1) 7 (F1 5) = some (nI (tx b)) := by rw [c5]; exact t1_l hS ht h240 z
    have n0 : ¬ F1 0 ≤ F1 5 := by rw [c0, c5]; exact nI_ge (by omega) (by omega)
    by_cases y : tx b = 59
    · rw [if_pos ⟨z, y⟩] at hN
      refine ⟨upd F1 5 (nI (b + 1)), start _ (bn n0 (bs (r_1_4 (hRT _)) (bs (t1_g hS 5) (bs l (bp (by rw [y]; rfl) (b46 F1 c5)))))), fun q' h => ?_, fun e h => ?_⟩
      · rw [hN] at h; injection h with h; subst h
        exact ⟨⟨by rw [upd_n (by decide)]; exact c0, by rw [upd_n (by decide)]; exact c1, upd_s⟩, by rw [upd_n (by decide)]; exact c2⟩
      · rw [hN] at h; exact absurd h (by simp)
    · rw [if_neg (fun w => y w.2)] at hN
      refine ⟨_, start _ (bn n0 (bs (r_1_4 (hRT _)) (bs (t1_g hS 5) (bs l (bn (fun w => y ((nI_eq (b := 59) (by omega) (by omega)).mp w)) b37))))), fun q' h => ?_, fun e h => ?_⟩
      · rw [hN] at h; exact absurd h (by simp)
      · rw [hN] at h; injection h with h; subst h; exact er
  · rw [if_neg (fun w => z w.1)] at hN
    refine ⟨_, start _ (bp (by rw [c0, c5]; exact nI_le (by omega) (by omega)) b37), fun q' h => ?_, fun e h => ?_⟩
    · rw [hN] at h; exact absurd h (by simp)
    · rw [hN] at h; injection h with h; subst h; exact er
theorem c_end_e {S : Mem} {F : Nat → Int32} {tn : Nat} {e : Nat × Nat} (h : S.1 = 233) (hF : eF F tn e) (h1 : 1 ≤ e.1 ∧ e.1 ≤ 4) : f_X6_readEnd 1 (rowI S 1 F) = some (rowI S 1 F) := by
  unfold f_X6_readEnd
  exact bs (t1_g h 1) (bn (by rw [hF.2.1]; exact nI_ne0 (by omega) (by omega)) rfl)
