/-! the class: slippers at cell a, whose row of sets is a + 1 -/
def sto (o : Nat → Bool) : Nat → Nat
  | 0 => 0
  | k + 1 => 2 ^ k * (if o k then 1 else 0) + sto o k
theorem sto_lt (o : Nat → Bool) : ∀ k, sto o k < 2 ^ k
  | 0 => by simp [sto]
  | k + 1 => by
    have ih := sto_lt o k
    rw [sto, Nat.pow_succ]
    split <;> omega
theorem sto_bit (o : Nat → Bool) : ∀ k i, (sto o k).testBit i = (decide (i < k) && o i)
  | 0, i => by simp [sto]
  | k + 1, i => by
    rw [sto, Nat.testBit_two_pow_mul_add _ (sto_lt o k)]
    by_cases h : i < k
    · rw [if_pos h, sto_bit o k i]; simp [h, show i < k + 1 by omega]
    · rw [if_neg h]
      by_cases h2 : i = k
      · subst h2; cases o i <;> simp
      · have h3 : ¬ i < k + 1 := by omega
        obtain ⟨z, hz⟩ : ∃ z, i - k = z + 1 := ⟨i - k - 1, by omega⟩
        rw [hz]
        split
        · rw [Nat.testBit_lt_two_pow (Nat.one_lt_two_pow (by omega))]; simp [h3]
        · simp [h3]
def opd (P : Pal) (w br b : Nat) : Bool := match dB P w b (drs P) with
  | none => false
  | some d => !br.testBit d
def bes (P : Pal) (br w : Nat) : Nat := sto (opd P w br) 8
def ahd (P : Pal) (w na br : Nat) : Nat := sto (opn P w na br) 8
theorem opn_opd {P : Pal} {w na br a : Nat} : opn P w na br a = (opd P w br a && !na.testBit a) := by
  unfold opn opd
  cases dB P w a (drs P) <;> simp
theorem opd_rm {P : Pal} (hP : wfP P) {w br b : Nat} (h : opd P w br b = true) : b < rms P ∧ w < rms P := by
  unfold opd at h
  cases hd : dB P w b (drs P) with
  | none => rw [hd] at h; cases h
  | some d =>
    have h1 := dB_lt hd
    have h2 := hP.2.2.2.1 d h1.1
    have h3 := h1.2
    simp only [isD, Bool.or_eq_true, Bool.and_eq_true, decide_eq_true_eq] at h3
    omega
theorem c_ahead {P : Pal} {w na br : Nat} (hna : na < 256) : nI (bes P br w) &&& (nI na ^^^ (-1 : Int32)) = nI (ahd P w na br) := by
  rw [show (-1 : Int32) = nI 4294967295 by decide +kernel, z_xor, z_and]
  apply z_ext
  intro i hi
  unfold bes ahd
  rw [Nat.testBit_and, Nat.testBit_xor, sto_bit, sto_bit, show (4294967295 : Nat) = 2 ^ 32 - 1 from by decide, Nat.testBit_two_pow_sub_one, opn_opd]
  simp [hi, Bool.and_assoc]
theorem bst_congr {o o' : Nat → Bool} {pl pl' : Nat → Nat} : ∀ k, (∀ a, a < k → o a = o' a) → (∀ a, a < k → pl a = pl' a) → bst o pl k = bst o' pl' k
  | 0, _, _ => rfl
  | k + 1, h1, h2 => by rw [bst, bst, bst_congr k (fun a ha => h1 a (by omega)) (fun a ha => h2 a (by omega)), h1 k (by omega), h2 k (by omega)]
theorem bst_more {o : Nat → Bool} {pl : Nat → Nat} {r : Nat} (h : ∀ a, r ≤ a → o a = false) : ∀ k, bst o pl (r + k) = bst o pl r
  | 0 => rfl
  | k + 1 => by
    rw [← Nat.add_assoc, bst, bst_more h k, h (r + k) (by omega)]
    cases bst o pl r <;> simp
def lki : Option (Nat × Nat) → Int32
  | none => -1
  | some q => nI q.1
theorem c_pkAt {p a : Nat} (hp : p < 2 ^ 32) (ha : a < 8) : f_X8_packedAt (nI p) (nI a) = nI (p / 2 ^ (4 * a) % 16) := by
  unfold f_X8_packedAt
  rw [show (4 : Int32) = nI 4 from rfl, pk_mul, z_ush hp (by omega), show (15 : Int32) = nI 15 from rfl, z_and, and15]
theorem c_pullOf {r a no ca ct : Nat} {wo : Bool} (hr : r < 64) (ha : a < 8) (hno : no < 2 ^ 32) (hca : ca < 2 ^ 31) (hct : ct < 2 ^ 32) : f_X4_pullOf (nI r) (nI a) (nI no) (nI ca) (nI ct) (nI (if wo then 1 else 0)) = some (nI (plN r ca no ct wo a)) := by
  unfold plN pul
  have e1 : nI r / nI 16 = nI (r / 16) := pk_div (by omega) (by omega) (by omega)
  have e2 : nI r / nI 4 = nI (r / 4) := pk_div (by omega) (by omega) (by omega)
  have e3 : irI (nI (r / 4)) (nI 4) = nI (r / 4 % 4) := z_rem (by omega) (by omega) (by omega)
  have e4 : irI (nI r) (nI 4) = nI (r % 4) := z_rem (by omega) (by omega) (by omega)
  have e5 := c_pkAt hno ha
  have e6 := c_pkAt hct ha
  have e7 := c_bit hca (show a < 32 by omega)
  unfold f_X4_pullOf f_X4_pullOf_b31 f_X4_pullOf_b60
  cases hb : ca.testBit a <;> cases wo <;> simp (disch := omega) only [Option.bind_some, ↓reduceIte, if_true, if_false, zi, zj, f_X8_quietOf, f_X8_softOf, f_X8_newOf, e1, e2, e3, e4, e5, e6, e7, hb, nI_eq, pk_mul, nI_add, Bool.false_eq_true, Nat.reduceEqDiff, Nat.mul_one, Nat.add_zero, Nat.zero_ne_one, Nat.one_ne_zero]
theorem c_liked_b {r st no ca ct : Nat} {wo : Bool} (hr : r < 64) (hst : st < 2 ^ 31) (hno : no < 2 ^ 32) (hca : ca < 2 ^ 31) (hct : ct < 2 ^ 32) : ∀ (m k fu : Nat) (x7 : Int32), 8 = k + m → m < fu → (∀ q, bst (fun a => st.testBit a) (plN r ca no ct wo) k = some q → x7 = nI q.2) →
    f_X4_liked_b9 fu (nI r) (nI st) (nI no) (nI ca) (nI ct) (nI (if wo then 1 else 0)) (lki (bst (fun a => st.testBit a) (plN r ca no ct wo) k)) x7 (nI k) = some (lki (bst (fun a => st.testBit a) (plN r ca no ct wo) 8)) := by
  intro m
  induction m with
  | zero =>
    intro k fu x7 hk hf hx
    obtain ⟨fu, rfl⟩ : ∃ z, fu = z + 1 := ⟨fu - 1, by omega⟩
    rw [f_X4_liked_b9]
    simp (disch := omega) only [Option.bind_some, ↓reduceIte, if_true, if_false, zi, zj, nI_leI, zt_lt, zf_lt, zt_le, zf_le, zf_eq]
    rw [show k = 8 by omega]
  | succ m ih =>
    intro k fu x7 hk hf hx
    obtain ⟨fu, rfl⟩ : ∃ z, fu = z + 1 := ⟨fu - 1, by omega⟩
    have hpl : f_X4_pullOf (nI r) (nI k) (nI no) (nI ca) (nI ct) (nI (if wo then 1 else 0)) = some (nI (plN r ca no ct wo k)) := c_pullOf hr (by omega) hno hca hct
    have hlt : ∀ a, plN r ca no ct wo a < 1000 := fun a => plN_lt hr
    have hbt := c_bit hst (show k < 32 by omega)
    have ih := ih (k + 1) fu
    generalize plN r ca no ct wo = pl at ih hpl hlt hx ⊢
    have hk2 := hlt k
    rw [f_X4_liked_b9]
    simp (disch := omega) only [Option.bind_some, ↓reduceIte, if_true, if_false, zi, zj, nI_leI, zt_lt, zf_lt, zt_le, zf_le, zf_eq, hbt, nI_eq]
    rw [bst] at ih
    cases hb : st.testBit k with
    | false =>
      simp only [hb, Bool.false_and, Bool.false_eq_true, if_false] at ih
      simp (disch := omega) only [Option.bind_some, ↓reduceIte, if_true, if_false, zi, zj, Bool.false_eq_true, Nat.zero_ne_one, f_X4_liked_b61, nI_add]
      cases hbk : bst (fun a => st.testBit a) pl k with
      | none => rw [hbk] at ih; exact ih x7 (by omega) (by omega) (fun q h => by cases h)
      | some q => rw [hbk] at ih hx; exact ih x7 (by omega) (by omega) (fun q' h => by cases h; exact hx q rfl)
    | true =>
      simp only [hb, Bool.true_and, if_true, decide_eq_true_eq] at ih
      simp (disch := omega) only [Option.bind_some, ↓reduceIte, if_true, if_false, zi, zj, hpl]
      cases hbk : bst (fun a => st.testBit a) pl k with
      | none =>
        rw [hbk] at ih
        simp (disch := omega) only [lki, Option.bind_some, ↓reduceIte, if_true, if_false, zi, zj, f_X4_liked_b53, f_X4_liked_b61, nI_add]
        exact ih (nI (pl k)) (by omega) (by omega) (fun q h => by cases h; rfl)
      | some q =>
        rw [hbk] at ih hx
        have hq := bst_lt hbk
        have hq2 : q.2 < 1000 := by rw [hq.2.2]; exact hlt _
        have hne := z_nem1 (a := q.1) (by omega)
        obtain rfl := hx q rfl
        dsimp only at ih
        simp (disch := omega) only [lki, Option.bind_some, ↓reduceIte, if_true, if_false, zi, zj, hne, f_X4_liked_b53, f_X4_liked_b61, nI_add, nI_leI]
        by_cases c : q.2 ≤ pl k
        · rw [if_neg (show ¬ pl k < q.2 by omega)] at ih
          simp only [c, if_true]
          exact ih (nI q.2) (by omega) (by omega) (fun q' h => by cases h; rfl)
        · rw [if_pos (show pl k < q.2 by omega)] at ih
          simp only [c, if_false]
          exact ih (nI (pl k)) (by omega) (by omega) (fun q' h => by cases h; rfl)
theorem c_liked {r st no ca ct : Nat} {wo : Bool} (hr : r < 64) (hst : st < 2 ^ 31) (hno : no < 2 ^ 32) (hca : ca < 2 ^ 31) (hct : ct < 2 ^ 32) : f_X4_liked (nI r) (nI st) (nI no) (nI ca) (nI ct) (nI (if wo then 1 else 0)) = some (lki (bst (fun a => st.testBit a) (plN r ca no ct wo) 8)) := by
  unfold f_X4_liked
  rw [zi 0]
  exact c_liked_b hr hst hno hca hct 8 0 FU (nI 0) (by omega) (by unfold FU; omega) (fun q h => by cases h)
