theorem m_noises {S : Mem} {P : Pal} {n : Nat → Nat} (h : RMb S P) (hn : ∀ a, a < 8 → n (10 + a) < 16) : f_X9_noises 216 (sn S n) = some (lN (noiN P n)) := by
  unfold f_X9_noises
  rw [zj, zi]
  exact m_noises_b h hn (rms P) 0 FU (by omega) (by have := h.2.2.2.2.2.2.2.1; unfold FU; omega)
theorem cnt_lt {n : Nat → Nat} (a : Nat) : (fun a => min 9 (n (18 + a))) a < 16 := by dsimp only; omega
theorem m_counts_b {S : Mem} {P : Pal} {n : Nat → Nat} (h : RMb S P) (hn : ∀ a, a < 8 → n (18 + a) < 2 ^ 31) : ∀ (m k fu : Nat), rms P = k + m → m < fu → f_X9_counts_b4 (sn S n) fu 216 (lN (pn (fun a => min 9 (n (18 + a))) k)) (nI k) = some (lN (cntN P n)) := by
  obtain ⟨hr, h1, h2, h3, h4, h5, h6, hP⟩ := h
  obtain ⟨r4, r5, r6, r7, -⟩ := mR hr
  have hS := hr.1
  have hrm := hP.1
  intro m
  induction m with
  | zero =>
    intro k fu hk hf
    obtain ⟨fu, rfl⟩ : ∃ z, fu = z + 1 := ⟨fu - 1, by omega⟩
    rw [f_X9_counts_b4]
    simp (disch := omega) only [Option.bind_some, ↓reduceIte, if_true, if_false, zi, zj, sn_gR, sn_gI, sn_ck, sn_ldI, sn_ld, sn_st, mck, mgI, h1, nI_leI, zt_lt, zf_lt, zt_le, zf_le, zf_eq]
    rw [show k = rms P by omega]; rfl
  | succ m ih =>
    intro k fu hk hf
    obtain ⟨fu, rfl⟩ : ∃ z, fu = z + 1 := ⟨fu - 1, by omega⟩
    have hk8 := hn k (by omega)
    have e : pn (fun a => min 9 (n (18 + a))) k < 2 ^ (4 * k) := pn_lt cnt_lt k
    have ih := ih (k + 1) fu (by omega) (by omega)
    rw [pn, Nat.mul_comm, Nat.add_comm, ← zm_or e] at ih
    rw [f_X9_counts_b4]
    simp (disch := omega) only [Option.bind_some, ↓reduceIte, if_true, if_false, zi, zj, sn_gR, sn_gI, sn_ck, sn_ldI, sn_ld, sn_st, mck, mgI, h1, r7, nI_leI, nI_add, zt_lt, zf_lt, zt_le, zf_le, zf_eq, lc_le, f_X9_counts_b44, pk_mul, nI_l, zm_shl]
    by_cases q : n (18 + k) ≤ 9
    · rw [if_pos q]; rw [show min 9 (n (18 + k)) = n (18 + k) by omega] at ih; exact ih
    · rw [if_neg q]; rw [show min 9 (n (18 + k)) = 9 by omega] at ih; exact ih
theorem m_counts {S : Mem} {P : Pal} {n : Nat → Nat} (h : RMb S P) (hn : ∀ a, a < 8 → n (18 + a) < 2 ^ 31) : f_X9_counts 216 (sn S n) = some (lN (cntN P n)) := by
  unfold f_X9_counts
  rw [zj, zi]
  exact m_counts_b h hn (rms P) 0 FU (by omega) (by have := h.2.2.2.2.2.2.2.1; unfold FU; omega)
def dBi : Option Nat → Int32
  | none => -1
  | some d => nI d
theorem dB_lt {P : Pal} {a b d : Nat} : ∀ {k : Nat}, dB P a b k = some d → d < k ∧ isD P a b d = true
  | 0, h => by cases h
  | k + 1, h => by
    rw [dB] at h
    split at h
    case isTrue q => cases h; exact ⟨by omega, q⟩
    case isFalse q => have := dB_lt h; exact ⟨by omega, this.2⟩
theorem m_doorB_b {S : Mem} {P : Pal} {n : Nat → Nat} (h : RMb S P) {a b : Nat} (ha : a < 8) (hb : b < 8) : ∀ (m k fu : Nat), drs P = k + m → m < fu → f_X9_doorBetween_b5 (sn S n) fu 216 (nI a) (nI b) (dBi (dB P a b k)) (nI k) = some (dBi (dB P a b (drs P))) := by
  obtain ⟨hr, h1, h2, h3, h4, h5, h6, hP⟩ := h
  obtain ⟨r4, r5, r6, r7, -⟩ := mR hr
  have hS := hr.1
  have hrm := hP.1
  have hdm := hP.2.1
  intro m
  induction m with
  | zero =>
    intro k fu hk hf
    obtain ⟨fu, rfl⟩ : ∃ z, fu = z + 1 := ⟨fu - 1, by omega⟩
    rw [f_X9_doorBetween_b5]
    simp (disch := omega) only [Option.bind_some, ↓reduceIte, if_true, if_false, zi, zj, sn_gR, sn_gI, sn_ck, sn_ldI, sn_ld, sn_st, mck, mgI, h2, nI_leI, zt_lt, zf_lt, zt_le, zf_le, zf_eq]
    rw [show k = drs P by omega]
  | succ m ih =>
    intro k fu hk hf
    obtain ⟨fu, rfl⟩ : ∃ z, fu = z + 1 := ⟨fu - 1, by omega⟩
    have hd := hP.2.2.2.1 k (by omega)
    have e4 := h4 k (by omega)
    have e5 := h5 k (by omega)
    have ih := ih (k + 1) fu (by omega) (by omega)
    rw [f_X9_doorBetween_b5]
    simp (disch := omega) only [Option.bind_some, ↓reduceIte, if_true, if_false, zi, zj, sn_gR, sn_gI, sn_ck, sn_ldI, sn_ld, sn_st, mck, mgI, h2, r4, r5, nI_leI, nI_add, zt_le, zf_le, ld_217, ld_218, e4, e5, nI_eq, f_X9_doorBetween_b58, f_X9_doorBetween_b64, f_X9_doorBetween_b36, f_X9_doorBetween_b63]
    cases hD : isD P a b k with
    | true =>
      rw [dB, hD, if_pos rfl] at ih
      simp only [dBi] at ih
      simp only [isD, Bool.or_eq_true, Bool.and_eq_true, decide_eq_true_eq] at hD
      rcases hD with ⟨q1, q2⟩ | ⟨q3, q4⟩
      · rw [if_pos q1, if_pos q2]; exact ih
      · by_cases q1 : dfr P k = a
        · rw [if_pos q1]
          by_cases q2 : dto P k = b
          · rw [if_pos q2]; exact ih
          · rw [if_neg q2, if_pos q3, if_pos q4]; exact ih
        · rw [if_neg q1, if_pos q3, if_pos q4]; exact ih
    | false =>
      rw [dB, hD, if_neg (by decide)] at ih
      simp only [isD, Bool.or_eq_false_iff, Bool.and_eq_false_iff, decide_eq_false_iff_not] at hD
      obtain ⟨hA, hB⟩ := hD
      rw [ih]
      have inn : ∀ T : Option Int32, (if dfr P k = b then (if dto P k = a then T else some (dBi (dB P a b (drs P)))) else some (dBi (dB P a b (drs P)))) = some (dBi (dB P a b (drs P))) := by
        intro T
        by_cases q3 : dfr P k = b
        · rw [if_pos q3, if_neg (fun q4 => hB.elim (fun z => z q3) (fun z => z q4))]
        · rw [if_neg q3]
      rw [inn]
      by_cases q1 : dfr P k = a
      · rw [if_pos q1, if_neg (fun q2 => hA.elim (fun z => z q1) (fun z => z q2))]
      · rw [if_neg q1]
theorem m_doorB {S : Mem} {P : Pal} {n : Nat → Nat} (h : RMb S P) {a b : Nat} (ha : a < 8) (hb : b < 8) : f_X9_doorBetween 216 (nI a) (nI b) (sn S n) = some (dBi (dB P a b (drs P))) := by
  unfold f_X9_doorBetween
  rw [zi 0]
  exact m_doorB_b h ha hb (drs P) 0 FU (by omega) (by have := h.2.2.2.2.2.2.2.2.1; unfold FU; omega)
theorem pul_lt {r no of : Nat} {ca wo : Bool} (hr : r < 64) (hn : no < 16) (ho : of < 16) : pul r no ca of wo < 1000 := by
  unfold pul
  have h1 : r / 16 * no ≤ 3 * 15 := Nat.mul_le_mul (by omega) (by omega)
  have h2 : r % 4 * of ≤ 3 * 15 := Nat.mul_le_mul (by omega) (by omega)
  have h3 : r / 16 * no * (if wo then 2 else 1) ≤ 45 * 2 := Nat.mul_le_mul h1 (by split <;> omega)
  have h4 : (if ca then 0 else r / 4 % 4 * 3) ≤ 9 := by split <;> omega
  omega
theorem plN_lt {r ca no ct a : Nat} {wo : Bool} (hr : r < 64) : plN r ca no ct wo a < 1000 := pul_lt hr (Nat.mod_lt _ (by decide)) (Nat.mod_lt _ (by decide))
theorem bst_lt {o : Nat → Bool} {pl : Nat → Nat} {q : Nat × Nat} : ∀ {k : Nat}, bst o pl k = some q → q.1 < k ∧ o q.1 = true ∧ q.2 = pl q.1
  | 0, h => by cases h
  | k + 1, h => by
    rw [bst] at h
    split at h
    · split at h
      case isTrue q2 => cases h; exact ⟨Nat.lt_succ_self k, q2, rfl⟩
      case isFalse => cases h
    · split at h
      case isTrue q2 => cases h; simp only [Bool.and_eq_true] at q2; exact ⟨Nat.lt_succ_self k, q2.1, rfl⟩
      case isFalse _ q3 _ =>
        cases h
        have := bst_lt q3
        exact ⟨by omega, this.2⟩
def bsi (w : Nat) : Option (Nat × Nat) → Int32 × Int32
  | none => (nI w, -(nI 1))
  | some q => (nI q.1, nI q.2)
theorem m_goesTo_b {S : Mem} {P : Pal} {n : Nat → Nat} (h : RMb S P) {r w ca na br no ct : Nat} {wo : Bool} (hr : r < 64) (hw : w < 8) (hca : ca < 2 ^ 62) (hna : na < 2 ^ 62) (hbr : br < 2 ^ 62) (hno : no < 2 ^ 62) (hct : ct < 2 ^ 62) : ∀ (m k fu : Nat), rms P = k + m → m < fu →
    f_X9_goesTo_b9 (sn S n) fu 216 (nI r) (nI w) (lN ca) (lN na) (lN br) (lN no) (lN ct) (nI (if wo then 1 else 0)) (bsi w (bst (opn P w na br) (plN r ca no ct wo) k)).1 (bsi w (bst (opn P w na br) (plN r ca no ct wo) k)).2 (nI k) = some (nI (gtN P r w ca na br no ct wo)) := by
  have hB := h
  obtain ⟨hr', h1, h2, h3, h4, h5, h6, hP⟩ := h
  obtain ⟨r4, r5, r6, r7, -⟩ := mR hr'
  have hS := hr'.1
  have hrm := hP.1
  have hdm := hP.2.1
  intro m
  induction m with
  | zero =>
    intro k fu hk hf
    obtain ⟨fu, rfl⟩ : ∃ z, fu = z + 1 := ⟨fu - 1, by omega⟩
    rw [f_X9_goesTo_b9]
    simp (disch := omega) only [Option.bind_some, ↓reduceIte, if_true, if_false, zi, zj, sn_gR, sn_gI, sn_ck, sn_ldI, sn_ld, sn_st, mck, mgI, h1, nI_leI, zt_lt, zf_lt, zt_le, zf_le, zf_eq]
    rw [show k = rms P by omega, gtN]
    cases bst (opn P w na br) (plN r ca no ct wo) (rms P) <;> rfl
  | succ m ih =>
    intro k fu hk hf
    obtain ⟨fu, rfl⟩ : ∃ z, fu = z + 1 := ⟨fu - 1, by omega⟩
    have ih := ih (k + 1) fu (by omega) (by omega)
    have hdb : f_X9_doorBetween 216 (nI w) (nI k) (sn S n) = some (dBi (dB P w k (drs P))) := m_doorB hB hw (by omega)
    have hpl : f_X9_pull (nI r) (nI (no / 2 ^ (4 * k) % 16)) (nI (if ca.testBit k then 1 else 0)) (nI (ct / 2 ^ (4 * k) % 16)) (nI (if wo then 1 else 0)) = some (nI (plN r ca no ct wo k)) := m_pull hr (Nat.mod_lt _ (by decide)) (Nat.mod_lt _ (by decide))
    have hlt : ∀ a, plN r ca no ct wo a < 1000 := fun a => plN_lt hr
    generalize plN r ca no ct wo = pl at ih hpl hlt ⊢
    have ho : opn P w na br k = (match dB P w k (drs P) with | none => false | some d => !br.testBit d && !na.testBit k) := rfl
    rw [bst, ho] at ih
    rw [f_X9_goesTo_b9]
    have a15 : ∀ z, lN z &&& lN 15 = lN (z % 16) := fun z => by rw [fb_andL, and15]
    simp (disch := omega) only [Option.bind_some, ↓reduceIte, if_true, if_false, zi, zj, sn_gR, sn_gI, sn_ck, sn_ldI, sn_ld, sn_st, mck, mgI, h1, nI_leI, zt_lt, zf_lt, zt_le, zf_le, zf_eq, hdb]
    cases hd : dB P w k (drs P) with
    | none =>
      rw [hd] at ih
      simp (disch := omega) only [dBi, Option.bind_some, ↓reduceIte, if_true, if_false, zi, zj, f_X9_goesTo_b135, nI_add]
      simp only [Bool.false_and, Bool.false_eq_true, if_false] at ih
      cases hbk : bst (opn P w na br) pl k with
      | none => rw [hbk] at ih; exact ih
      | some q => rw [hbk] at ih; exact ih
    | some d =>
      have hdl := (dB_lt hd).1
      rw [hd] at ih
      have hne := z_nem1 (a := d) (by omega)
      simp (disch := omega) only [dBi, Option.bind_some, ↓reduceIte, if_true, if_false, zi, zj, hne, m_has, nI_eq]
      by_cases b1 : br.testBit d
      · simp only [b1, Bool.not_true, Bool.false_and, Bool.false_eq_true, if_false] at ih
        simp (disch := omega) only [b1, if_true, zt_lt, zf_lt, zt_le, zf_le, zf_eq, Option.bind_some, ↓reduceIte, if_true, if_false, zi, zj, f_X9_goesTo_b135, nI_add]
        cases hbk : bst (opn P w na br) pl k with
        | none => rw [hbk] at ih; exact ih
        | some q => rw [hbk] at ih; exact ih
      · by_cases b2 : na.testBit k
        · simp only [b1, b2, Bool.not_true, Bool.and_false, Bool.false_and, Bool.false_eq_true, if_false] at ih
          simp (disch := omega) only [b1, b2, if_true, zt_lt, zf_lt, zt_le, zf_le, zf_eq, Option.bind_some, ↓reduceIte, if_true, if_false, zi, zj, f_X9_goesTo_b135, nI_add, Bool.false_eq_true]
          cases hbk : bst (opn P w na br) pl k with
          | none => rw [hbk] at ih; exact ih
          | some q => rw [hbk] at ih; exact ih
        · simp only [b1, b2, Bool.not_false, Bool.and_true, Bool.true_and, if_true, decide_eq_true_eq] at ih
          simp (disch := omega) only [b1, b2, zt_lt, zf_lt, zt_le, zf_le, zf_eq, Option.bind_some, ↓reduceIte, if_true, if_false, zi, zj, Bool.false_eq_true, pk_mul, nI_l, zm_shr, a15, lN_i, hpl]
          cases hbk : bst (opn P w na br) pl k with
          | none =>
            rw [hbk] at ih
            simp (disch := omega) only [bsi, Option.bind_some, ↓reduceIte, if_true, if_false, zi, zj, f_X9_goesTo_b104, f_X9_goesTo_b111, f_X9_goesTo_b126, f_X9_goesTo_b133, f_X9_goesTo_b135, nI_add]
            exact ih
          | some q =>
            rw [hbk] at ih
            have hq := bst_lt hbk
            have hq2 : q.2 < 1000 := by rw [hq.2.2]; exact hlt _
            have hk2 := hlt k
            have hne := z_nem1 (a := q.2) (by omega)
            dsimp only at ih
            simp (disch := omega) only [bsi, Option.bind_some, ↓reduceIte, if_true, if_false, zi, zj, hne, f_X9_goesTo_b104, f_X9_goesTo_b111, f_X9_goesTo_b126, f_X9_goesTo_b133, f_X9_goesTo_b135, nI_add, nI_leI]
            by_cases c : q.2 ≤ pl k
            · rw [if_neg (show ¬ pl k < q.2 by omega)] at ih
              simp only [c, if_true]
              exact ih
            · rw [if_pos (show pl k < q.2 by omega)] at ih
              simp only [c, if_false]
              exact ih
theorem m_goesTo {S : Mem} {P : Pal} {n : Nat → Nat} (h : RMb S P) {r w ca na br no ct : Nat} {wo : Bool} (hr : r < 64) (hw : w < 8) (hca : ca < 2 ^ 62) (hna : na < 2 ^ 62) (hbr : br < 2 ^ 62) (hno : no < 2 ^ 62) (hct : ct < 2 ^ 62) :
    f_X9_goesTo 216 (nI r) (nI w) (lN ca) (lN na) (lN br) (lN no) (lN ct) (nI (if wo then 1 else 0)) (sn S n) = some (nI (gtN P r w ca na br no ct wo)) := by
  unfold f_X9_goesTo
  rw [zi 0]
  exact m_goesTo_b h hr hw hca hna hbr hno hct (rms P) 0 FU (by omega) (by have := h.2.2.2.2.2.2.2.1; unfold FU; omega)
