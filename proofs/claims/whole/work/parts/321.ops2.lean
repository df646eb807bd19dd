theorem in_gen (u v w : Int64) : f_X9_in u v w = some (nI (if v ≤ u ∧ u ≤ w then 1 else 0)) := by
  unfold f_X9_in
  have h1 : lg_cmp u v < (0 : Int32) ↔ ¬ v ≤ u := by
    have := lg_cmp_ge u v
    rw [← this]
    rw [Int32.lt_iff_toInt_lt, Int32.le_iff_toInt_le]
    omega
  have h2 : (0 : Int32) < lg_cmp u w ↔ ¬ u ≤ w := by
    unfold lg_cmp
    rw [Int64.le_iff_toInt_le]
    by_cases q : u > w
    · rw [if_pos q]
      have := Int64.lt_iff_toInt_lt.mp q
      exact ⟨fun _ => by omega, fun _ => by decide⟩
    · rw [if_neg q]
      have q' : ¬ w.toInt < u.toInt := fun z => q (Int64.lt_iff_toInt_lt.mpr z)
      refine ⟨fun z => ?_, fun z => absurd (by omega) z⟩
      split at z <;> exact absurd z (by decide)
  by_cases a : v ≤ u
  · rw [if_neg (fun z => (h1.mp z) a)]
    by_cases b : u ≤ w
    · rw [if_neg (fun z => (h2.mp z) b), if_pos ⟨a, b⟩]; rfl
    · rw [if_pos (h2.mpr b), if_neg (fun z => b z.2)]; rfl
  · rw [if_pos (h1.mpr a), if_neg (fun z => a z.1)]; rfl
theorem t64 (x : Int32) : x.toInt64.toInt = x.toInt := by simp
theorem lNt {n : Nat} (h : n < 2 ^ 62) : (lN n).toInt = n := pk_lT (by omega)
theorem neg_t {x : Int32} (h : x < 0) : x.toInt < 0 := by
  have := Int32.lt_iff_toInt_lt.mp h
  simpa using this
theorem big_t {x : Int32} {r : Nat} (hr : r < 2 ^ 31) (h : nI r ≤ x) : (r : Int) ≤ x.toInt := by
  have := Int32.le_iff_toInt_le.mp h
  rwa [nI_toInt hr] at this
theorem pm1 {r : Nat} (hr : r < 2 ^ 20) : (nI r - (1 : Int32)).toInt64.toInt = (r : Int) - 1 := by
  rw [t64, zi 1, pk_sub_toInt (by omega) (by omega)]; rfl
theorem in_r0 {x : Int32} {r : Nat} (hr : r < 2 ^ 20) (h : x < 0 ∨ nI r ≤ x) : f_X9_in x.toInt64 (0 : Int64) ((nI r - (1 : Int32)).toInt64) = some (nI 0) := by
  rw [in_gen, if_neg]
  rintro ⟨h1, h2⟩
  rw [Int64.le_iff_toInt_le, t64] at h1 h2
  rw [pm1 hr] at h2
  rcases h with h | h
  · have := neg_t h; simp at h1; omega
  · have := big_t (by omega) h; omega
theorem in_r1 {j r : Nat} (hr : r < 2 ^ 20) (h : j < r) : f_X9_in (nI j).toInt64 (0 : Int64) ((nI r - (1 : Int32)).toInt64) = some (nI 1) := by
  rw [in_gen, if_pos]
  rw [Int64.le_iff_toInt_le, Int64.le_iff_toInt_le, t64, pm1 hr, nI_toInt (by omega)]
  refine ⟨by simp, by omega⟩
theorem in_k0 {x : Int32} {a b : Nat} (ha : a < 2 ^ 31) (hb : b < 2 ^ 31) (h : x < 0 ∨ nI b < x) : f_X9_in x.toInt64 (lN a) (lN b) = some (nI 0) := by
  rw [in_gen, if_neg]
  rintro ⟨h1, h2⟩
  rw [Int64.le_iff_toInt_le, t64] at h1 h2
  rw [lNt (by omega)] at h1 h2
  rcases h with h | h
  · have := neg_t h; omega
  · have := Int32.lt_iff_toInt_lt.mp h; rw [nI_toInt hb] at this; omega
theorem in_kj {j a b : Nat} (ha : a < 2 ^ 31) (hb : b < 2 ^ 31) (hj : j < 2 ^ 31) : f_X9_in (nI j).toInt64 (lN a) (lN b) = some (nI (if a ≤ j ∧ j ≤ b then 1 else 0)) := by
  rw [in_gen]
  have e : (lN a ≤ (nI j).toInt64 ∧ (nI j).toInt64 ≤ lN b) ↔ (a ≤ j ∧ j ≤ b) := by
    rw [Int64.le_iff_toInt_le, Int64.le_iff_toInt_le, t64, lNt (by omega), lNt (by omega), nI_toInt hj]
    omega
  by_cases h : a ≤ j ∧ j ≤ b
  · rw [if_pos h, if_pos (e.mpr h)]
  · rw [if_neg h, if_neg (fun z => h (e.mp z))]
theorem zok0 : zok (nI 0) = some (nI 0) := rfl
theorem zok1 : zok (nI 1) = some (nI 1) := rfl
/-- x is no number below r, or it is one -/
theorem tri (x : Int32) {r : Nat} (hr : r < 2 ^ 31) : (x < 0 ∨ nI r ≤ x) ∨ ∃ j, j < r ∧ x = nI j := by
  rcases pk_ix x hr with h | h | h
  · exact Or.inl (Or.inl h)
  · exact Or.inl (Or.inr h)
  · exact Or.inr h
theorem m_isRoom0 {S : Mem} {P : Pal} {x : Int32} (h : S.1 = 233) (h1 : S.2.1 216 1 = nI (rms P)) (hr : rms P ≤ 8) (hx : x < 0 ∨ nI (rms P) ≤ x) : f_X9_isRoom 216 x S = some (nI 0) := by
  unfold f_X9_isRoom
  rw [mgI h, h1, Option.bind_some, in_r0 (by omega) hx, Option.bind_some, zok0, Option.bind_some]
theorem m_isRoom1 {S : Mem} {P : Pal} {j : Nat} (h : S.1 = 233) (h1 : S.2.1 216 1 = nI (rms P)) (hr : rms P ≤ 8) (hx : j < rms P) : f_X9_isRoom 216 (nI j) S = some (nI 1) := by
  unfold f_X9_isRoom
  rw [mgI h, h1, Option.bind_some, in_r1 (by omega) hx, Option.bind_some, zok1, Option.bind_some]
theorem m_isPet0 {S : Mem} {P : Pal} {x : Int32} (h : S.1 = 233) (h1 : S.2.1 216 3 = nI (pts P)) (hr : pts P ≤ 6) (hx : x < 0 ∨ nI (pts P) ≤ x) : f_X9_isPetition 216 x S = some (nI 0) := by
  unfold f_X9_isPetition
  rw [mgI h, h1, Option.bind_some, in_r0 (by omega) hx, Option.bind_some, zok0, Option.bind_some]
theorem m_isPet1 {S : Mem} {P : Pal} {j : Nat} (h : S.1 = 233) (h1 : S.2.1 216 3 = nI (pts P)) (hr : pts P ≤ 6) (hx : j < pts P) : f_X9_isPetition 216 (nI j) S = some (nI 1) := by
  unfold f_X9_isPetition
  rw [mgI h, h1, Option.bind_some, in_r1 (by omega) hx, Option.bind_some, zok1, Option.bind_some]
theorem c_noRoom1 {S : Mem} {p : Nat} {P : Pal} {x : Int32} (hR : rfC S p) (h1 : S.2.1 p 2 = nI (rms P)) (hr : rms P ≤ 8) (hx : x < 0 ∨ nI (rms P) ≤ x) : f_X8_isNoRoom 0 x S = some (nI 1) := by
  unfold f_X8_isNoRoom f_X8_isNoRoom_b15
  by_cases h : x < 0
  · rw [if_pos h]; rfl
  · rw [if_neg h, r_0_1 hR, Option.bind_some, g_p hR.1 hR.2.1, h1, Option.bind_some]
    have : nI (rms P) ≤ x := hx.resolve_left h
    rw [if_neg (fun z => by
      have a := Int32.lt_iff_toInt_lt.mp z
      have b := Int32.le_iff_toInt_le.mp this
      omega)]
    rfl
theorem c_noRoom0 {S : Mem} {p j : Nat} {P : Pal} (hR : rfC S p) (h1 : S.2.1 p 2 = nI (rms P)) (hr : rms P ≤ 8) (hx : j < rms P) : f_X8_isNoRoom 0 (nI j) S = some (nI 0) := by
  unfold f_X8_isNoRoom
  rw [if_neg (nI_pos (by omega)), r_0_1 hR, Option.bind_some, g_p hR.1 hR.2.1, h1, Option.bind_some, if_pos ((nI_ltI (by omega) (by omega)).mpr hx)]
  rfl
theorem c_noPet1 {S : Mem} {p : Nat} {P : Pal} {x : Int32} (hR : rfC S p) (h1 : S.2.1 p 4 = nI (pts P)) (hr : pts P ≤ 6) (hx : x < 0 ∨ nI (pts P) ≤ x) : f_X8_isNoPetition 0 x S = some (nI 1) := by
  unfold f_X8_isNoPetition f_X8_isNoPetition_b15
  by_cases h : x < 0
  · rw [if_pos h]; rfl
  · rw [if_neg h, r_0_1 hR, Option.bind_some, g_p hR.1 hR.2.1, h1, Option.bind_some]
    have : nI (pts P) ≤ x := hx.resolve_left h
    rw [if_neg (fun z => by
      have a := Int32.lt_iff_toInt_lt.mp z
      have b := Int32.le_iff_toInt_le.mp this
      omega)]
    rfl
theorem c_noPet0 {S : Mem} {p j : Nat} {P : Pal} (hR : rfC S p) (h1 : S.2.1 p 4 = nI (pts P)) (hr : pts P ≤ 6) (hx : j < pts P) : f_X8_isNoPetition 0 (nI j) S = some (nI 0) := by
  unfold f_X8_isNoPetition
  rw [if_neg (nI_pos (by omega)), r_0_1 hR, Option.bind_some, g_p hR.1 hR.2.1, h1, Option.bind_some, if_pos ((nI_ltI (by omega) (by omega)).mpr hx)]
  rfl
theorem m_beside_b {S : Mem} {P : Pal} {n : Nat → Nat} (h : RMb S P) {hh a : Nat} (hw : wfN P hh n) (ha : a < 8) : ∀ (m k fu : Nat), rms P = k + m → m < fu → f_X9_beside_b4 (sn S n) fu 216 (nI a) (nI (sto (opd P a (n 6)) k)) (nI k) = some (nI (sto (opd P a (n 6)) (rms P))) := by
  have hP := h.2.2.2.2.2.2.2
  obtain ⟨w0, w1, w2, w3, w4, w5, w6, w7, w8, w9, wn, wg, wc⟩ := wfb hP hw
  obtain ⟨r4, r5, r6, r7, -⟩ := mR h.1
  have hS := h.1.1
  have h1 := h.2.1
  have hr8 := hP.1
  have hd12 := hP.2.1
  intro m
  induction m with
  | zero =>
    intro k fu hk hf
    obtain ⟨fu, rfl⟩ : ∃ z, fu = z + 1 := ⟨fu - 1, by omega⟩
    rw [f_X9_beside_b4]
    simp (disch := omega) only [Option.bind_some, ↓reduceIte, if_true, if_false, zi, zj, sn_gR, sn_gI, sn_ck, sn_ldI, sn_ld, sn_st, mck, mgI, h1, nI_leI, zt_lt, zf_lt, zt_le, zf_le, zf_eq]
    rw [show k = rms P by omega]
  | succ m ih =>
    intro k fu hk hf
    obtain ⟨fu, rfl⟩ : ∃ z, fu = z + 1 := ⟨fu - 1, by omega⟩
    have ih := ih (k + 1) fu (by omega) (by omega)
    have hdb : f_X9_doorBetween 216 (nI a) (nI k) (sn S n) = some (dBi (dB P a k (drs P))) := m_doorB h ha (by omega)
    have hsl := sto_lt (opd P a (n 6)) k
    have key : ∀ b : Bool, opd P a (n 6) k = b → nI (sto (opd P a (n 6)) k) ||| nI (if b then 1 * 2 ^ k else 0) = nI (sto (opd P a (n 6)) (k + 1)) := by
      intro b hb
      rw [sto, hb]
      cases b
      · rw [if_neg (by decide), if_neg (by decide), z_or, Nat.or_zero, Nat.mul_zero, Nat.zero_add]
      · rw [if_pos rfl, if_pos rfl, z_orS hsl]
        congr 1
        omega
    rw [f_X9_beside_b4]
    simp (disch := omega) only [Option.bind_some, ↓reduceIte, if_true, if_false, zi, zj, sn_gR, sn_gI, sn_ck, sn_ldI, sn_ld, sn_st, mck, mgI, h1, r7, nI_leI, zt_lt, zf_lt, zt_le, zf_le, zf_eq, hdb]
    cases hd : dB P a k (drs P) with
    | none =>
      have ho : opd P a (n 6) k = false := by unfold opd; rw [hd]
      have kk := key false ho
      simp only [Bool.false_eq_true, if_false] at kk
      simp only [dBi, if_true, f_X9_beside_b48, f_X9_beside_b49, Option.bind_some, ↓reduceIte, if_true, if_false, zi, zj, kk, nI_add]
      exact ih
    | some d =>
      have hdl := (dB_lt hd).1
      have hne := z_nem1 (a := d) (by omega)
      have ho : opd P a (n 6) k = !(n 6).testBit d := by unfold opd; rw [hd]
      simp (disch := omega) only [dBi, Option.bind_some, ↓reduceIte, if_true, if_false, zi, zj, hne, m_has, nI_eq]
      by_cases b1 : (n 6).testBit d
      · have kk := key false (by rw [ho, b1]; rfl)
        simp only [Bool.false_eq_true, if_false] at kk
        simp only [b1, if_true, Nat.one_ne_zero, if_false, f_X9_beside_b48, f_X9_beside_b49, Option.bind_some, ↓reduceIte, if_true, if_false, zi, zj, kk, nI_add]
        exact ih
      · have b2 : (n 6).testBit d = false := by simpa using b1
        have kk := key true (by rw [ho, b2]; rfl)
        simp only [if_true] at kk
        simp (disch := omega) only [b2, Bool.false_eq_true, if_false, if_true, f_X9_beside_b49, Option.bind_some, ↓reduceIte, if_true, if_false, zi, zj, zn_shl, kk, nI_add]
        exact ih
theorem m_beside {S : Mem} {P : Pal} {n : Nat → Nat} (h : RMb S P) {hh a : Nat} (hw : wfN P hh n) (ha : a < 8) : f_X9_beside 216 (nI a) (sn S n) = some (nI (bes P (n 6) a)) := by
  have hP := h.2.2.2.2.2.2.2
  have hr := hP.1
  have e : bes P (n 6) a = sto (opd P a (n 6)) (rms P) := by
    apply Nat.eq_of_testBit_eq
    intro i
    unfold bes
    rw [sto_bit, sto_bit]
    cases ho : opd P a (n 6) i with
    | false => simp
    | true => have := (opd_rm hP ho).1; simp [this, show i < 8 by omega]
  unfold f_X9_beside
  rw [zi 0, e]
  exact m_beside_b h hw ha (rms P) 0 FU (by omega) (by unfold FU; omega)
