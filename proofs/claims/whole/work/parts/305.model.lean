/-! the reference over a state n: its row 'now' is n, all else is S -/
def sn (S : Mem) (n : Nat → Nat) : Mem := rowJ S 220 (LL n)
def RMb (S : Mem) (P : Pal) : Prop := rfM S ∧ S.2.1 216 1 = nI (rms P) ∧ S.2.1 216 2 = nI (drs P) ∧ S.2.1 216 3 = nI (pts P) ∧ (∀ d, d < drs P → S.2.1 217 d = nI (dfr P d)) ∧ (∀ d, d < drs P → S.2.1 218 d = nI (dto P d)) ∧ (∀ p, p < pts P → S.2.1 219 p = nI (wor P p)) ∧ wfP P
theorem sn_gR {S : Mem} {n : Nat → Nat} (k : Nat) : gR 9 k (sn S n) 216 = gR 9 k S 216 := rfl
theorem sn_gI {S : Mem} {n : Nat → Nat} (k : Nat) : gI 9 k (sn S n) 216 = gI 9 k S 216 := rfl
theorem sn_ck {S : Mem} {n : Nat → Nat} : ck 9 (sn S n) 216 = ck 9 S 216 := rfl
theorem sn_ldI {S : Mem} {n : Nat → Nat} (a : Nat) (i : Int32) : ldI (sn S n) a i = ldI S a i := rfl
theorem sn_ld {S : Mem} {n : Nat → Nat} (h : S.1 = 233) {k : Nat} (hk : k < 80) : ldJ (sn S n) 220 (nI k) = some (lN (n k)) := by
  rw [ld_220 (S := sn S n) h hk]; rfl
theorem sn_st {S : Mem} {n : Nat → Nat} (h : S.1 = 233) {k : Nat} (hk : k < 80) (v : Nat) : stJ (sn S n) 220 (nI k) (lN v) = some (sn S (va_up n k v)) := by
  rw [st_220 (S := sn S n) h hk]
  show some (rowJ (rowJ S 220 (LL n)) 220 (vp_updL ((rowJ S 220 (LL n)).2.2.1 220) k (lN v))) = _
  rw [rJJ, rJ3, if_pos rfl, LL_up]
  rfl
theorem sn_self {S : Mem} {n : Nat → Nat} (h : S.2.2.1 220 = LL n) : sn S n = S := by
  unfold sn; rw [← h]; exact rJ_same
theorem up_at {f : Nat → Nat} {k v j : Nat} : va_up f k v j = if j = k then v else f j := rfl
theorem m_at {S : Mem} {n : Nat → Nat} (h : rfM S) {k : Nat} (hk : k < 80) : f_X9_at 216 (nI k) (sn S n) = some (nI (n k)) := by
  obtain ⟨r4, r5, r6, r7, -⟩ := mR h
  have hS := h.1
  unfold f_X9_at
  simp (disch := omega) only [Option.bind_some, ↓reduceIte, if_true, if_false, zi, zj, sn_gR, sn_gI, sn_ck, sn_ldI, sn_ld, sn_st, mck, mgI, r7, lN_i]
theorem m_has {s k : Nat} (hs : s < 2 ^ 62) (hk : k < 64) : f_X9_has (lN s) (nI k) = some (nI (if s.testBit k then 1 else 0)) := by
  unfold f_X9_has
  rw [zl_shr hs hk, fa_litL, fb_andL, bit01, fa_lit, fa_lit]
  by_cases h : s.testBit k
  · simp only [h, if_true]
    rw [if_pos ((lc_eq (by omega) (by omega)).mpr rfl)]
  · simp only [h, if_false, Bool.false_eq_true]
    rw [if_neg (fun q => by have := (lc_eq (by omega) (by omega)).mp q; omega)]
theorem m_isWorn {S : Mem} {n : Nat → Nat} (h : rfM S) (hw : n 3 < 2 ^ 31) : f_X9_isWorn 216 (sn S n) = some (nI (if wornN n then 1 else 0)) := by
  obtain ⟨r4, r5, r6, r7, -⟩ := mR h
  have hS := h.1
  unfold f_X9_isWorn wornN
  simp (disch := omega) only [Option.bind_some, ↓reduceIte, if_true, if_false, zi, zj, sn_gR, sn_gI, sn_ck, sn_ldI, sn_ld, sn_st, mck, mgI, r7, lc_lt]
  by_cases q : 50 ≤ n 3
  · rw [if_neg (by omega)]; simp [q]
  · rw [if_pos (by omega)]; simp [q]
theorem m_noises_b {S : Mem} {P : Pal} {n : Nat → Nat} (h : RMb S P) (hn : ∀ a, a < 8 → n (10 + a) < 16) : ∀ (m k fu : Nat), rms P = k + m → m < fu → f_X9_noises_b4 (sn S n) fu 216 (lN (pn (fun a => n (10 + a)) k)) (nI k) = some (lN (noiN P n)) := by
  obtain ⟨hr, h1, h2, h3, h4, h5, h6, hP⟩ := h
  obtain ⟨r4, r5, r6, r7, -⟩ := mR hr
  have hS := hr.1
  have hrm := hP.1
  intro m
  induction m with
  | zero =>
    intro k fu hk hf
    obtain ⟨fu, rfl⟩ : ∃ z, fu = z + 1 := ⟨fu - 1, by omega⟩
    rw [f_X9_noises_b4]
    simp (disch := omega) only [Option.bind_some, ↓reduceIte, if_true, if_false, zi, zj, sn_gR, sn_gI, sn_ck, sn_ldI, sn_ld, sn_st, mck, mgI, h1, nI_leI, zt_lt, zf_lt, zt_le, zf_le, zf_eq]
    rw [show k = rms P by omega]; rfl
  | succ m ih =>
    intro k fu hk hf
    obtain ⟨fu, rfl⟩ : ∃ z, fu = z + 1 := ⟨fu - 1, by omega⟩
    rw [f_X9_noises_b4]
    simp (disch := omega) only [Option.bind_some, ↓reduceIte, if_true, if_false, zi, zj, sn_gR, sn_gI, sn_ck, sn_ldI, sn_ld, sn_st, mck, mgI, h1, r7, nI_leI, nI_add, zt_lt, zf_lt, zt_le, zf_le, zf_eq, pk_mul, nI_l, zm_shl]
    have e : pn (fun a => n (10 + a)) k < 2 ^ (4 * k) := by
      have hg : ∀ a, (fun a => if a < 8 then n (10 + a) else 0) a < 16 := by
        intro a; dsimp only; split
        · exact hn a (by assumption)
        · decide
      rw [pn_congr k (fun a ha => show n (10 + a) = (fun a => if a < 8 then n (10 + a) else 0) a by simp [show a < 8 by omega])]
      exact pn_lt hg k
    rw [zm_or e, Nat.add_comm, Nat.mul_comm]
    exact ih (k + 1) fu (by omega) (by omega)
theorem m_pull {r no of : Nat} {ca wo : Bool} (hr : r < 64) (hn : no < 16) (ho : of < 16) : f_X9_pull (nI r) (nI no) (nI (if ca then 1 else 0)) (nI of) (nI (if wo then 1 else 0)) = some (nI (pul r no ca of wo)) := by
  unfold f_X9_pull f_X9_pull_b32 f_X9_pull_b45 pul
  have e1 : nI r / nI 16 = nI (r / 16) := pk_div (by omega) (by omega) (by omega)
  have e2 : nI r / nI 4 = nI (r / 4) := pk_div (by omega) (by omega) (by omega)
  have e3 : irI (nI (r / 4)) (nI 4) = nI (r / 4 % 4) := z_rem (by omega) (by omega) (by omega)
  have e4 : irI (nI r) (nI 4) = nI (r % 4) := z_rem (by omega) (by omega) (by omega)
  cases ca <;> cases wo <;> simp (disch := omega) only [Option.bind_some, ↓reduceIte, if_true, if_false, zi, zj, e1, e2, e3, e4, nI_eq, pk_mul, nI_add, Bool.false_eq_true, Nat.reduceEqDiff, Nat.mul_one, Nat.add_zero, Nat.one_ne_zero]
