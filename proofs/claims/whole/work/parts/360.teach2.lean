/-! teachFor: the model -/
theorem m_gs_b {M : Mem} {p w L r : Nat} {P : Pal} {n : Nat → Nat} (hM : RMb M P) (hR : rfC M p) (hw : wfN P 9060 n) (h0 : 0 < rms P) (h4 : ∀ k, k < 80 → M.2.2.1 224 k = lN (n k)) (hL : L ≤ 8) (hr : r < 64) (hG : ∀ i, i < L → M.2.1 228 i = nI (fig w (L - 1 - i) - 1)) (hok : ∀ i, i < L → 1 ≤ fig w i) :
    ∀ m k fu, L = k + m → m < fu → f_X9_goesSo_b13 fu 216 (nI L) (nI (if alb (gsq P n w L r) k then 1 else 0)) (nI k) (sn M (gonN P k (va_up n 0 r))) = some (nI (if gsN P n w L r then 1 else 0), sn M n) := by
  have hP := hM.2.2.2.2.2.2.2
  have hr8 := hP.1
  have hw' : wfN P 9060 (va_up n 0 r) := wu_0 hw hr
  have zk : ∀ b : Bool, zok (nI (if b then 1 else 0)) = some (nI (if b then 1 else 0)) := fun b => by cases b <;> rfl
  have hbk : ∀ (b : Bool) i, f_X9_goesSo_b54 216 (nI (if b then 1 else 0)) (sn M (gonN P i (va_up n 0 r))) = some (nI (if b then 1 else 0), sn M n) := fun b i => by
    unfold f_X9_goesSo_b54
    refine bs (mck (by exact hR.1)) (bs (q_back hR h4 (fun k hk => ?_)) (bs (zk b) rfl))
    rw [gon_hi hP h0 hw' hk i, up_at, if_neg (by omega)]
  intro m
  induction m with
  | zero =>
    intro k fu hk hf
    obtain ⟨fu, rfl⟩ : ∃ z, fu = z + 1 := ⟨fu - 1, by omega⟩
    rw [f_X9_goesSo_b13]
    refine bp (nI_le (by omega) (by omega)) ?_
    rw [hbk]
    unfold gsN
    rw [show k = L by omega]
  | succ m ih =>
    intro k fu hk hf
    obtain ⟨fu, rfl⟩ : ∃ z, fu = z + 1 := ⟨fu - 1, by omega⟩
    have ih := ih (k + 1) fu (by omega) (by omega)
    rw [f_X9_goesSo_b13]
    refine bn (nI_ge (by omega) (by omega)) ?_
    cases e : alb (gsq P n w L r) k with
    | false =>
      refine bp nI00 ?_
      have : gsN P n w L r = false := alb_f e (by omega)
      rw [this]; exact hbk false k
    | true =>
      have h2 := gon_2 hP h0 hw' (k + 1)
      have ea : f_X9_at 216 (nI 2) (sn M (gonN P (k + 1) (va_up n 0 r))) = some (nI (gonN P (k + 1) (va_up n 0 r) 2)) := m_at hM.1 (by decide)
      have el : ldI (sn M (gonN P (k + 1) (va_up n 0 r))) 228 (nI k) = some (nI (fig w (L - 1 - k) - 1)) := by
        rw [ld_228 (by exact hR.1) (by omega)]
        exact congrArg some (hG k (by omega))
      have hf1 := hok (L - 1 - k) (by omega)
      have hfl : fig w (L - 1 - k) < 10 := Nat.mod_lt _ (by decide)
      have hqk : gsq P n w L r k = decide (gonN P (k + 1) (va_up n 0 r) 2 + 1 = fig w (L - 1 - k)) := rfl
      refine bn nI10 (bs (mck (by exact hR.1)) (bs (m_try hM hw' h0 (by omega)) (bs (mck (by exact hR.1)) (bs ea (bs (R_21 (rfC_e hR rfl rfl)) (bs el ?_))))))
      unfold f_X9_goesSo_b47
      rw [alb, e, hqk, Bool.true_and] at ih
      by_cases z : gonN P (k + 1) (va_up n 0 r) 2 + 1 = fig w (L - 1 - k)
      · rw [decide_eq_true z] at ih
        refine bp (by rw [show gonN P (k + 1) (va_up n 0 r) 2 = fig w (L - 1 - k) - 1 by omega]) ?_
        rw [Option.bind_some, nI_1]; exact ih
      · rw [decide_eq_false z] at ih
        refine bn (fun y => z (by have := (nI_eq (by omega) (by omega)).mp y; omega)) ?_
        rw [Option.bind_some, nI_1]; exact ih
theorem m_gs {M : Mem} {p w L r : Nat} {P : Pal} {n : Nat → Nat} (hM : RMb M P) (hR : rfC M p) (hn : M.2.2.1 220 = LL n) (hw : wfN P 9060 n) (h0 : 0 < rms P) (h4 : ∀ k, k < 80 → M.2.2.1 224 k = lN (n k)) (hL : L ≤ 8) (hr : r < 64) (hG : ∀ i, i < L → M.2.1 228 i = nI (fig w (L - 1 - i) - 1)) (hok : ∀ i, i < L → 1 ≤ fig w i) :
    f_X9_goesSo 216 (nI r) (nI L) M = some (nI (if gsN P n w L r then 1 else 0), M) := by
  have es : sn M n = M := sn_self hn
  have := m_gs_b hM hR hw h0 h4 hL hr hG hok L 0 FU (by omega) (by unfold FU; omega)
  rw [es] at this
  have st := sn_st (S := M) (n := n) hR.1 (k := 0) (by decide) r
  rw [es] at st
  unfold f_X9_goesSo
  refine bs (R_7 hR) (bs (a := sn M (va_up n 0 r)) ?_ this)
  rw [nI_l (by omega)]; exact st
theorem m_tf_b {M : Mem} {p w L : Nat} {P : Pal} {n : Nat → Nat} (hM : RMb M P) (hR : rfC M p) (hn : M.2.2.1 220 = LL n) (hw : wfN P 9060 n) (h0 : 0 < rms P) (h4 : ∀ k, k < 80 → M.2.2.1 224 k = lN (n k)) (hL : L ≤ 8) (hG : ∀ i, i < L → M.2.1 228 i = nI (fig w (L - 1 - i) - 1)) (hok : ∀ i, i < L → 1 ≤ fig w i) :
    ∀ m k fu, 64 = k + m → m < fu → f_X9_teachFor_b112 fu 216 (nI L) (dBi (crg (fun r => dff r (n 0)) (gsN P n w L) k)) (nI k) M = some (dBi (crg (fun r => dff r (n 0)) (gsN P n w L) 64), M) := by
  have hP := hM.2.2.2.2.2.2.2
  have w0 := (wfb hP hw).1
  have ea : f_X9_at 216 (0 : Int32) M = some (nI (n 0)) := at_ hM.1 hn (k := 0) (by decide)
  intro m
  induction m with
  | zero =>
    intro k fu hk hf
    obtain ⟨fu, rfl⟩ : ∃ z, fu = z + 1 := ⟨fu - 1, by omega⟩
    rw [f_X9_teachFor_b112]
    exact bp (nI_le (a := 64) (by omega) (by omega)) (by rw [show k = 64 by omega])
  | succ m ih =>
    intro k fu hk hf
    obtain ⟨fu, rfl⟩ : ∃ z, fu = z + 1 := ⟨fu - 1, by omega⟩
    have ih := ih (k + 1) fu (by omega) (by omega)
    have hg := m_gs hM hR hn hw h0 h4 hL (r := k) (by omega) hG hok
    have hdk := dff_lt (r := k) (t := n 0) (by omega) w0
    have hc : crg (fun r => dff r (n 0)) (gsN P n w L) (k + 1) = match crg (fun r => dff r (n 0)) (gsN P n w L) k with
      | none => if gsN P n w L k then some k else none
      | some b => if dff k (n 0) < dff b (n 0) ∧ gsN P n w L k = true then some k else some b := rfl
    have h177 : ∀ o, crg (fun r => dff r (n 0)) (gsN P n w L) (k + 1) = o → f_X9_teachFor_b177 (fun a0 x2 x4 x5 S => f_X9_teachFor_b112 fu a0 x2 x4 x5 S) 216 (nI L) (nI k) (dBi o) M = some (dBi (crg (fun r => dff r (n 0)) (gsN P n w L) 64), M) := by
      intro o ho
      unfold f_X9_teachFor_b177
      rw [Option.bind_some, nI_1, ← ho]; exact ih
    have h148 : ∀ o, crg (fun r => dff r (n 0)) (gsN P n w L) (k + 1) = (if gsN P n w L k then some k else o) → f_X9_teachFor_b148 (fun a0 x2 x4 x5 S => f_X9_teachFor_b112 fu a0 x2 x4 x5 S) 216 (nI L) (dBi o) (nI k) M = some (dBi (crg (fun r => dff r (n 0)) (gsN P n w L) 64), M) := by
      intro o ho
      unfold f_X9_teachFor_b148 f_X9_teachFor_b153 f_X9_teachFor_b175
      refine bn (by decide) (bs (mck hR.1) (bs hg ?_))
      cases q : gsN P n w L k with
      | true => rw [q] at ho; exact bn nI10 (h177 (some k) ho)
      | false => rw [q] at ho; exact bp rfl (h177 o ho)
    rw [f_X9_teachFor_b112]
    refine bn (nI_ge (b := 64) (by omega) (by omega)) ?_
    cases e : crg (fun r => dff r (n 0)) (gsN P n w L) k with
    | none =>
      rw [e] at hc
      exact bp rfl (h148 none hc)
    | some b =>
      have hb := crg_lt e
      rw [e] at hc
      dsimp only at hc
      have hdb := dff_lt (r := b) (t := n 0) (by omega) w0
      refine bn (dbi_ne (by omega)) (bs (mck hR.1) (bs ea (bs (m_differ k (by omega) (n 0) w0) (bs (mck hR.1) (bs ea (bs (m_differ b (by omega) (n 0) w0) ?_))))))
      by_cases q : dff k (n 0) < dff b (n 0)
      · refine bn (nI_ge q (by omega)) (h148 (some b) ?_)
        rw [hc]; cases gsN P n w L k <;> simp [q]
      · rw [if_neg (fun z => q z.1)] at hc
        refine bp (nI_le (by omega) (by omega)) ?_
        unfold f_X9_teachFor_b153 f_X9_teachFor_b175
        exact bp rfl (h177 (some b) hc)
theorem y_st {S : Mem} {G : Nat → Int32} (h : S.1 = 233) {k : Nat} (hk : k < 8) (v : Int32) : stI (rowI S 228 G) 228 (nI k) v = some (rowI S 228 (upd G k v)) := by
  rw [st_228 (by exact h) hk, row_s, rII]
theorem m_pth_b {S : Mem} {p w L : Nat} {P : Pal} (hR : rfC S p) (hM : RMb S P) (hL : dgL w L) :
    ∀ m fu G, m ≤ L → m < fu → (∀ i, i < L - m → G i = nI (fig w (L - 1 - i) - 1)) →
    (alb (okF P w) m = false → ∃ G', f_X9_teachFor_b57 fu 216 (nI w) (nI (L - m)) (nI (10 ^ m / 10)) (rowI S 228 G) = some ((-1000000002 : Int32), rowI S 228 G')) ∧
    (alb (okF P w) m = true → ∃ G', (∀ i, i < L → G' i = nI (fig w (L - 1 - i) - 1)) ∧ f_X9_teachFor_b57 fu 216 (nI w) (nI (L - m)) (nI (10 ^ m / 10)) (rowI S 228 G) = (f_X9_asides 216 (rowI S 228 G')).bind fun S4 => f_X9_teachFor_b112 FU 216 (nI L) (-1 : Int32) (0 : Int32) S4) := by
  have hS := hR.1
  have hr8 := hM.2.2.2.2.2.2.2.1
  obtain ⟨h8, hlt, hge⟩ := hL
  have hw8 : w < 100000000 := Nat.lt_of_lt_of_le hlt (p10 h8).1
  intro m
  induction m with
  | zero =>
    intro fu G hm hf hG
    obtain ⟨fu, rfl⟩ : ∃ z, fu = z + 1 := ⟨fu - 1, by omega⟩
    refine ⟨fun h => absurd h (by simp [alb]), fun _ => ⟨G, fun i hi => hG i (by omega), ?_⟩⟩
    rw [f_X9_teachFor_b57]
    exact bp (by decide) (bs (mck (by exact hS)) rfl)
  | succ m ih =>
    intro fu G hm hf hG
    obtain ⟨fu, rfl⟩ : ∃ z, fu = z + 1 := ⟨fu - 1, by omega⟩
    have e10 : 10 ^ (m + 1) / 10 = 10 ^ m := by rw [Nat.pow_succ, Nat.mul_div_cancel _ (by decide)]
    obtain ⟨p1, p2⟩ := p10 (m := m) (by omega)
    have hdv : dvI (nI w) (nI (10 ^ m)) = some (nI (w / 10 ^ m)) := by
      unfold dvI
      rw [if_neg (nI_ne0 p2 (by omega)), pk_div (by omega) p2 (by omega)]
    have hwd : w / 10 ^ m < 2 ^ 31 := Nat.lt_of_le_of_lt (Nat.div_le_self _ _) (by omega)
    have hun : nI (10 ^ m) / (10 : Int32) = nI (10 ^ m / 10) := by rw [zi 10, pk_div (by omega) (by decide) (by decide)]
    have hrem : irI (nI (w / 10 ^ m)) (10 : Int32) = nI (fig w m) := by rw [zi 10, z_rem hwd (by decide) (by decide)]; rfl
    have hfl : fig w m < 10 := Nat.mod_lt _ (by decide)
    have hok : okF P w m = decide (1 ≤ fig w m ∧ fig w m ≤ rms P) := rfl
    have hr1 : (rowI S 228 G).2.1 216 1 = nI (rms P) := hM.2.1
    by_cases q : 1 ≤ fig w m ∧ fig w m ≤ rms P
    · rw [decide_eq_true q] at hok
      have hst := y_st (G := G) hS (k := L - (m + 1)) (by omega) (nI (fig w m - 1))
      obtain ⟨i1, i2⟩ := ih fu (upd G (L - (m + 1)) (nI (fig w m - 1))) (by omega) (by omega) (fun i hi => by
        by_cases z : i = L - (m + 1)
        · subst z; rw [upd_s, show L - 1 - (L - (m + 1)) = m by omega]
        · rw [upd_n z]; exact hG i (by omega))
      have pre : ∀ r, f_X9_teachFor_b57 fu 216 (nI w) (nI (L - m)) (nI (10 ^ m / 10)) (rowI S 228 (upd G (L - (m + 1)) (nI (fig w m - 1)))) = r → f_X9_teachFor_b57 (fu + 1) 216 (nI w) (nI (L - (m + 1))) (nI (10 ^ (m + 1) / 10)) (rowI S 228 G) = r := by
        intro r hr
        rw [e10, f_X9_teachFor_b57]
        refine bn (nI_nle p2 (by omega)) (bs hdv ?_)
        rw [Option.bind_some, hrem, zi 1, pk_sub q.1]
        refine bs (mck (by exact hS)) (bs (m_isRoom1 (by exact hS) hr1 hr8 (by omega)) (bn nI10 (bs (R_21 (rfC_e hR rfl rfl)) (bs hst ?_))))
        rw [Option.bind_some, Option.bind_some, hun, nI_add, show L - (m + 1) + 1 = L - m by omega]
        exact hr
      refine ⟨fun h => ?_, fun h => ?_⟩
      · rw [alb, hok, Bool.and_true] at h
        obtain ⟨G', g1⟩ := i1 h
        exact ⟨G', pre _ g1⟩
      · rw [alb, hok, Bool.and_true] at h
        obtain ⟨G', g1, g2⟩ := i2 h
        exact ⟨G', g1, pre _ g2⟩
    · rw [decide_eq_false q] at hok
      refine ⟨fun _ => ⟨G, ?_⟩, fun h => by rw [alb, hok] at h; simp at h⟩
      rw [e10, f_X9_teachFor_b57]
      refine bn (nI_nle p2 (by omega)) (bs hdv ?_)
      rw [Option.bind_some, hrem]
      have hno : nI (fig w m) - (1 : Int32) < 0 ∨ nI (rms P) ≤ nI (fig w m) - (1 : Int32) := by
        by_cases z : fig w m = 0
        · left; rw [z]; decide
        · right; rw [zi 1, pk_sub (by omega)]; exact nI_le (by omega) (by omega)
      exact bs (mck (by exact hS)) (bs (m_isRoom0 (by exact hS) hr1 hr8 hno) (bp nI00 rfl))
theorem m_unit {S : Mem} {w L : Nat} (hL : dgL w L) (hw : 0 < w) : ∀ m j fu, L = j + 1 + m → m < fu → f_X9_teachFor_b41 fu 216 (nI w) (nI 0) (nI (10 ^ j)) S = f_X9_teachFor_b57 FU 216 (nI w) (nI 0) (nI (10 ^ L / 10)) S := by
  obtain ⟨h8, hlt, hge⟩ := hL
  have hw8 : w < 100000000 := Nat.lt_of_lt_of_le hlt (p10 h8).1
  intro m
  induction m with
  | zero =>
    intro j fu hj hf
    obtain ⟨fu, rfl⟩ : ∃ z, fu = z + 1 := ⟨fu - 1, by omega⟩
    obtain ⟨p1, p2⟩ := p10 (m := j) (by omega)
    have hwd : w / 10 ^ j < 10 := by
      rw [Nat.div_lt_iff_lt_mul p2, Nat.mul_comm, ← Nat.pow_succ]
      rw [show j.succ = L by omega]; exact hlt
    have e10 : 10 ^ L / 10 = 10 ^ j := by rw [show L = j + 1 by omega, Nat.pow_succ, Nat.mul_div_cancel _ (by decide)]
    rw [f_X9_teachFor_b41, e10]
    refine bs (a := nI (w / 10 ^ j)) ?_ (bp (nI_le (b := 9) (by omega) (by decide)) rfl)
    unfold dvI
    rw [if_neg (nI_ne0 p2 (by omega)), pk_div (by omega) p2 (by omega)]
  | succ m ih =>
    intro j fu hj hf
    obtain ⟨fu, rfl⟩ : ∃ z, fu = z + 1 := ⟨fu - 1, by omega⟩
    obtain ⟨p1, p2⟩ := p10 (m := j) (by omega)
    have hwd : 10 ≤ w / 10 ^ j := by
      rw [Nat.le_div_iff_mul_le p2, Nat.mul_comm, ← Nat.pow_succ]
      exact hge (j + 1) (by omega)
    have hwl : w / 10 ^ j < 2 ^ 31 := Nat.lt_of_le_of_lt (Nat.div_le_self _ _) (by omega)
    rw [f_X9_teachFor_b41]
    refine bs (a := nI (w / 10 ^ j)) ?_ (bn (nI_ge (a := 9) (by omega) (by omega)) ?_)
    · unfold dvI
      rw [if_neg (nI_ne0 p2 (by omega)), pk_div (by omega) p2 (by omega)]
    · rw [Option.bind_some, zi 10, pk_mul, ← Nat.pow_succ]
      exact ih (j + 1) fu (by omega) (by omega)
theorem op_29 (x y : Int32) (S : Mem) (h : Inv S) : ∃ S1, sk_29 x y S = some S1 ∧ Inv S1 := by
  obtain ⟨p, P, n, hR, hPa, hst, ht, hM, hn, hw, -⟩ := Inv_x h
  have hS := hR.1
  have hP := hM.2.2.2.2.2.2.2
  have hr8 := hP.1
  have w0 := (wfb hP hw).1
  have ep : gI 2 2 S p = some (nI (rms P)) := by rw [g_p hS hR.2.1, hPa.1]
  have n1 : ¬ nI 99999999 < x ↔ x ≤ nI 99999999 := by rw [Int32.le_iff_toInt_le, Int32.lt_iff_toInt_lt]; omega
  have g1 : nI 100000000 ≤ x ↔ nI 99999999 < x := by rw [Int32.le_iff_toInt_le, Int32.lt_iff_toInt_lt, nI_toInt (by omega), nI_toInt (by omega)]; omega
  rcases tri x (r := 100000000) (by omega) with hx | ⟨w, hwl, rfl⟩
  · rw [g1] at hx
    refine ⟨_, pick2 (v := -1000000002) (S1 := S) (S2 := S) ?_ ?_ hS hS, h⟩
    · unfold f_X8_teachFor
      by_cases hl : x < 0
      · exact bp hl rfl
      · exact bn hl (bp (hx.resolve_left hl) rfl)
    · unfold f_X9_teachFor
      exact bs (in_k0 (a := 0) (b := 99999999) (by omega) (by omega) hx) (bp nI00 rfl)
  · have hin : f_X9_in (nI w).toInt64 (0 : Int64) (99999999 : Int64) = some (nI 1) := (in_kj (j := w) (a := 0) (b := 99999999) (by omega) (by omega) (by omega)).trans (by rw [if_pos (by omega)])
    obtain ⟨L, hL⟩ := dg_ex (w := w) (by omega)
    have hior := c_ior hR hPa hr8 hL
    have q1 : ¬ nI w < (0 : Int32) := nI_pos (by omega)
    have q2 : ¬ (99999999 : Int32) < nI w := nI_nlt (a := 99999999) (by omega) (by omega)
    have fin : ∀ T, trJ S T → ∀ G, Inv (rowJ (rowI T 228 G) 224 (asd n (T.2.2.1 224) 80)) ∧ Inv (rowI T 228 G) := by
      intro T hT G
      have e : ∀ b, b ≠ 189 ∧ b ≠ 190 → T.2.1 b = S.2.1 b := fun b hb => (hT.1.2.2 b (x189_f hb)).1
      have hf : fr scr S (rowI T 228 G) := by
        refine fr.tr (hT.1.mono (fun a ha => ?_)) (fr.rowI (by decide))
        refine x189_f ⟨fun z => ?_, fun z => ?_⟩ <;> (rw [z] at ha; exact absurd ha (by decide))
      have ht2 : ∀ k, 7 ≤ k → T.2.1 189 k = 0 ∧ T.2.1 191 k = 0 := fun k hk => ⟨hT.2 k hk, by
        rw [e 191 (by decide)]; exact ht 191 (by decide) (by decide +kernel) k hk⟩
      exact ⟨Inv_q h (fr.tr hf (fr.rowJ (by decide))) ht2, Inv_q h hf ht2⟩
    have hT0 : trJ S S := ⟨fr.rf, fun k hk => ht 189 (by decide) (by decide +kernel) k hk⟩
    by_cases hz : w = 0
    · subst hz
      have hL0 : L = 0 := by
        rcases Nat.eq_zero_or_pos L with z | z
        · exact z
        · have := hL.2.2 0 z; simp at this
      subst hL0
      by_cases h0 : rms P = 0
      · refine ⟨_, pick2 (v := -1000000003) (S1 := S) (S2 := S) ?_ ?_ hS hS, h⟩
        · unfold f_X8_teachFor
          exact bn q1 (bn q2 (bs (c_0 hS) (bs hior (bn nI10 (bs (r_0_1 hR) (bs ep (bp ((r0_eq hr8).mpr h0) rfl)))))))
        · unfold f_X9_teachFor
          exact bs hin (bn nI10 (bp rfl (bs (mgI hS 1) (bp (by rw [hM.2.1]; exact (r0_eq hr8).mpr h0) rfl))))
      · have h0' : 0 < rms P := by omega
        obtain ⟨T, t1, t2⟩ := c_tf_b hR hP hst hw h0' hL 64 0 FU S (nI 0) (by omega) (by unfold FU; omega) hT0 (fun b hb => absurd hb (by simp [crg]))
        have hRT := rfC_fr hR t2.1
        have e : ∀ b, b ≠ 189 ∧ b ≠ 190 → T.2.1 b = S.2.1 b := fun b hb => (t2.1.2.2 b (x189_f hb)).1
        have hb : crg (fun r => dff r (n 0)) (gsN P n 0 0) 64 = some (n 0) := by
          obtain ⟨b, b1, b2⟩ := crg_min (c := fun r => dff r (n 0)) (C := gsN P n 0 0) (s := n 0) rfl (k := 64) w0
          have : dff (n 0) (n 0) = 0 := by unfold dff adf; simp
          have := dff_0 (r := b) (t := n 0) (by omega)
          rw [b1, this]
        rw [hb] at t1
        have hnT : T.2.2.1 220 = LL n := by rw [(t2.1.2.2 220 (x189_f (by decide))).2]; exact hn
        have hr1 : T.2.1 216 1 = nI (rms P) := by rw [e 216 (by decide)]; exact hM.2.1
        refine ⟨_, pick2 (v := nI (n 0)) (S1 := T) (S2 := T) ?_ ?_ hS hRT.1, ?_⟩
        · unfold f_X8_teachFor
          exact bn q1 (bn q2 (bs (c_0 hS) (bs hior (bn nI10 (bs (r_0_1 hR) (bs ep (bn (fun z => h0 ((r0_eq hr8).mp z)) t1)))))))
        · unfold f_X9_teachFor
          exact bs hin (bn nI10 (bp rfl (bs ((mgI hRT.1 1).trans (congrArg some hr1)) (bn (fun z => h0 ((r0_eq hr8).mp z)) (bs (mck hRT.1) (bs (at_ (rfC_M hRT) hnT (k := 0) (by decide)) rfl))))))
        · have := (fin T t2 (T.2.1 228)).2
          rw [rI_same] at this
          exact this
    · have hw0 : 0 < w := by omega
      have hL1 : 1 ≤ L := by
        rcases Nat.eq_zero_or_pos L with z | z
        · have := hL.2.1; rw [z] at this; simp at this; omega
        · exact z
      cases hv : alb (okF P w) L with
      | false =>
        rw [hv] at hior
        obtain ⟨G', g1⟩ := (m_pth_b hR hM hL L FU (S.2.1 228) (Nat.le_refl _) (by have := hL.1; unfold FU; omega) (fun i hi => by omega)).1 hv
        rw [rI_same, Nat.sub_self] at g1
        have hu := m_unit (S := S) hL hw0 (L - 1) 0 FU (by omega) (by have := hL.1; unfold FU; omega)
        refine ⟨_, pick2 (v := -1000000002) (S1 := S) (S2 := rowI S 228 G') ?_ ?_ hS hS, (fin S hT0 G').2⟩
        · unfold f_X8_teachFor
          exact bn q1 (bn q2 (bs (c_0 hS) (bs hior (bp nI00 rfl))))
        · unfold f_X9_teachFor
          exact bs hin (bn nI10 (bn (nI_ne0 hw0 (by omega)) (hu.trans g1)))
      | true =>
        rw [hv] at hior
        have hall := (alb_iff L).mp hv
        have hok : ∀ i, i < L → 1 ≤ fig w i := fun i hi => (of_decide_eq_true (hall i hi)).1
        have h0' : 0 < rms P := by
          have := (of_decide_eq_true (hall 0 (by omega))); omega
        obtain ⟨T, t1, t2⟩ := c_tf_b hR hP hst hw h0' hL 64 0 FU S (nI 0) (by omega) (by unfold FU; omega) hT0 (fun b hb => absurd hb (by simp [crg]))
        have hRT := rfC_fr hR t2.1
        have e : ∀ b, b ≠ 189 ∧ b ≠ 190 → T.2.1 b = S.2.1 b := fun b hb => (t2.1.2.2 b (x189_f hb)).1
        have hnT : T.2.2.1 220 = LL n := by rw [(t2.1.2.2 220 (x189_f (by decide))).2]; exact hn
        have hMT : RMb T P := RMb_e hM t2.1.1 t2.1.2.1 (fun k hk => by rw [e 216 (by decide)]) (e 217 (by decide)) (e 218 (by decide)) (e 219 (by decide))
        obtain ⟨G', g0, g1⟩ := (m_pth_b hRT hMT hL L FU (T.2.1 228) (Nat.le_refl _) (by have := hL.1; unfold FU; omega) (fun i hi => by omega)).2 hv
        rw [rI_same, Nat.sub_self] at g1
        have hu := m_unit (S := T) hL hw0 (L - 1) 0 FU (by omega) (by have := hL.1; unfold FU; omega)
        have hR2 : rfC (rowI T 228 G') p := rfC_e hRT rfl rfl
        have ha := q_aside hR2 (n := n) (by exact hnT)
        have hb := m_tf_b (M := rowJ (rowI T 228 G') 224 (asd n (T.2.2.1 224) 80)) (w := w) (L := L) (RMb_e hMT rfl rfl (fun _ _ => rfl) rfl rfl rfl) (rfC_e hRT rfl rfl) hnT hw h0' (fun k hk => by
          show asd n (T.2.2.1 224) 80 k = _
          unfold asd; rw [if_pos hk]) hL.1 g0 hok 64 0 FU (by omega) (by unfold FU; omega)
        refine ⟨_, pick2 (v := dBi (crg (fun r => dff r (n 0)) (gsN P n w L) 64)) (S1 := T) (S2 := rowJ (rowI T 228 G') 224 (asd n (T.2.2.1 224) 80)) ?_ ?_ hS hRT.1, (fin T t2 G').1⟩
        · unfold f_X8_teachFor
          exact bn q1 (bn q2 (bs (c_0 hS) (bs hior (bn nI10 (bs (r_0_1 hR) (bs ep (bn (fun z => by have := (r0_eq hr8).mp z; omega) t1)))))))
        · unfold f_X9_teachFor
          exact bs hin (bn nI10 (bn (nI_ne0 hw0 (by omega)) (hu.trans (g1.trans (bs ha hb)))))
