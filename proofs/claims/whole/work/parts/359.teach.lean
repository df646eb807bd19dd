/-! teachFor: figures, costs, the class -/
def fig (w m : Nat) : Nat := w / 10 ^ m % 10
def dgL (w L : Nat) : Prop := L ≤ 8 ∧ w < 10 ^ L ∧ ∀ m, m < L → 10 ^ m ≤ w
theorem p10 {m : Nat} (h : m ≤ 8) : 10 ^ m ≤ 100000000 ∧ 0 < 10 ^ m := ⟨Nat.le_trans (Nat.pow_le_pow_right (by decide) h) (by decide), Nat.pow_pos (by decide)⟩
theorem dg_ex {w : Nat} (hw : w ≤ 99999999) : ∃ L, dgL w L := by
  obtain ⟨L, a1, a2, a3⟩ := fb_first (p := fun L => w < 10 ^ L) (n := 9) ⟨8, by decide, by show w < 10 ^ 8; omega⟩
  exact ⟨L, by omega, a2, fun m hm => by have := a3 m hm; omega⟩
def adf (a b : Nat) : Nat := if b ≤ a then a - b else b - a
def dff (r t : Nat) : Nat := adf (r / 16) (t / 16) + adf (r / 4 % 4) (t / 4 % 4) + adf (r % 4) (t % 4)
theorem c_apart : ∀ r, r < 64 → ∀ t, t < 64 → f_X8_apart (nI r) (nI t) = nI (dff r t) := by decide +kernel
theorem m_differ : ∀ r, r < 64 → ∀ t, t < 64 → f_X9_differ (nI r) (nI t) = some (nI (dff r t)) := by decide +kernel
theorem dff_lt {r t : Nat} (hr : r < 64) (ht : t < 64) : dff r t < 100 := by unfold dff adf; split <;> split <;> split <;> omega
theorem adf_0 {a b : Nat} (h : adf a b = 0) : a = b := by
  unfold adf at h
  split at h <;> omega
theorem dff_0 {r t : Nat} (h : dff r t = 0) : r = t := by
  unfold dff at h
  have h1 := adf_0 (a := r / 16) (b := t / 16) (by omega)
  have h2 := adf_0 (a := r / 4 % 4) (b := t / 4 % 4) (by omega)
  have h3 := adf_0 (a := r % 4) (b := t % 4) (by omega)
  omega
def crg (c : Nat → Nat) (C : Nat → Bool) : Nat → Option Nat
  | 0 => none
  | k + 1 => match crg c C k with
    | none => if C k then some k else none
    | some b => if c k < c b ∧ C k = true then some k else some b
theorem crg_lt {c : Nat → Nat} {C : Nat → Bool} {b : Nat} : ∀ {k}, crg c C k = some b → b < k
  | 0, h => by simp [crg] at h
  | k + 1, h => by
    rw [crg] at h
    cases e : crg c C k with
    | none =>
      rw [e] at h
      dsimp only at h
      split at h
      · injection h with h; omega
      · exact absurd h (by simp)
    | some z =>
      have := crg_lt e
      rw [e] at h
      dsimp only at h
      split at h
      · injection h with h; omega
      · injection h with h; omega
theorem crg_min {c : Nat → Nat} {C : Nat → Bool} {s : Nat} (hs : C s = true) : ∀ {k}, s < k → ∃ b, crg c C k = some b ∧ c b ≤ c s
  | 0, h => absurd h (Nat.not_lt_zero _)
  | k + 1, h => by
    rw [crg]
    by_cases q : s = k
    · subst q
      cases e : crg c C s with
      | none => exact ⟨s, by simp [hs], Nat.le_refl _⟩
      | some z =>
        by_cases w : c s < c z
        · exact ⟨s, by simp [hs, w], Nat.le_refl _⟩
        · exact ⟨z, by simp [w], by omega⟩
    · obtain ⟨b, b1, b2⟩ := crg_min hs (k := k) (by omega)
      rw [b1]
      dsimp only
      split
      · next w => exact ⟨k, rfl, by omega⟩
      · exact ⟨b, rfl, b2⟩
def gsq (P : Pal) (n : Nat → Nat) (w L r : Nat) : Nat → Bool := fun k => decide (gonN P (k + 1) (va_up n 0 r) 2 + 1 = fig w (L - 1 - k))
def gsN (P : Pal) (n : Nat → Nat) (w L r : Nat) : Bool := alb (gsq P n w L r) L
theorem c_gs_b {B : Mem} {p w L r : Nat} {P : Pal} {n : Nat → Nat} (hP : wfP P) (hw : wfN P 9060 n) (h0 : 0 < rms P) (hB : SLb B 189 P (n 6)) (hR : rfC B p) (hL : dgL w L) (hr : r < 64) :
    ∀ m fu, m ≤ 8 → m < fu → alb (gsq P n w L r) (L - m) = true → ∃ e, f_X8_goesSo_b26 fu 0 (nI w) (nI (10 ^ m / 10)) (ss B 189 P (gonN P (L - m) (va_up n 0 r))) = some (nI (if gsN P n w L r then 1 else 0), ss B 189 P (gonN P e (va_up n 0 r))) := by
  have hr8 := hP.1
  obtain ⟨h8, hlt, hge⟩ := hL
  have hw8 : w < 100000000 := Nat.lt_of_lt_of_le hlt (p10 h8).1
  have hw' : wfN P 9060 (va_up n 0 r) := wu_0 hw hr
  have hB' : SLb B 189 P ((va_up n 0 r) 6) := hB
  intro m
  induction m with
  | zero =>
    intro fu h1 hf ha
    obtain ⟨fu, rfl⟩ : ∃ z, fu = z + 1 := ⟨fu - 1, by omega⟩
    refine ⟨L - 0, ?_⟩
    rw [f_X8_goesSo_b26]
    refine bp (by decide) ?_
    have : gsN P n w L r = true := ha
    rw [this]; rfl
  | succ m ih =>
    intro fu h1 hf ha
    obtain ⟨fu, rfl⟩ : ∃ z, fu = z + 1 := ⟨fu - 1, by omega⟩
    have e10 : 10 ^ (m + 1) / 10 = 10 ^ m := by rw [Nat.pow_succ, Nat.mul_div_cancel _ (by decide)]
    obtain ⟨p1, p2⟩ := p10 (m := m) (by omega)
    have hdv : dvI (nI w) (nI (10 ^ m)) = some (nI (w / 10 ^ m)) := by
      unfold dvI
      rw [if_neg (nI_ne0 p2 (by omega)), pk_div (by omega) p2 (by omega)]
    have hwd : w / 10 ^ m < 2 ^ 31 := Nat.lt_of_le_of_lt (Nat.div_le_self _ _) (by omega)
    have hun : nI (10 ^ m) / (10 : Int32) = nI (10 ^ m / 10) := by rw [zi 10, pk_div (by omega) (by decide) (by decide)]
    rw [e10, f_X8_goesSo_b26]
    by_cases q : w < 10 ^ m
    · have hLm : L ≤ m := by
        rcases Nat.lt_or_ge m L with z | z
        · have := hge m z; omega
        · exact z
      have e1 : L - (m + 1) = L - m := by omega
      obtain ⟨e, he⟩ := ih fu (by omega) (by omega) (by rw [← e1]; exact ha)
      refine ⟨e, bn (nI_nle p2 (by omega)) (bs hdv (bp ?_ ?_))⟩
      · rw [Nat.div_eq_of_lt q]; decide
      · unfold f_X8_goesSo_b66
        rw [Option.bind_some, hun, e1]; exact he
    · have hLm : m < L := by
        rcases Nat.lt_or_ge m L with z | z
        · exact z
        · have : 10 ^ L ≤ 10 ^ m := Nat.pow_le_pow_right (by decide) z
          omega
      have e1 : L - (m + 1) + 1 = L - m := by omega
      have hpos : 0 < w / 10 ^ m := Nat.div_pos (by omega) p2
      obtain ⟨t1, t2, t3, t4⟩ := sl_try hP hw' h0 hB' hR (L - (m + 1))
      obtain ⟨s1, s2, s3, s4⟩ := sl_try hP hw' h0 hB' hR (L - m)
      rw [e1] at t4
      have h2 := gon_2 hP h0 hw' (L - m)
      have hq : gsq P n w L r (L - (m + 1)) = decide (gonN P (L - m) (va_up n 0 r) 2 + 1 = fig w m) := by
        unfold gsq
        rw [e1, show L - 1 - (L - (m + 1)) = m by omega]
      have hrem : irI (nI (w / 10 ^ m)) (10 : Int32) = nI (fig w m) := by rw [zi 10, z_rem hwd (by decide) (by decide)]; rfl
      have hfl : fig w m < 10 := Nat.mod_lt _ (by decide)
      by_cases z : gonN P (L - m) (va_up n 0 r) 2 + 1 = fig w m
      · rw [decide_eq_true z] at hq
        obtain ⟨e, he⟩ := ih fu (by omega) (by omega) (by rw [← e1, alb, ha, hq]; rfl)
        refine ⟨e, bn (nI_nle p2 (by omega)) (bs hdv (bn (nI_nle hpos hwd) (bs t1 (bs t2 (bs t4 (bs s1 (bs s3 ?_)))))))⟩
        rw [hrem, nI_1]
        refine bp (by rw [z]) ?_
        unfold f_X8_goesSo_b66
        rw [Option.bind_some, hun]; exact he
      · rw [decide_eq_false z] at hq
        refine ⟨L - m, bn (nI_nle p2 (by omega)) (bs hdv (bn (nI_nle hpos hwd) (bs t1 (bs t2 (bs t4 (bs s1 (bs s3 ?_)))))))⟩
        rw [hrem, nI_1]
        refine bn (fun y => z ((nI_eq (by omega) (by omega)).mp y)) ?_
        have : gsN P n w L r = false := alb_f1 hq (by omega)
        rw [this]; rfl
theorem c_gs {S T : Mem} {p w L r : Nat} {P : Pal} {n : Nat → Nat} (hR : rfC S p) (hP : wfP P) (hst : StR S 13 P n) (hw : wfN P 9060 n) (h0 : 0 < rms P) (hT : trJ S T) (hL : dgL w L) (hr : r < 64) :
    ∃ T', f_X8_goesSo 0 (nI r) (nI w) T = some (nI (if gsN P n w L r then 1 else 0), T') ∧ trJ S T' := by
  have hr8 := hP.1
  have hRT := rfC_fr hR hT.1
  obtain ⟨B, b1, b2, b3, b4, b5⟩ := tr_copy hR hst hT
  obtain ⟨e, he⟩ := c_gs_b hP hw h0 b2 b3 hL hr 8 FU (by omega) (by unfold FU; omega) (by rw [show L - 8 = 0 by have := hL.1; omega]; rfl)
  rw [show L - 8 = 0 by have := hL.1; omega] at he
  have hx : rfC (ss B 189 P n) p := rfC_e b3 rfl rfl
  refine ⟨_, ?_, b5 (gonN P e (va_up n 0 r))⟩
  unfold f_X8_goesSo
  refine bs (r_0_7 hRT) (bs (r_0_2 hRT) (bs (r_13_0 hRT) (bs (c_189 hRT.1) (bs b1 (bs (r_0_7 hx) (bs (a := ss B 189 P (va_up n 0 r)) ?_ he))))))
  rw [ss_pI b2, slF_0 hr8]; rfl
theorem c_tf_b {S : Mem} {p w L : Nat} {P : Pal} {n : Nat → Nat} (hR : rfC S p) (hP : wfP P) (hst : StR S 13 P n) (hw : wfN P 9060 n) (h0 : 0 < rms P) (hL : dgL w L) :
    ∀ m k fu T x3, 64 = k + m → m < fu → trJ S T → (∀ b, crg (fun r => dff r (n 0)) (gsN P n w L) k = some b → x3 = nI (dff b (n 0))) → ∃ T', f_X8_teachFor_b42 fu 0 (nI w) (dBi (crg (fun r => dff r (n 0)) (gsN P n w L) k)) x3 (nI k) T = some (dBi (crg (fun r => dff r (n 0)) (gsN P n w L) 64), T') ∧ trJ S T' := by
  have w0 := (wfb hP hw).1
  intro m
  induction m with
  | zero =>
    intro k fu T x3 hk hf hT hx
    obtain ⟨fu, rfl⟩ : ∃ z, fu = z + 1 := ⟨fu - 1, by omega⟩
    refine ⟨T, ?_, hT⟩
    rw [f_X8_teachFor_b42]
    exact bp (nI_le (a := 64) (by omega) (by omega)) (by rw [show k = 64 by omega])
  | succ m ih =>
    intro k fu T x3 hk hf hT hx
    obtain ⟨fu, rfl⟩ : ∃ z, fu = z + 1 := ⟨fu - 1, by omega⟩
    have hRT := rfC_fr hR hT.1
    have g0 : gI 4 0 T 14 = some (nI (n 0)) := by
      rw [g_14 hRT.1, (hT.1.2.2 14 (x189_f (by decide))).1]; exact congrArg (fun f => some (f 0)) hst.2.1
    have hdk := dff_lt (r := k) (t := n 0) (by omega) w0
    obtain ⟨T1, t1, t2⟩ := c_gs hR hP hst hw h0 hT hL (r := k) (by omega)
    have hc : crg (fun r => dff r (n 0)) (gsN P n w L) (k + 1) = match crg (fun r => dff r (n 0)) (gsN P n w L) k with
      | none => if gsN P n w L k then some k else none
      | some b => if dff k (n 0) < dff b (n 0) ∧ gsN P n w L k = true then some k else some b := rfl
    have h93 : ∀ o x T2, trJ S T2 → crg (fun r => dff r (n 0)) (gsN P n w L) (k + 1) = o → (∀ b, o = some b → x = nI (dff b (n 0))) → ∃ T', f_X8_teachFor_b93 (fun a0 x1 x2 x3 x4 S => f_X8_teachFor_b42 fu a0 x1 x2 x3 x4 S) 0 (nI w) (dBi o) x (nI k) T2 = some (dBi (crg (fun r => dff r (n 0)) (gsN P n w L) 64), T') ∧ trJ S T' := by
      intro o x T2 h2 ho hx2
      obtain ⟨T', a1, a2⟩ := ih (k + 1) fu T2 x (by omega) (by omega) h2 (fun b hb => hx2 b (by rw [← ho]; exact hb))
      refine ⟨T', ?_, a2⟩
      unfold f_X8_teachFor_b93
      rw [Option.bind_some, nI_1, ← ho]; exact a1
    have h77 : ∀ o, (∀ b, o = some b → x3 = nI (dff b (n 0))) → crg (fun r => dff r (n 0)) (gsN P n w L) (k + 1) = (if gsN P n w L k then some k else o) → ∃ T', f_X8_teachFor_b77 (fun a0 x1 x2 x3 x4 S => f_X8_teachFor_b42 fu a0 x1 x2 x3 x4 S) 0 (nI w) (dBi o) x3 (nI k) (nI (dff k (n 0))) T = some (dBi (crg (fun r => dff r (n 0)) (gsN P n w L) 64), T') ∧ trJ S T' := by
      intro o hx2 ho
      unfold f_X8_teachFor_b77
      cases q : gsN P n w L k with
      | true =>
        rw [q] at ho t1
        obtain ⟨T', a1, a2⟩ := h93 (some k) (nI (dff k (n 0))) T1 t2 ho (fun b hb => by injection hb with hb; rw [hb])
        exact ⟨T', bs (c_0 hRT.1) (bs t1 (bn nI10 a1)), a2⟩
      | false =>
        rw [q] at ho t1
        obtain ⟨T', a1, a2⟩ := h93 o x3 T1 t2 ho hx2
        exact ⟨T', bs (c_0 hRT.1) (bs t1 (bp rfl a1)), a2⟩
    rw [f_X8_teachFor_b42]
    cases e : crg (fun r => dff r (n 0)) (gsN P n w L) k with
    | none =>
      rw [e] at hc
      obtain ⟨T', a1, a2⟩ := h77 none (fun b hb => absurd hb (by simp)) hc
      refine ⟨T', bn (nI_ge (b := 64) (by omega) (by omega)) (bs (r_0_2 hRT) (bs (r_13_0 hRT) (bs g0 ?_))), a2⟩
      rw [Option.bind_some, c_apart k (by omega) (n 0) w0]
      exact bp rfl a1
    | some b =>
      have hb := crg_lt e
      rw [e] at hc
      dsimp only at hc
      have hx3 := hx b e
      have hdb := dff_lt (r := b) (t := n 0) (by omega) w0
      by_cases q : dff k (n 0) < dff b (n 0)
      · obtain ⟨T', a1, a2⟩ := h77 (some b) (fun b' hb' => by injection hb' with hb'; rw [← hb']; exact hx3) (by
          rw [hc]; cases gsN P n w L k <;> simp [q])
        refine ⟨T', bn (nI_ge (b := 64) (by omega) (by omega)) (bs (r_0_2 hRT) (bs (r_13_0 hRT) (bs g0 ?_))), a2⟩
        rw [Option.bind_some, c_apart k (by omega) (n 0) w0]
        exact bn (dbi_ne (by omega)) (bn (by rw [hx3]; exact nI_ge q (by omega)) a1)
      · rw [if_neg (fun z => q z.1)] at hc
        obtain ⟨T', a1, a2⟩ := h93 (some b) x3 T hT hc (fun b' hb' => by injection hb' with hb'; rw [← hb']; exact hx3)
        refine ⟨T', bn (nI_ge (b := 64) (by omega) (by omega)) (bs (r_0_2 hRT) (bs (r_13_0 hRT) (bs g0 ?_))), a2⟩
        rw [Option.bind_some, c_apart k (by omega) (n 0) w0]
        exact bn (dbi_ne (by omega)) (bp (by rw [hx3]; exact nI_le (by omega) (by omega)) a1)
def okF (P : Pal) (w : Nat) : Nat → Bool := fun m => decide (1 ≤ fig w m ∧ fig w m ≤ rms P)
theorem c_ior {S : Mem} {p w L : Nat} {P : Pal} (hR : rfC S p) (hPa : PaR S p P) (hr8 : rms P ≤ 8) (hL : dgL w L) : f_X8_isOfRooms 0 (nI w) S = some (nI (if alb (okF P w) L then 1 else 0)) := by
  have hS := hR.1
  obtain ⟨h8, hlt, hge⟩ := hL
  have hw8 : w < 100000000 := Nat.lt_of_lt_of_le hlt (p10 h8).1
  have ep : gI 2 2 S p = some (nI (rms P)) := by rw [g_p hS hR.2.1, hPa.1]
  have key : ∀ m j fu, L = j + m → m < fu → alb (okF P w) j = true → f_X8_isOfRooms_b2 S fu 0 (nI (w / 10 ^ j)) = some (nI (if alb (okF P w) L then 1 else 0)) := by
    intro m
    induction m with
    | zero =>
      intro j fu hj hf ha
      obtain ⟨fu, rfl⟩ : ∃ z, fu = z + 1 := ⟨fu - 1, by omega⟩
      rw [f_X8_isOfRooms_b2]
      rw [show j = L by omega] at ha ⊢
      rw [Nat.div_eq_of_lt hlt, ha]
      exact bp (by decide) rfl
    | succ m ih =>
      intro j fu hj hf ha
      obtain ⟨fu, rfl⟩ : ∃ z, fu = z + 1 := ⟨fu - 1, by omega⟩
      obtain ⟨p1, p2⟩ := p10 (m := j) (by omega)
      have hpos : 0 < w / 10 ^ j := Nat.div_pos (hge j (by omega)) p2
      have hwd : w / 10 ^ j < 2 ^ 31 := Nat.lt_of_le_of_lt (Nat.div_le_self _ _) (by omega)
      have hrem : irI (nI (w / 10 ^ j)) (10 : Int32) = nI (fig w j) := by rw [zi 10, z_rem hwd (by decide) (by decide)]; rfl
      have hfl : fig w j < 10 := Nat.mod_lt _ (by decide)
      have hdv : nI (w / 10 ^ j) / (10 : Int32) = nI (w / 10 ^ (j + 1)) := by rw [zi 10, pk_div hwd (by decide) (by decide), Nat.div_div_eq_div_mul, ← Nat.pow_succ]
      rw [f_X8_isOfRooms_b2]
      refine bn (nI_nle hpos hwd) ?_
      rw [Option.bind_some, hrem]
      by_cases z : fig w j = 0
      · refine bp (by rw [z]; rfl) ?_
        rw [alb_f1 (g := okF P w) (k := j) (by unfold okF; rw [decide_eq_false]; omega) (by omega)]; rfl
      · refine bn (nI_ne0 (by omega) (by omega)) (bs (r_0_1 hR) (bs ep ?_))
        by_cases y : fig w j ≤ rms P
        · refine bp (nI_le y (by omega)) ?_
          rw [Option.bind_some, hdv]
          refine ih (j + 1) fu (by omega) (by omega) ?_
          rw [alb, ha]
          unfold okF
          rw [decide_eq_true (by omega)]; rfl
        · refine bn (nI_ge (by omega) (by omega)) ?_
          rw [alb_f1 (g := okF P w) (k := j) (by unfold okF; rw [decide_eq_false]; omega) (by omega)]; rfl
  have := key L 0 FU (by omega) (by unfold FU; omega) rfl
  rw [Nat.pow_zero, Nat.div_one] at this
  exact this
