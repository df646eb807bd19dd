/-! drift -/
theorem mds_st {M : Mem} {p s k v : Nat} {m : Nat → Nat} (hR : rfC M p) (hk : k < 80) : stJ (mds M s m) 220 (nI k) (lN v) = some (mds M s (va_up m k v)) := sn_st (by exact hR.1) hk v
theorem mds_ld {M : Mem} {p s k : Nat} {m : Nat → Nat} (hR : rfC M p) (hk : k < 80) : ldJ (mds M s m) 220 (nI k) = some (lN (m k)) := sn_ld (by exact hR.1) hk
theorem mds_R {M : Mem} {p s : Nat} {m : Nat → Nat} (hR : rfC M p) : rfC (mds M s m) p := rfC_e hR rfl rfl
theorem mds_x {M : Mem} {p s b : Nat} {m : Nat → Nat} (hR : rfC M p) (hb : b < 2 ^ 20) (h0 : 0 < b) : ∃ v, v < b ∧ v = drw (nxs s) b ∧ f_X9_drawn 216 (nI b) (mds M s m) = some (nI v, mds M (nxs s) m) := ⟨_, drw_lt h0, rfl, m_drawn hR hb h0⟩
theorem m_st2 {M : Mem} {p r w c s2 s3 : Nat} {n : Nat → Nat} (hR : rfC M p) (hr : r < 8) (hw5 : w < 5) (hc : c < 10) (d3 : f_X9_drawn 216 (nI 10) (mds M s2 n) = some (nI c, mds M s3 n)) :
    (if nI w = (2 : Int32) then
      (gR 9 7 (mds M s2 n) 216).bind fun r20 =>
      (ck 9 (mds M s2 n) 216).bind fun c21 =>
      (f_X9_drawn 216 (10 : Int32) (mds M s2 n)).bind fun q22 =>
      (stJ q22.2 r20 ((10 : Int32) + nI r) q22.1.toInt64).bind fun S23 =>
      some S23
      else
      (if (2 : Int32) ≤ nI w then
      (gR 9 7 (mds M s2 n) 216).bind fun r7 =>
      (if nI w = (3 : Int32) then
      (gR 9 7 (mds M s2 n) 216).bind fun r11 =>
      (ldJ (mds M s2 n) r11 (5 : Int32)).bind fun u12 =>
      (stJ (mds M s2 n) r7 (5 : Int32) (u12 ||| ((1 : Int64) <<< ((nI r).toInt64 &&& 63)))).bind fun S13 =>
      some S13
      else
      (gR 9 7 (mds M s2 n) 216).bind fun r8 =>
      (ldJ (mds M s2 n) r8 (5 : Int32)).bind fun u9 =>
      (stJ (mds M s2 n) r7 (5 : Int32) (u9 &&& (((1 : Int64) <<< ((nI r).toInt64 &&& 63)) ^^^ (-1 : Int64)))).bind fun S10 =>
      some S10)
      else
      (gR 9 7 (mds M s2 n) 216).bind fun r14 =>
      (if nI w = (0 : Int32) then
      (gR 9 7 (mds M s2 n) 216).bind fun r18 =>
      (ldJ (mds M s2 n) r18 (4 : Int32)).bind fun u19 =>
      f_X9_stirs_b80 (u19 ||| ((1 : Int64) <<< ((nI r).toInt64 &&& 63))) (4 : Int32) r14 (mds M s2 n)
      else
      (gR 9 7 (mds M s2 n) 216).bind fun r15 =>
      (ldJ (mds M s2 n) r15 (4 : Int32)).bind fun u16 =>
      f_X9_stirs_b80 (u16 &&& (((1 : Int64) <<< ((nI r).toInt64 &&& 63)) ^^^ (-1 : Int64))) (4 : Int32) r14 (mds M s2 n)))) = some (mds M (dr2 n r w c s2 s3).1 (dr2 n r w c s2 s3).2) := by
  have hR' : rfC (mds M s2 n) p := mds_R hR
  have b7 := R_7 hR'
  have sb : ∀ v, f_X9_stirs_b80 (lN v) (4 : Int32) 220 (mds M s2 n) = some (mds M s2 (va_up n 4 v)) := fun v => by
    unfold f_X9_stirs_b80
    exact bs (mds_st (k := 4) hR (by decide)) rfl
  rcases (by omega : w = 0 ∨ w = 1 ∨ w = 2 ∨ w = 3 ∨ w = 4) with rfl | rfl | rfl | rfl | rfl
  · rw [dr2_0]
    refine bn (by decide +kernel) (bn (by decide +kernel) (bs b7 (bp rfl (bs b7 (bs (mds_ld (k := 4) hR (by decide)) ?_)))))
    rw [m_set (by omega)]; exact sb _
  · rw [dr2_1]
    refine bn (by decide +kernel) (bn (by decide +kernel) (bs b7 (bn (by decide +kernel) (bs b7 (bs (mds_ld (k := 4) hR (by decide)) ?_)))))
    rw [m_clr (by omega)]; exact sb _
  · rw [dr2_2]
    refine bp rfl (bs b7 (bs (mck hR'.1) (bs d3 ?_)))
    dsimp only
    rw [zi 10, nI_add, nI_l (by omega)]
    exact bs (mds_st hR (by omega)) rfl
  · rw [dr2_3]
    refine bn (by decide +kernel) (bp (by decide +kernel) (bs b7 (bp rfl (bs b7 (bs (mds_ld (k := 5) hR (by decide)) ?_)))))
    rw [m_set (by omega)]
    exact bs (mds_st (k := 5) hR (by decide)) rfl
  · rw [dr2_4]
    refine bn (by decide +kernel) (bp (by decide +kernel) (bs b7 (bn (by decide +kernel) (bs b7 (bs (mds_ld (k := 5) hR (by decide)) ?_)))))
    rw [m_clr (by omega)]
    exact bs (mds_st (k := 5) hR (by decide)) rfl
theorem m_stirs {M : Mem} {p s : Nat} {P : Pal} {n : Nat → Nat} (hR : rfC M p) (hM : RMb M P) (h0 : 0 < rms P) : f_X9_stirs 216 (mds M s n) = some (mds M (dr1 P s n).1 (dr1 P s n).2) := by
  have hr8 := hM.2.2.2.2.2.2.2.1
  obtain ⟨r, r1, r2, r3⟩ := mds_x (s := s) (m := n) hR (b := rms P) (by omega) h0
  obtain ⟨w, w1, w2, w3⟩ := mds_x (s := nxs s) (m := n) hR (b := 5) (by omega) (by omega)
  obtain ⟨c, c1, c2, c3⟩ := mds_x (s := nxs (nxs s)) (m := n) hR (b := 10) (by omega) (by omega)
  have e : dr1 P s n = dr2 n r w c (nxs (nxs s)) (nxs (nxs (nxs s))) := by rw [r2, w2, c2]; rfl
  rw [e]
  have hg : gI 9 1 (mds M s n) 216 = some (nI (rms P)) := (mgI (by exact hR.1) 1).trans (congrArg some hM.2.1)
  unfold f_X9_stirs
  exact bs hg (bs (mck (by exact hR.1)) (bs r3 (bs (mck (by exact hR.1)) (bs w3 (m_st2 hR (by omega) w1 c1 c3)))))
theorem mds_at {M : Mem} {p s k : Nat} {m : Nat → Nat} (hR : rfC M p) (hk : k < 80) : f_X9_at 216 (nI k) (mds M s m) = some (nI (m k)) := by
  have h : rfM (rowJ M 216 (vp_updL (M.2.2.1 216) 8 (lN s))) := rfC_M (p := p) (rfC_e hR rfl rfl)
  exact m_at h hk
/-- the draws are told by a function that nobody looks into -/
def drO (P : Pal) (dr : Nat → (Nat → Nat) → Nat × (Nat → Nat)) : Prop := ∀ s n, dr s n = dr1 P s n
theorem dr_ex (P : Pal) : ∃ dr, drO P dr := ⟨fun s n => dr1 P s n, fun _ _ => rfl⟩
theorem dr_wf {P : Pal} {dr : Nat → (Nat → Nat) → Nat × (Nat → Nat)} (hd : drO P dr) {hh s : Nat} {n : Nat → Nat} (hP : wfP P) (hw : wfN P hh n) (h0 : 0 < rms P) : wfN P hh (dr s n).2 := by
  rw [hd]; exact dr1_wf hP hw h0
theorem dr_at {P : Pal} {dr : Nat → (Nat → Nat) → Nat × (Nat → Nat)} (hd : drO P dr) {s j : Nat} {n : Nat → Nat} (hP : wfP P) (h0 : 0 < rms P) (hj : j = 1 ∨ (18 ≤ j ∧ j < 26)) : (dr s n).2 j = n j := by
  rw [hd]; exact dr1_at hP h0 hj
theorem dr_s {P : Pal} {dr : Nat → (Nat → Nat) → Nat × (Nat → Nat)} (hd : drO P dr) {s : Nat} {n : Nat → Nat} (h0 : 0 < rms P) : (dr s n).1 < 2 ^ 31 := by
  rw [hd]; exact dr1_s h0
theorem dr_c {P : Pal} {dr : Nat → (Nat → Nat) → Nat × (Nat → Nat)} (hd : drO P dr) {T : Mem} {p hh s : Nat} {n : Nat → Nat} (hR : rfC T p) (hP : wfP P) (hq : PaR T p P) (hst : StR T 13 P n) (hw : wfN P hh n) (h0 : 0 < rms P) (hs : T.2.1 0 6 = nI s) (hs31 : s < 2 ^ 31) :
    ∃ T', f_X8_changeByDraws 0 T = some T' ∧ fr X0 T T' ∧ StR T' 13 P (dr s n).2 ∧ T'.2.1 0 6 = nI (dr s n).1 := by
  rw [hd]; exact c_change hR hP hq hst hw h0 hs hs31
theorem dr_m {P : Pal} {dr : Nat → (Nat → Nat) → Nat × (Nat → Nat)} (hd : drO P dr) {M : Mem} {p s : Nat} {n : Nat → Nat} (hR : rfC M p) (hM : RMb M P) (h0 : 0 < rms P) : f_X9_stirs 216 (mds M s n) = some (mds M (dr s n).1 (dr s n).2) := by
  rw [hd]; exact m_stirs hR hM h0
def drN (P : Pal) (dr : Nat → (Nat → Nat) → Nat × (Nat → Nat)) : Nat → Nat → (Nat → Nat) → Nat × (Nat → Nat)
  | 0, s, n => (s, n)
  | k + 1, s, n => ((dr (drN P dr k s n).1 (drN P dr k s n).2).1, gbN P (dr (drN P dr k s n).1 (drN P dr k s n).2).2)
theorem drN_wf {P : Pal} {dr : Nat → (Nat → Nat) → Nat × (Nat → Nat)} (hd : drO P dr) (hP : wfP P) (h0 : 0 < rms P) {n : Nat → Nat} {hh s : Nat} (hw : wfN P hh n) : ∀ k, wfN P (hh + k) (drN P dr k s n).2
  | 0 => hw
  | k + 1 => gb_wf hP (dr_wf hd hP (drN_wf hd hP h0 hw k) h0) h0
theorem drN_s {P : Pal} {dr : Nat → (Nat → Nat) → Nat × (Nat → Nat)} (hd : drO P dr) (h0 : 0 < rms P) {n : Nat → Nat} {s : Nat} (hs : s < 2 ^ 31) : ∀ k, (drN P dr k s n).1 < 2 ^ 31
  | 0 => hs
  | k + 1 => dr_s hd h0
theorem drN_g {P : Pal} {dr : Nat → (Nat → Nat) → Nat × (Nat → Nat)} (hd : drO P dr) (hP : wfP P) (h0 : 0 < rms P) {n : Nat → Nat} {hh s : Nat} (hw : wfN P hh n) (hc : ∀ a, a < 8 → n (18 + a) ≤ n 1) : ∀ k a, a < 8 → (drN P dr k s n).2 (18 + a) ≤ (drN P dr k s n).2 1
  | 0 => hc
  | k + 1 => by
    have w := dr_wf hd (s := (drN P dr k s n).1) hP (drN_wf hd (s := s) hP h0 hw k) h0
    have := wf_2 w h0
    have hr := hP.1
    have ih := drN_g hd hP h0 (s := s) hw hc k
    show ∀ a, a < 8 → gbN P (dr (drN P dr k s n).1 (drN P dr k s n).2).2 (18 + a) ≤ gbN P (dr (drN P dr k s n).1 (drN P dr k s n).2).2 1
    refine gd_gb (by omega) (fun a ha => ?_)
    rw [dr_at hd hP h0 (Or.inr ⟨by omega, by omega⟩), dr_at hd hP h0 (Or.inl rfl)]
    exact ih a ha
theorem PaR_0 {S S' : Mem} {p : Nat} {P : Pal} (h : PaR S p P) (hp : p = 2 ∨ p = 8) (f : fr X0 S S') : PaR S' p P := by
  have e : ∀ b, p ≤ b → b ≤ p + 4 → S'.2.1 b = S.2.1 b := fun b h1 h2 => (f.2.2 b (X0_f (by omega))).1
  obtain ⟨p1, p2, p3, p4, p5, p6⟩ := h
  exact ⟨by rw [e p (by omega) (by omega)]; exact p1, by rw [e p (by omega) (by omega)]; exact p2, by rw [e p (by omega) (by omega)]; exact p3, fun d hd => by rw [e _ (by omega) (by omega)]; exact p4 d hd, fun d hd => by rw [e _ (by omega) (by omega)]; exact p5 d hd, fun d hd => by rw [e _ (by omega) (by omega)]; exact p6 d hd⟩
theorem c_drift_b {p k s : Nat} {P : Pal} {dr : Nat → (Nat → Nat) → Nat × (Nat → Nat)} (hd : drO P dr) {n : Nat → Nat} (hP : wfP P) (h0 : 0 < rms P) (hw : wfN P 9060 n) (hs : s < 2 ^ 31) (hk : k ≤ 100) : ∀ m i fu (T : Mem), k = i + m → m < fu → rfC T p → PaR T p P → StR T 13 P (drN P dr i s n).2 → T.2.1 0 6 = nI (drN P dr i s n).1 → ∃ S', f_X8_drift_b25 fu 0 (nI k) (nI i) T = some (nI ((drN P dr k s n).2 2), S') ∧ fr X0 T S' ∧ StR S' 13 P (drN P dr k s n).2 ∧ S'.2.1 0 6 = nI (drN P dr k s n).1 := by
  intro m
  induction m with
  | zero =>
    intro i fu T hi hf hR hq hst he
    obtain ⟨fu, rfl⟩ : ∃ z, fu = z + 1 := ⟨fu - 1, by omega⟩
    obtain rfl : k = i := by omega
    refine ⟨T, ?_, fr.rf, hst, he⟩
    rw [f_X8_drift_b25]
    refine bp ((nI_leI (by omega) (by omega)).mpr (by omega)) (bs (r_0_2 hR) (bs (r_13_0 hR) (bs (g_14 hR.1 1) ?_)))
    rw [show T.2.1 14 = slF P (drN P dr k s n).2 from hst.2.1]; rfl
  | succ m ih =>
    intro i fu T hi hf hR hq hst he
    obtain ⟨fu, rfl⟩ : ∃ z, fu = z + 1 := ⟨fu - 1, by omega⟩
    obtain ⟨T1, a1, a2, a3, a4⟩ := dr_c hd hR hP hq hst (drN_wf hd (s := s) hP h0 hw i) h0 he (drN_s hd h0 hs i)
    have hR1 := rfC_fr hR a2
    obtain ⟨T', t1, t2, t3⟩ := c_passHour hR1 hP (PaR_0 hq hR.2.1 a2) a3 (dr_wf hd hP (drN_wf hd (s := s) hP h0 hw i) h0) (by omega) h0
    have f2 : fr X0 T1 T' := X0_13 t2
    have e0 : T'.2.1 0 = T1.2.1 0 := (t2.2.2 0 (by decide)).1
    obtain ⟨S', s1, s2, s3, s4⟩ := ih (i + 1) fu T' (by omega) (by omega) (rfC_fr hR1 f2) (PaR_0 (PaR_0 hq hR.2.1 a2) hR.2.1 f2) t3 (by rw [e0]; exact a4)
    refine ⟨S', ?_, fr.tr a2 (fr.tr f2 s2), s3, s4⟩
    rw [f_X8_drift_b25]
    refine bn (fun z => by have := (nI_leI (by omega) (by omega)).mp z; omega) (bs (c_0 hR.1) (bs a1 (bs (r_0_2 hR1) (bs (r_0_1 hR1) (bs (c_13 hR1.1) (bs t1 ?_))))))
    rw [Option.bind_some, zi 1, nI_add]; exact s1
theorem m_drift_b {M : Mem} {p k s : Nat} {P : Pal} {dr : Nat → (Nat → Nat) → Nat × (Nat → Nat)} (hd : drO P dr) {n : Nat → Nat} (hR : rfC M p) (hM : RMb M P) (hP : wfP P) (h0 : 0 < rms P) (hw : wfN P 9060 n) (hk : k ≤ 100) : ∀ m i fu, k = i + m → m < fu → f_X9_drift_b47 fu 216 (nI k) (nI i) (mds M (drN P dr i s n).1 (drN P dr i s n).2) = some (nI ((drN P dr k s n).2 2), mds M (drN P dr k s n).1 (drN P dr k s n).2) := by
  intro m
  induction m with
  | zero =>
    intro i fu hi hf
    obtain ⟨fu, rfl⟩ : ∃ z, fu = z + 1 := ⟨fu - 1, by omega⟩
    obtain rfl : k = i := by omega
    rw [f_X9_drift_b47]
    exact bp ((nI_leI (by omega) (by omega)).mpr (by omega)) (bs (mck (by exact hR.1)) (bs (mds_at (k := 2) hR (by decide)) rfl))
  | succ m ih =>
    intro i fu hi hf
    obtain ⟨fu, rfl⟩ : ∃ z, fu = z + 1 := ⟨fu - 1, by omega⟩
    have ih := ih (i + 1) fu (by omega) (by omega)
    rw [f_X9_drift_b47]
    refine bn (fun z => by have := (nI_leI (by omega) (by omega)).mp z; omega) (bs (mck (by exact hR.1)) (bs (dr_m hd hR hM h0) (bs (mck (by exact hR.1)) (bs (m_goesBy (RMb_e hM rfl rfl (fun _ _ => rfl) rfl rfl rfl) (dr_wf hd hP (drN_wf hd (s := s) hP h0 hw i) h0) (by omega) h0) ?_))))
    rw [Option.bind_some, zi 1, nI_add]; exact ih
def sds (A : Abs) (m : Nat → Nat) (s : Nat) : Abs := ((A.1.1, A.1.2.1, m), A.2.1, (A.2.2.1.1, A.2.2.1.2.1, A.2.2.1.2.2.1, s), A.2.2.2)
theorem IC_sds {S S' : Mem} {p s : Nat} {A : Abs} {m : Nat → Nat} (hC : IC S p A) (f : fr X0 S S') (h : StR S' 13 A.1.1 m) (h6 : S'.2.1 0 6 = nI s) : IC S' p (sds A m s) := by
  obtain ⟨c1, c2, c3, c4, c5, c6, c7, c8, c9⟩ := hC
  have hp := c1.2.1
  have e : ∀ b, (1 ≤ b ∧ b < 13) ∨ 22 < b → S'.2.1 b = S.2.1 b := fun b hb => (f.2.2 b (X0_f hb)).1
  refine ⟨rfC_fr c1 f, Cpal_fr c2 (fun b h1 h2 => e b (by omega)), h, Cpast_fr c4 (fun b h1 h2 => e b (by omega)), Cimg_fr c5 (fun b h1 h2 => e b (by omega)), h6, Ctext_fr c7 (e _ (by omega)) (e _ (by omega)), Cbook_fr c8 (e _ (by omega)) (e _ (by omega)) (e _ (by omega)), Ctail_fr c9 (fun a ha hk => ?_)⟩
  by_cases q : 13 ≤ a ∧ a ≤ 22
  · have := kd4_in 13 (by decide) (a - 13) (by omega) (by decide) (by rw [show 13 + (a - 13) = a by omega]; exact hk)
    have : a = 13 + 1 := by omega
    refine Or.inr (fun k h7 => ?_)
    rw [this, h.2.1]; exact slF_tl h7
  · have : a ≠ 0 := fun z => by subst z; exact absurd hk (by decide +kernel)
    exact Or.inl (e a (by omega))
theorem IM_sds {S : Mem} {A : Abs} {m : Nat → Nat} {s : Nat} (hM : IM S A) : IM (mds S s m) (sds A m s) := by
  obtain ⟨m1, m2, m3, m4, m5, m6, m7⟩ := hM
  exact ⟨Mpal_fr m1 (fun k hk => rfl) rfl rfl rfl, rfl, Mpast_fr m3 rfl rfl, Mimg_fr m4 rfl rfl, mds_8, Mtext_fr m6 rfl rfl rfl, Mbook_fr m7 rfl rfl⟩
theorem IW_sds {A : Abs} {m : Nat → Nat} {s : Nat} (h : IW A) (hm : gdN A.1.1 m) (hs : s < 2 ^ 31) : IW (sds A m s) := by
  obtain ⟨a1, a2, a3, a4, a5, a6, a7, a8⟩ := h
  exact ⟨a1, a2, hm, a4, a5, a6, hs, a8⟩
theorem mds_self {S : Mem} {n : Nat → Nat} {s : Nat} (h : S.2.2.1 220 = LL n) (h8 : S.2.2.1 216 8 = lN s) : mds S s n = S := by
  unfold mds
  have : vp_updL (S.2.2.1 216) 8 (lN s) = S.2.2.1 216 := by
    funext k; unfold vp_updL; by_cases q : k = 8
    · subst q; simp [h8]
    · simp [q]
  rw [this, rJ_same]; exact sn_self h
theorem lo_0 {S S' : Mem} (f : fr X0 S S') : fr lo S S' := f.mono (fun a ha => by
  have : ¬ a < 216 := of_decide_eq_false ha
  exact X0_f (by omega))
theorem op_15 (x y : Int32) (S : Mem) (h : Inv S) : ∃ S1, sk_15 x y S = some S1 ∧ Inv S1 := by
  obtain ⟨p, A, hC, hM, hW⟩ := id h
  have hR := hC.1
  have hS := hR.1
  have hP : wfP A.1.1 := hW.1
  have hr8 := hP.1
  have h6 := hP.2.2.1
  have hw : wfN A.1.1 9060 A.1.2.2 := hW.2.2.1.1
  have hcc := hW.2.2.1.2
  have hsd : A.2.2.1.2.2.2 < 2 ^ 31 := hW.2.2.2.2.2.2.1
  have l1 : ldJ S 220 (nI 1) = some (lN (A.1.2.2 1)) := ldn_ hS hM.2.1 (by decide)
  obtain ⟨dr, hd⟩ := dr_ex A.1.1
  rcases refuse (n := A.1.2.2) x hR hC.2.1.1 hC.2.2.1.1.1 hr8 hw.2.1 with ⟨k, rfl, k1, k2, h0, h9, e0⟩ | ⟨v, v0, e0, e1⟩
  · have hwl : wfN A.1.1 9000 A.1.2.2 := wf_low hw h9 hcc
    obtain ⟨S6, a1, a2, a3⟩ := c_push hC hW
    obtain ⟨S7, b1, b2, b3, b4⟩ := c_drift_b hd (s := A.2.2.1.2.2.2) hP h0 hw hsd (k := k) (by omega) k 0 FU S6 (by omega) (by unfold FU; omega) a2.1 a2.2.1.1 a2.2.2.1 a2.2.2.2.2.2.1
    have hR7 := rfC_fr a2.1 b2
    have hM7 := IM_fr hM (fr.tr a3 (lo_0 b2))
    obtain ⟨S8, d1, d2, d3⟩ := m_push hR7 hM7 hW
    have hR8 := rfC_fr hR7 d3
    have hm8 : RMb S8 A.1.1 := RMb_ hR8 d2.1 hW.1
    have e2 := m_drift_b hd (s := A.2.2.1.2.2.2) hR8 hm8 hP h0 hw (k := k) (by omega) k 0 FU (by omega) (by unfold FU; omega)
    have e3 : mds S8 A.2.2.1.2.2.2 A.1.2.2 = S8 := mds_self d2.2.1 d2.2.2.2.2.1
    change f_X9_drift_b47 FU 216 (nI k) (nI 0) (mds S8 A.2.2.1.2.2.2 A.1.2.2) = _ at e2
    rw [e3] at e2
    refine ⟨_, pick2 (v := nI ((drN A.1.1 dr k A.2.2.1.2.2.2 A.1.2.2).2 2)) (S1 := S7) (S2 := mds S8 (drN A.1.1 dr k A.2.2.1.2.2.2 A.1.2.2).1 (drN A.1.1 dr k A.2.2.1.2.2.2 A.1.2.2).2) ?_ ?_ hS hR7.1, Inv_mk (IC_sds a2 b2 b3 b4) (fr.tr d3 (fr.tr (fr.rowJ (by decide)) sn_hi)) (IM_sds d2) (IW_sds (IW_psh hW) ⟨wf_mono (drN_wf hd hP h0 hwl k) (by omega), drN_g hd hP h0 hwl hcc k⟩ (drN_s hd h0 hsd k))⟩
    · unfold f_X8_drift
      exact bs (c_0 hS) (bs e0 (bp nI00 (bs (r_0_3 hR) (bs (r_0_2 hR) (bs (c_23 hS) (bs a1 b1))))))
    · have i1 : f_X9_in (nI k).toInt64 (1 : Int64) (60 : Int64) = some (nI 1) := (in_kj (j := k) (a := 1) (b := 60) (by omega) (by omega) (by omega)).trans (by rw [if_pos (by omega)])
      have hr1 : S7.2.1 216 1 = nI (rms A.1.1) := hM7.1.2.1
      unfold f_X9_drift
      refine bs i1 (bn nI10 (bs ((mgI hR7.1 1).trans (congrArg some hr1)) (bn (fun z => by have := (r0_eq hr8).mp z; omega) (bs (R_7 hR7) (bs (ldn_ hR7.1 hM7.2.1 (by decide)) (bp ?_ (bs (mck hR7.1) (bs d1 e2))))))))
      rw [zj 9000, zi 0, lc_le (a := A.1.2.2 1) (b := 9000) (by have := hw.2.1; omega) (by omega)]; exact h9
  · refine ⟨_, pick2 (v := v) (S1 := S) (S2 := S) ?_ ?_ hS hS, h⟩
    · unfold f_X8_drift
      exact bs (c_0 hS) (bs e0 (bn v0 rfl))
    · have hr1 : S.2.1 216 1 = nI (rms A.1.1) := hM.1.2.1
      unfold f_X9_drift
      rcases e1 with ⟨rfl, e1⟩ | ⟨e1, ⟨h0, rfl⟩ | ⟨h0, h9, rfl⟩⟩
      · exact bs e1 (bp nI00 rfl)
      · exact bs e1 (bn nI10 (bs ((mgI hS 1).trans (congrArg some hr1)) (bp ((r0_eq hr8).mpr h0) rfl)))
      · refine bs e1 (bn nI10 (bs ((mgI hS 1).trans (congrArg some hr1)) (bn (fun z => by have := (r0_eq hr8).mp z; omega) (bs (R_7 hR) (bs l1 (bn ?_ rfl))))))
        rw [zj 9000, zi 0, lc_le (a := A.1.2.2 1) (b := 9000) (by have := hw.2.1; omega) (by omega)]; omega
