/-! quietest: rounds of the class -/
theorem c_spr {S : Mem} {p w : Nat} {P : Pal} {n : Nat → Nat} (hR : rfC S p) (hPa : PaR S p P) (hP : wfP P) (hst : StR S 13 P n) (hw : wfN P 9060 n) {u : Nat} (hu : u < rms P) {G : Nat → Int32} {f : Nat → Option Nat} {B : Nat} (hrel : relG G f) (hreal : realD (fun u v => opn P u (n 5) (n 6) v) (fun v => n (10 + v)) w f) (hbd : bdD B f) (hB : B + 72 < 2 ^ 20) (hs : ∃ s, f u = some s) :
    ∃ G' f', f_X8_spreadNoise 0 193 (nI u) (rowI S 193 G) = some (rowI S 193 G') ∧ relG G' f' ∧ decD f f' ∧ realD (fun u v => opn P u (n 5) (n 6) v) (fun v => n (10 + v)) w f' ∧ bdD (B + 72) f' ∧ ∀ v, v < rms P → hasE (fun u v => opn P u (n 5) (n 6) v) (fun v => n (10 + v)) f f' u v := by
  have hS := hR.1
  have hr8 := hP.1
  have hRT : rfC (rowI S 193 G) p := rfC_e hR rfl rfl
  obtain ⟨w0, w1, w2, w3, w4, w5, w6, w7, w8, w9, wn, wg, wc⟩ := wfb hP hw
  obtain ⟨G', f', b1, b2, b3, b4, b5, b6⟩ := c_spr_b hR hPa hP hst hw (u := u) (by omega) (rms P) 0 FU G f B (by omega) (by unfold FU; omega) hrel hreal hbd (by omega) hs
  refine ⟨G', f', ?_, b2, b3, b4, b5.mono (by omega), fun v h2 => b6 v (by omega) h2⟩
  have g6 : gI 4 6 (rowI S 193 G) 14 = some (nI (n 5)) := by rw [g_14 (by exact hS), row_n (by decide)]; exact congrArg (fun f => some (f 6)) hst.2.1
  have l15 : ldI (rowI S 193 G) 15 (nI u) = some (nI (bes P (n 6) u)) := by
    rw [ld_15 (by exact hS) (by omega), row_n (by decide)]
    exact congrArg some (hst.2.2.1 u (by omega))
  unfold f_X8_spreadNoise
  refine bs (r_0_2 hRT) (bs (r_13_0 hRT) (bs (r_14_7 hRT) (bs l15 (bs (r_0_2 hRT) (bs (r_13_0 hRT) (bs g6 ?_))))))
  rw [Option.bind_some, c_ahead (by omega)]
  exact b1
theorem c_qrd_b {S : Mem} {p w : Nat} {P : Pal} {n : Nat → Nat} (hR : rfC S p) (hPa : PaR S p P) (hP : wfP P) (hst : StR S 13 P n) (hw : wfN P 9060 n) (k36 : Nat → Int32 → Nat → Int32 → Mem → Option (Int32 × Mem)) {a i : Nat} :
    ∀ m k fu G f B, rms P = k + m → m < fu → relG G f → realD (fun u v => opn P u (n 5) (n 6) v) (fun v => n (10 + v)) w f → bdD B f → B + 72 * m < 2 ^ 19 →
    ∃ G' f', f_X8_quietest_b50 k36 fu 0 (nI a) 193 (nI i) (nI k) (rowI S 193 G) = k36 0 (nI a) 193 (nI (i + 1)) (rowI S 193 G') ∧ relG G' f' ∧ decD f f' ∧ realD (fun u v => opn P u (n 5) (n 6) v) (fun v => n (10 + v)) w f' ∧ bdD (B + 72 * m) f' ∧ ∀ u v, k ≤ u → u < rms P → v < rms P → hasE (fun u v => opn P u (n 5) (n 6) v) (fun v => n (10 + v)) f f' u v := by
  have hS := hR.1
  have hr8 := hP.1
  have hp := hR.2.1
  have hRT : ∀ G, rfC (rowI S 193 G) p := fun G => rfC_e hR rfl rfl
  have ep : ∀ G, gI 2 2 (rowI S 193 G) p = some (nI (rms P)) := fun G => by rw [g_p (by exact hS) hp, row_n (by omega), hPa.1]
  intro m
  induction m with
  | zero =>
    intro k fu G f B hk hf hrel hreal hbd hB
    obtain ⟨fu, rfl⟩ : ∃ z, fu = z + 1 := ⟨fu - 1, by omega⟩
    refine ⟨G, f, ?_, hrel, decD.rf, hreal, hbd, fun u v h1 h2 => by omega⟩
    rw [f_X8_quietest_b50]
    refine bs (r_0_1 (hRT G)) (bs (ep G) (bp (nI_le (by omega) (by omega)) ?_))
    rw [Option.bind_some, nI_1]
  | succ m ih =>
    intro k fu G f B hk hf hrel hreal hbd hB
    obtain ⟨fu, rfl⟩ : ∃ z, fu = z + 1 := ⟨fu - 1, by omega⟩
    have hfin : ∀ G1 f1, relG G1 f1 → decD f f1 → realD (fun u v => opn P u (n 5) (n 6) v) (fun v => n (10 + v)) w f1 → bdD (B + 72) f1 → (∀ v, v < rms P → hasE (fun u v => opn P u (n 5) (n 6) v) (fun v => n (10 + v)) f f1 k v) →
        ∃ G' f', f_X8_quietest_b77 k36 (fun a0 x1 a2 x3 x4 S => f_X8_quietest_b50 k36 fu a0 x1 a2 x3 x4 S) 0 (nI a) 193 (nI i) (nI k) (rowI S 193 G1) = k36 0 (nI a) 193 (nI (i + 1)) (rowI S 193 G') ∧ relG G' f' ∧ decD f f' ∧ realD (fun u v => opn P u (n 5) (n 6) v) (fun v => n (10 + v)) w f' ∧ bdD (B + 72 * (m + 1)) f' ∧ ∀ u v, k ≤ u → u < rms P → v < rms P → hasE (fun u v => opn P u (n 5) (n 6) v) (fun v => n (10 + v)) f f' u v := by
      intro G1 f1 a1 a2 a3 a4 a5
      obtain ⟨G', f', b1, b2, b3, b4, b5, b6⟩ := ih (k + 1) fu G1 f1 (B + 72) (by omega) (by omega) a1 a3 a4 (by omega)
      refine ⟨G', f', ?_, b2, a2.tr b3, b4, b5.mono (by omega), fun u v h1 h2 h3 => ?_⟩
      · unfold f_X8_quietest_b77
        rw [Option.bind_some, nI_1]; exact b1
      · by_cases q : u = k
        · subst q; exact (a5 v h3).r b3
        · exact (b6 u v (by omega) h2 h3).l a2
    rw [f_X8_quietest_b50]
    have hGk := hrel k (by omega)
    cases e : f k with
    | none =>
      obtain ⟨G', f', b1, b2⟩ := hfin G f hrel decD.rf hreal (hbd.mono (by omega)) (fun v _ _ s hs => by rw [e] at hs; exact absurd hs (by simp))
      refine ⟨G', f', ?_, b2⟩
      exact bs (r_0_1 (hRT G)) (bs (ep G) (bn (nI_ge (by omega) (by omega)) (bs (t_ld hS (by omega)) (bp (by rw [hGk, e]; rfl) b1))))
    | some t =>
      obtain ⟨G1, f1, d1, d2, d3, d4, d5, d6⟩ := c_spr hR hPa hP hst hw (u := k) (by omega) hrel hreal hbd (by omega) ⟨t, e⟩
      obtain ⟨G', f', b1, b2⟩ := hfin G1 f1 d2 d3 d4 d5 d6
      have := hbd k t e
      refine ⟨G', f', ?_, b2⟩
      exact bs (r_0_1 (hRT G)) (bs (ep G) (bn (nI_ge (by omega) (by omega)) (bs (t_ld hS (by omega)) (bn (by rw [hGk, e]; exact dbi_ne (by omega)) (bs (c_0 (by exact hS)) (bs d1 b1))))))
theorem opn_rm {P : Pal} (hP : wfP P) {n : Nat → Nat} : ∀ u v, (fun u v => opn P u (n 5) (n 6) v) u v = true → u < rms P ∧ v < rms P := by
  intro u v h
  have h : opn P u (n 5) (n 6) v = true := h
  rw [opn_opd, Bool.and_eq_true] at h
  exact ⟨(opd_rm hP h.1).2, (opd_rm hP h.1).1⟩
theorem c_qal_b {S : Mem} {p : Nat} {P : Pal} {n : Nat → Nat} (hR : rfC S p) (hPa : PaR S p P) (hP : wfP P) (hst : StR S 13 P n) (hw : wfN P 9060 n) {a : Nat} (ha : a < 8) :
    ∀ m k fu G f, rms P = k + m → m < fu → relG G f → realD (fun u v => opn P u (n 5) (n 6) v) (fun v => n (10 + v)) (n 2) f → bdD (576 * k) f → bndD (fun u v => opn P u (n 5) (n 6) v) (fun v => n (10 + v)) (n 2) k f →
    ∃ G' f', f_X8_quietest_b36 fu 0 (nI a) 193 (nI k) (rowI S 193 G) = some (dBi (f' a), rowI S 193 G') ∧ realD (fun u v => opn P u (n 5) (n 6) v) (fun v => n (10 + v)) (n 2) f' ∧ bndD (fun u v => opn P u (n 5) (n 6) v) (fun v => n (10 + v)) (n 2) (rms P) f' := by
  have hS := hR.1
  have hr8 := hP.1
  have hp := hR.2.1
  have hRT : ∀ G, rfC (rowI S 193 G) p := fun G => rfC_e hR rfl rfl
  have ep : ∀ G, gI 2 2 (rowI S 193 G) p = some (nI (rms P)) := fun G => by rw [g_p (by exact hS) hp, row_n (by omega), hPa.1]
  intro m
  induction m with
  | zero =>
    intro k fu G f hk hf hrel hreal hbd hbn
    obtain ⟨fu, rfl⟩ : ∃ z, fu = z + 1 := ⟨fu - 1, by omega⟩
    refine ⟨G, f, ?_, hreal, by rw [show rms P = k by omega]; exact hbn⟩
    rw [f_X8_quietest_b36]
    refine bs (r_0_1 (hRT G)) (bs (ep G) (bp (nI_le (by omega) (by omega)) (bs (t_ld hS ha) ?_)))
    rw [hrel a ha]
  | succ m ih =>
    intro k fu G f hk hf hrel hreal hbd hbn
    obtain ⟨fu, rfl⟩ : ∃ z, fu = z + 1 := ⟨fu - 1, by omega⟩
    obtain ⟨G1, f1, d1, d2, d3, d4, d5, d6⟩ := c_qrd_b (w := n 2) hR hPa hP hst hw (fun a0 x1 a2 x3 S => f_X8_quietest_b36 fu a0 x1 a2 x3 S) (a := a) (i := k) (rms P) 0 FU G f (576 * k) (by omega) (by unfold FU; omega) hrel hreal hbd (by omega)
    have hr : rndD (fun u v => opn P u (n 5) (n 6) v) (fun v => n (10 + v)) f f1 := ⟨d3, fun u v s he hs => by
      obtain ⟨z1, z2⟩ := opn_rm hP (n := n) u v he
      exact d6 u v (by omega) z1 z2 he s hs⟩
    obtain ⟨G', f', b1, b2⟩ := ih (k + 1) fu G1 f1 (by omega) (by omega) d2 d4 (d5.mono (by omega)) (bnd_s hbn hr)
    refine ⟨G', f', ?_, b2⟩
    rw [f_X8_quietest_b36]
    exact bs (r_0_1 (hRT G)) (bs (ep G) (bn (nI_ge (by omega) (by omega)) (d1.trans b1)))
def qf0 (w : Nat) : Nat → Option Nat := fun v => if v = w then some 0 else none
theorem qf0_real {Ed : Nat → Nat → Bool} {N : Nat → Nat} {w : Nat} : realD Ed N w (qf0 w) := by
  intro v s h
  unfold qf0 at h
  by_cases q : v = w
  · subst q
    rw [if_pos rfl] at h
    injection h with h
    subst h
    exact ⟨0, fun _ => v, ⟨rfl, rfl, fun i hi => by omega⟩, rfl⟩
  · rw [if_neg q] at h; exact absurd h (by simp)
theorem qf0_bd {w : Nat} : bdD 0 (qf0 w) := by
  intro v s h
  unfold qf0 at h
  by_cases q : v = w
  · rw [if_pos q] at h; injection h with h; omega
  · rw [if_neg q] at h; exact absurd h (by simp)
theorem qf0_bnd {Ed : Nat → Nat → Bool} {N : Nat → Nat} {w : Nat} : bndD Ed N w 0 (qf0 w) := bnd_0 (if_pos rfl)
/-- filling a row -/
theorem fill_b {S : Mem} {a N : Nat} {x : Int32} (h : a < S.1 ∧ kd a = 10) (hl : ln a = N) (hN : N < 1000) (G : Nat → Int32) : ∀ m k fu, N = k + m → m < fu → f_J7_fill_53178_b5 fu a x (nI k) (nI N) (rowI S a (fa_fill (fun _ => x) G k)) = some (rowI S a (fa_fill (fun _ => x) G N)) := by
  intro m
  induction m with
  | zero =>
    intro k fu hk hf
    obtain ⟨fu, rfl⟩ : ∃ z, fu = z + 1 := ⟨fu - 1, by omega⟩
    rw [f_J7_fill_53178_b5]
    exact bp (nI_le (by omega) (by omega)) (by rw [show k = N by omega])
  | succ m ih =>
    intro k fu hk hf
    obtain ⟨fu, rfl⟩ : ∃ z, fu = z + 1 := ⟨fu - 1, by omega⟩
    have ih := ih (k + 1) fu (by omega) (by omega)
    rw [f_J7_fill_53178_b5]
    refine bn (nI_ge (by omega) (by omega)) (bs (stI_n (S := rowI S a (fa_fill (fun _ => x) G k)) ⟨h.1, h.2, by omega⟩ (by omega)) ?_)
    rw [Option.bind_some, nI_1, row_s, rII, fa_fill_succ (fun _ => x) G k]; exact ih
theorem c_fill {S : Mem} {a N : Nat} {x : Int32} (h : a < S.1 ∧ kd a = 10) (hl : ln a = N) (hN : N < 1000) : f_J7_fill_53178 a x S = some (rowI S a (fa_fill (fun _ => x) (S.2.1 a) N)) := by
  unfold f_J7_fill_53178
  have := fill_b (x := x) h hl hN (S.2.1 a) N 0 FU (by omega) (by unfold FU; omega)
  rw [fa_fill_0, rI_same] at this
  refine bs (a := nI N) ?_ this
  unfold lnI
  rw [if_pos h, hl]; rfl
theorem c_quiet {S : Mem} {p : Nat} {P : Pal} {n : Nat → Nat} (hR : rfC S p) (hPa : PaR S p P) (hP : wfP P) (hst : StR S 13 P n) (hw : wfN P 9060 n) {a : Nat} (ha : a < rms P) :
    ∃ G f, f_X8_quietest 0 (nI a) S = some (dBi (f a), rowI S 193 G) ∧ realD (fun u v => opn P u (n 5) (n 6) v) (fun v => n (10 + v)) (n 2) f ∧ bndD (fun u v => opn P u (n 5) (n 6) v) (fun v => n (10 + v)) (n 2) (rms P) f := by
  have hS := hR.1
  have hr8 := hP.1
  obtain ⟨w0, w1, w2, w3, w4, w5, w6, w7, w8, w9, wn, wg, wc⟩ := wfb hP hw
  have hfl := c_fill (S := S) (a := 193) (N := 8) (x := (-1 : Int32)) ⟨by rw [hS]; decide, by decide +kernel⟩ (by decide +kernel) (by decide)
  have hrel : relG (upd (fa_fill (fun _ => (-1 : Int32)) (S.2.1 193) 8) (n 2) (nI 0)) (qf0 (n 2)) := by
    intro b hb
    unfold qf0
    by_cases q : b = n 2
    · rw [q, upd_s, if_pos rfl]; rfl
    · rw [upd_n q, if_neg q, fa_fill_in hb]; rfl
  obtain ⟨G, f, d1, d2, d3⟩ := c_qal_b hR hPa hP hst hw (a := a) (by omega) (rms P) 0 FU _ (qf0 (n 2)) (by omega) (by unfold FU; omega) hrel qf0_real (qf0_bd.mono (by omega)) qf0_bnd
  refine ⟨G, f, ?_, d2, d3⟩
  have hRT : ∀ G, rfC (rowI S 193 G) p := fun G => rfC_e hR rfl rfl
  have g1 : ∀ G, gI 4 1 (rowI S 193 G) 14 = some (nI (n 2)) := fun G => by rw [g_14 (by exact hS), row_n (by decide)]; exact congrArg (fun f => some (f 1)) hst.2.1
  unfold f_X8_quietest
  exact bs (c_0 hS) (bs (c_noRoom0 hR hPa.1 hr8 ha) (bp nI00 (bs (r_0_9 hR) (bs hfl (bs (r_0_2 (hRT _)) (bs (r_13_0 (hRT _)) (bs (g1 _) (bs (t_st hS (by omega) _) d1))))))))
