/-! quietest: the class -/
def hasE (Ed : Nat → Nat → Bool) (N : Nat → Nat) (f f' : Nat → Option Nat) (u v : Nat) : Prop := Ed u v = true → ∀ s, f u = some s → ∃ t, f' v = some t ∧ t ≤ s + N v
theorem hasE.l {Ed : Nat → Nat → Bool} {N : Nat → Nat} {f f1 f2 : Nat → Option Nat} {u v : Nat} (h : decD f f1) (h' : hasE Ed N f1 f2 u v) : hasE Ed N f f2 u v := fun he s hs => by
  obtain ⟨s1, a1, a2⟩ := h u s hs
  obtain ⟨t, b1, b2⟩ := h' he s1 a1
  exact ⟨t, b1, by omega⟩
theorem hasE.r {Ed : Nat → Nat → Bool} {N : Nat → Nat} {f f1 f2 : Nat → Option Nat} {u v : Nat} (h : hasE Ed N f f1 u v) (h' : decD f1 f2) : hasE Ed N f f2 u v := fun he s hs => by
  obtain ⟨t, b1, b2⟩ := h he s hs
  obtain ⟨t1, a1, a2⟩ := h' v t b1
  exact ⟨t1, a1, by omega⟩
def relG (G : Nat → Int32) (f : Nat → Option Nat) : Prop := ∀ a, a < 8 → G a = dBi (f a)
theorem rel_st {G : Nat → Int32} {f : Nat → Option Nat} {v x : Nat} (h : relG G f) (hv : f v = none ∨ ∃ t, f v = some t ∧ ¬ t ≤ x) : relG (upd G v (nI x)) (rlv f v x) := by
  intro a ha
  unfold rlv
  by_cases q : a = v
  · subst q
    rw [upd_s, if_pos rfl]
    rcases hv with e | ⟨t, e, z⟩
    · rw [e]; rfl
    · rw [e]; dsimp only; rw [if_neg z]; rfl
  · rw [upd_n q, if_neg q]; exact h a ha
theorem rel_no {G : Nat → Int32} {f : Nat → Option Nat} {v x t : Nat} (h : relG G f) (e : f v = some t) (z : t ≤ x) : relG G (rlv f v x) := by
  intro a ha
  unfold rlv
  by_cases q : a = v
  · subst q
    rw [if_pos rfl, h a ha, e]; dsimp only; rw [if_pos z]
  · rw [if_neg q]; exact h a ha
theorem row_s {S : Mem} {a : Nat} {G : Nat → Int32} : (rowI S a G).2.1 a = G := if_pos rfl
theorem row_n {S : Mem} {a b : Nat} {G : Nat → Int32} (h : b ≠ a) : (rowI S a G).2.1 b = S.2.1 b := if_neg h
theorem t_ld {S : Mem} {G : Nat → Int32} (h : S.1 = 233) {k : Nat} (hk : k < 8) : ldI (rowI S 193 G) 193 (nI k) = some (G k) := by
  rw [ld_193 (by exact h) hk, row_s]
theorem t_st {S : Mem} {G : Nat → Int32} (h : S.1 = 233) {k : Nat} (hk : k < 8) (v : Int32) : stI (rowI S 193 G) 193 (nI k) v = some (rowI S 193 (upd G k v)) := by
  rw [st_193 (by exact h) hk, row_s, rII]
theorem dbi_ne {t : Nat} (h : t < 2 ^ 31) : ¬ dBi (some t) = (-1 : Int32) := z_nem1 h
theorem ahd_bit {P : Pal} {u na br k : Nat} (hk : k < 8) : (ahd P u na br).testBit k = opn P u na br k := by
  unfold ahd
  rw [sto_bit]; simp [hk]
theorem ahd_lt {P : Pal} {u na br : Nat} : ahd P u na br < 2 ^ 8 := sto_lt _ _
theorem c_spr_b {S : Mem} {p w : Nat} {P : Pal} {n : Nat → Nat} (hR : rfC S p) (hPa : PaR S p P) (hP : wfP P) (hst : StR S 13 P n) (hw : wfN P 9060 n) {u : Nat} (hu : u < 8) :
    ∀ m k fu G f B, rms P = k + m → m < fu → relG G f → realD (fun u v => opn P u (n 5) (n 6) v) (fun v => n (10 + v)) w f → bdD B f → B + 9 * m < 2 ^ 20 → (∃ s, f u = some s) →
    ∃ G' f', f_X8_spreadNoise_b29 fu 0 193 (nI u) (nI (ahd P u (n 5) (n 6))) (nI k) (rowI S 193 G) = some (rowI S 193 G') ∧ relG G' f' ∧ decD f f' ∧ realD (fun u v => opn P u (n 5) (n 6) v) (fun v => n (10 + v)) w f' ∧ bdD (B + 9 * m) f' ∧ ∀ v, k ≤ v → v < rms P → hasE (fun u v => opn P u (n 5) (n 6) v) (fun v => n (10 + v)) f f' u v := by
  have hS := hR.1
  have hr8 := hP.1
  have hp := hR.2.1
  obtain ⟨w0, w1, w2, w3, w4, w5, w6, w7, w8, w9, wn, wg, wc⟩ := wfb hP hw
  have l1 := noi_lt (n := n) hP.1 (fun a ha => by have := wn a ha; omega)
  have hRT : ∀ G, rfC (rowI S 193 G) p := fun G => rfC_e hR rfl rfl
  have ep : ∀ G, gI 2 2 (rowI S 193 G) p = some (nI (rms P)) := fun G => by rw [g_p (by exact hS) hp, row_n (by omega), hPa.1]
  have g3 : ∀ G, gI 4 3 (rowI S 193 G) 14 = some (nI (noiN P n)) := fun G => by rw [g_14 (by exact hS), row_n (by decide)]; exact congrArg (fun f => some (f 3)) hst.2.1
  intro m
  induction m with
  | zero =>
    intro k fu G f B hk hf hrel hreal hbd hB hs
    obtain ⟨fu, rfl⟩ : ∃ z, fu = z + 1 := ⟨fu - 1, by omega⟩
    refine ⟨G, f, ?_, hrel, decD.rf, hreal, hbd, fun v h1 h2 => by omega⟩
    rw [f_X8_spreadNoise_b29]
    exact bs (r_0_1 (hRT G)) (bs (ep G) (bp (nI_le (by omega) (by omega)) rfl))
  | succ m ih =>
    intro k fu G f B hk hf hrel hreal hbd hB hs
    obtain ⟨fu, rfl⟩ : ∃ z, fu = z + 1 := ⟨fu - 1, by omega⟩
    obtain ⟨s, hs⟩ := hs
    have hsB := hbd u s hs
    have hk10 := wn k (by omega)
    have hfin : ∀ G1 f1, relG G1 f1 → decD f f1 → realD (fun u v => opn P u (n 5) (n 6) v) (fun v => n (10 + v)) w f1 → bdD (B + 9) f1 → hasE (fun u v => opn P u (n 5) (n 6) v) (fun v => n (10 + v)) f f1 u k →
        ∃ G' f', f_X8_spreadNoise_b95 (fun a0 a1 x2 x3 x4 S => f_X8_spreadNoise_b29 fu a0 a1 x2 x3 x4 S) 0 193 (nI u) (nI (ahd P u (n 5) (n 6))) (nI k) (rowI S 193 G1) = some (rowI S 193 G') ∧ relG G' f' ∧ decD f f' ∧ realD (fun u v => opn P u (n 5) (n 6) v) (fun v => n (10 + v)) w f' ∧ bdD (B + 9 * (m + 1)) f' ∧ ∀ v, k ≤ v → v < rms P → hasE (fun u v => opn P u (n 5) (n 6) v) (fun v => n (10 + v)) f f' u v := by
      intro G1 f1 a1 a2 a3 a4 a5
      obtain ⟨s1, hs1, -⟩ := a2 u s hs
      obtain ⟨G', f', b1, b2, b3, b4, b5, b6⟩ := ih (k + 1) fu G1 f1 (B + 9) (by omega) (by omega) a1 a3 a4 (by omega) ⟨s1, hs1⟩
      refine ⟨G', f', ?_, b2, a2.tr b3, b4, b5.mono (by omega), fun v h1 h2 => ?_⟩
      · unfold f_X8_spreadNoise_b95
        rw [Option.bind_some, nI_1]; exact b1
      · by_cases q : v = k
        · subst q; exact a5.r b3
        · exact (b6 v (by omega) h2).l a2
    have hst89 : opn P u (n 5) (n 6) k = true → (f k = none ∨ ∃ t, f k = some t ∧ ¬ t ≤ s + n (10 + k)) → ∃ G' f', f_X8_spreadNoise_b89 (fun a0 a1 x2 x3 x4 S => f_X8_spreadNoise_b29 fu a0 a1 x2 x3 x4 S) 0 193 (nI u) (nI (ahd P u (n 5) (n 6))) (nI k) (nI (s + n (10 + k))) (rowI S 193 G) = some (rowI S 193 G') ∧ relG G' f' ∧ decD f f' ∧ realD (fun u v => opn P u (n 5) (n 6) v) (fun v => n (10 + v)) w f' ∧ bdD (B + 9 * (m + 1)) f' ∧ ∀ v, k ≤ v → v < rms P → hasE (fun u v => opn P u (n 5) (n 6) v) (fun v => n (10 + v)) f f' u v := by
      intro he hv
      obtain ⟨G', f', b1, b2⟩ := hfin (upd G k (nI (s + n (10 + k)))) (rlv f k (s + n (10 + k))) (rel_st hrel hv) rlv_dec (rlv_real (Ed := fun u v => opn P u (n 5) (n 6) v) (N := fun v => n (10 + v)) hreal he hs) (rlv_bd hbd hs hk10) (fun _ z hz => by
        rw [hs] at hz; injection hz with hz; subst hz; exact rlv_at)
      refine ⟨G', f', ?_, b2⟩
      unfold f_X8_spreadNoise_b89
      exact bs (t_st hS (by omega) _) b1
    have hsum : dBi (some s) + f_X8_packedAt (nI (noiN P n)) (nI k) = nI (s + n (10 + k)) := by
      rw [c_pkAt l1 (by omega), pn_noi hP hw (by omega)]; exact nI_add _ _
    have hGu : G u = dBi (some s) := by rw [hrel u hu, hs]
    have hGk := hrel k (by omega)
    rw [f_X8_spreadNoise_b29]
    have pre : ∀ (r : Option Mem), (if nI (if opn P u (n 5) (n 6) k then 1 else 0) = (1 : Int32) then
      (ldI (rowI S 193 G) 193 (nI k)).bind fun v17 =>
      (if v17 = (-1 : Int32) then
      f_X8_spreadNoise_b89 (fun a0 a1 x2 x3 x4 S => f_X8_spreadNoise_b29 fu a0 a1 x2 x3 x4 S) 0 193 (nI u) (nI (ahd P u (n 5) (n 6))) (nI k) (nI (s + n (10 + k))) (rowI S 193 G)
      else
      (ldI (rowI S 193 G) 193 (nI k)).bind fun v19 =>
      (if v19 ≤ nI (s + n (10 + k)) then
      f_X8_spreadNoise_b95 (fun a0 a1 x2 x3 x4 S => f_X8_spreadNoise_b29 fu a0 a1 x2 x3 x4 S) 0 193 (nI u) (nI (ahd P u (n 5) (n 6))) (nI k) (rowI S 193 G)
      else
      f_X8_spreadNoise_b89 (fun a0 a1 x2 x3 x4 S => f_X8_spreadNoise_b29 fu a0 a1 x2 x3 x4 S) 0 193 (nI u) (nI (ahd P u (n 5) (n 6))) (nI k) (nI (s + n (10 + k))) (rowI S 193 G)))
      else
      f_X8_spreadNoise_b95 (fun a0 a1 x2 x3 x4 S => f_X8_spreadNoise_b29 fu a0 a1 x2 x3 x4 S) 0 193 (nI u) (nI (ahd P u (n 5) (n 6))) (nI k) (rowI S 193 G)) = r → ((gR 8 1 (rowI S 193 G) 0).bind fun r9 =>
      (gI 2 2 (rowI S 193 G) r9).bind fun v10 =>
      (if v10 ≤ nI k then
      some (rowI S 193 G)
      else
      (ldI (rowI S 193 G) 193 (nI u)).bind fun v11 =>
      (gR 8 2 (rowI S 193 G) 0).bind fun r12 =>
      (gR 5 0 (rowI S 193 G) r12).bind fun r13 =>
      (gI 4 3 (rowI S 193 G) r13).bind fun v14 =>
      (some (v11 + (f_X8_packedAt v14 (nI k)))).bind fun v15 =>
      (if (f_X8_bit (nI (ahd P u (n 5) (n 6))) (nI k)) = (1 : Int32) then
      (ldI (rowI S 193 G) 193 (nI k)).bind fun v17 =>
      (if v17 = (-1 : Int32) then
      f_X8_spreadNoise_b89 (fun a0 a1 x2 x3 x4 S => f_X8_spreadNoise_b29 fu a0 a1 x2 x3 x4 S) 0 193 (nI u) (nI (ahd P u (n 5) (n 6))) (nI k) v15 (rowI S 193 G)
      else
      (ldI (rowI S 193 G) 193 (nI k)).bind fun v19 =>
      (if v19 ≤ v15 then
      f_X8_spreadNoise_b95 (fun a0 a1 x2 x3 x4 S => f_X8_spreadNoise_b29 fu a0 a1 x2 x3 x4 S) 0 193 (nI u) (nI (ahd P u (n 5) (n 6))) (nI k) (rowI S 193 G)
      else
      f_X8_spreadNoise_b89 (fun a0 a1 x2 x3 x4 S => f_X8_spreadNoise_b29 fu a0 a1 x2 x3 x4 S) 0 193 (nI u) (nI (ahd P u (n 5) (n 6))) (nI k) v15 (rowI S 193 G)))
      else
      f_X8_spreadNoise_b95 (fun a0 a1 x2 x3 x4 S => f_X8_spreadNoise_b29 fu a0 a1 x2 x3 x4 S) 0 193 (nI u) (nI (ahd P u (n 5) (n 6))) (nI k) (rowI S 193 G)))) = r := by
      intro r hr
      refine bs (r_0_1 (hRT G)) (bs (ep G) (bn (nI_ge (by omega) (by omega)) (bs (t_ld hS hu) (bs (r_0_2 (hRT G)) (bs (r_13_0 (hRT G)) (bs (g3 G) ?_))))))
      have hab := ahd_lt (P := P) (u := u) (na := n 5) (br := n 6)
      rw [Option.bind_some, hGu, hsum, c_bit (by omega) (by omega), ahd_bit (by omega)]
      exact hr
    cases he : opn P u (n 5) (n 6) k with
    | false =>
      obtain ⟨G', f', b1, b2⟩ := hfin G f hrel decD.rf hreal (hbd.mono (by omega)) (fun z => by
        have z' : opn P u (n 5) (n 6) k = true := z
        rw [he] at z'; exact absurd z' (by simp))
      refine ⟨G', f', pre _ ?_, b2⟩
      rw [he]
      exact bn (by decide) b1
    | true =>
      cases e : f k with
      | none =>
        obtain ⟨G', f', b1, b2⟩ := hst89 he (Or.inl e)
        refine ⟨G', f', pre _ ?_, b2⟩
        rw [he]
        exact bp rfl (bs (t_ld hS (by omega)) (bp (by rw [hGk, e]; rfl) b1))
      | some t =>
        have htB := hbd k t e
        by_cases z : t ≤ s + n (10 + k)
        · obtain ⟨G', f', b1, b2⟩ := hfin G (rlv f k (s + n (10 + k))) (rel_no hrel e z) rlv_dec (rlv_real (Ed := fun u v => opn P u (n 5) (n 6) v) (N := fun v => n (10 + v)) hreal he hs) (rlv_bd hbd hs hk10) (fun _ y hy => by
            rw [hs] at hy; injection hy with hy; subst hy; exact rlv_at)
          refine ⟨G', f', pre _ ?_, b2⟩
          rw [he]
          exact bp rfl (bs (t_ld hS (by omega)) (bn (by rw [hGk, e]; exact dbi_ne (by omega)) (bs (t_ld hS (by omega)) (bp (by rw [hGk, e]; exact nI_le z (by omega)) b1))))
        · obtain ⟨G', f', b1, b2⟩ := hst89 he (Or.inr ⟨t, e, z⟩)
          refine ⟨G', f', pre _ ?_, b2⟩
          rw [he]
          exact bp rfl (bs (t_ld hS (by omega)) (bn (by rw [hGk, e]; exact dbi_ne (by omega)) (bs (t_ld hS (by omega)) (bn (by rw [hGk, e]; exact nI_ge (by omega) (by omega)) b1))))
