/-! quietest: the model -/
theorem v_ld {S : Mem} {G : Nat → Int32} (h : S.1 = 233) {k : Nat} (hk : k < 8) : ldI (rowI S 225 G) 225 (nI k) = some (G k) := by
  rw [ld_225 (by exact h) hk, row_s]
theorem v_st {S : Mem} {G : Nat → Int32} (h : S.1 = 233) {k : Nat} (hk : k < 8) (v : Int32) : stI (rowI S 225 G) 225 (nI k) v = some (rowI S 225 (upd G k v)) := by
  rw [st_225 (by exact h) hk, row_s, rII]
theorem dbi_neg : dBi none < (0 : Int32) := by decide
theorem m_ent {S : Mem} {p w : Nat} {P : Pal} {n : Nat → Nat} (hR : rfC S p) (hM : RMb S P) (hn : S.2.2.1 220 = LL n) (hw : wfN P 9060 n) {u v d : Nat} (hu : u < rms P) (hv : v < rms P) (hd : d < drs P) (hdb : dB P u v (drs P) = some d) {G : Nat → Int32} {f : Nat → Option Nat} {B : Nat} (hrel : relG G f) (hreal : realD (fun u v => opn P u (n 5) (n 6) v) (fun v => n (10 + v)) w f) (hbd : bdD B f) (hB : B + 9 < 2 ^ 20) :
    ∃ G' f', f_X9_enters 216 (nI u) (nI v) (nI d) (rowI S 225 G) = some (rowI S 225 G') ∧ relG G' f' ∧ decD f f' ∧ realD (fun u v => opn P u (n 5) (n 6) v) (fun v => n (10 + v)) w f' ∧ bdD (B + 9) f' ∧ hasE (fun u v => opn P u (n 5) (n 6) v) (fun v => n (10 + v)) f f' u v := by
  have hS := hR.1
  have hP := hM.2.2.2.2.2.2.2
  have hr8 := hP.1
  have hd12 := hP.2.1
  obtain ⟨w0, w1, w2, w3, w4, w5, w6, w7, w8, w9, wn, wg, wc⟩ := wfb hP hw
  have hRT : rfC (rowI S 225 G) p := rfC_e hR rfl rfl
  have hnT : (rowI S 225 G).2.2.1 220 = LL n := hn
  have l6 : ldJ (rowI S 225 G) 220 (6 : Int32) = some (lN (n 6)) := ldn_ (by exact hS) hnT (k := 6) (by decide)
  have l5 : ldJ (rowI S 225 G) 220 (5 : Int32) = some (lN (n 5)) := ldn_ (by exact hS) hnT (k := 5) (by decide)
  have hGu := hrel u (by omega)
  have hGv := hrel v (by omega)
  have he : opn P u (n 5) (n 6) v = (!(n 6).testBit d && !(n 5).testBit v) := by unfold opn; rw [hdb]
  have same : (opn P u (n 5) (n 6) v = false ∨ f u = none) → ∃ G' f', some (rowI S 225 G) = some (rowI S 225 G') ∧ relG G' f' ∧ decD f f' ∧ realD (fun u v => opn P u (n 5) (n 6) v) (fun v => n (10 + v)) w f' ∧ bdD (B + 9) f' ∧ hasE (fun u v => opn P u (n 5) (n 6) v) (fun v => n (10 + v)) f f' u v := fun h => ⟨G, f, rfl, hrel, decD.rf, hreal, hbd.mono (by omega), fun z s hs => by
    have z' : opn P u (n 5) (n 6) v = true := z
    rcases h with h | h
    · rw [h] at z'; exact absurd z' (by simp)
    · rw [h] at hs; exact absurd hs (by simp)⟩
  unfold f_X9_enters f_X9_enters_b78
  rw [R_18 hRT, Option.bind_some, v_ld hS (by omega), Option.bind_some, R_7 hRT]
  cases es : f u with
  | none =>
    obtain ⟨G', f', b1, b2⟩ := same (Or.inr es)
    exact ⟨G', f', bp (by rw [hGu, es]; exact dbi_neg) b1, b2⟩
  | some s =>
    have hsB := hbd u s es
    have hk10 := wn v (by omega)
    have hlt : ¬ G u < (0 : Int32) := by rw [hGu, es]; exact nI_pos (by omega)
    cases e6 : (n 6).testBit d with
    | true =>
      obtain ⟨G', f', b1, b2⟩ := same (Or.inl (by rw [he, e6]; rfl))
      refine ⟨G', f', bn hlt (bs rfl (bs l6 (bs (m_has (by omega) (by omega)) ?_))), b2⟩
      rw [e6]; exact bn nI10 b1
    | false =>
      cases e5 : (n 5).testBit v with
      | true =>
        obtain ⟨G', f', b1, b2⟩ := same (Or.inl (by rw [he, e5]; simp))
        refine ⟨G', f', bn hlt (bs rfl (bs l6 (bs (m_has (by omega) (by omega)) ?_))), b2⟩
        rw [e6]
        refine bp nI00 (bs rfl (bs l5 (bs (m_has (by omega) (by omega)) ?_)))
        rw [e5]; exact bn nI10 b1
      | false =>
        have het : opn P u (n 5) (n 6) v = true := by rw [he, e6, e5]; rfl
        have hat : f_X9_at 216 ((10 : Int32) + nI v) (rowI S 225 G) = some (nI (n (10 + v))) := by
          rw [zi 10, nI_add]
          exact at_ (rfC_M hRT) hnT (by omega)
        have fin : ∀ G1, relG G1 (rlv f v (s + n (10 + v))) → ∃ G' f', some (rowI S 225 G1) = some (rowI S 225 G') ∧ relG G' f' ∧ decD f f' ∧ realD (fun u v => opn P u (n 5) (n 6) v) (fun v => n (10 + v)) w f' ∧ bdD (B + 9) f' ∧ hasE (fun u v => opn P u (n 5) (n 6) v) (fun v => n (10 + v)) f f' u v := fun G1 h1 => ⟨G1, rlv f v (s + n (10 + v)), rfl, h1, rlv_dec, rlv_real (Ed := (fun u v => opn P u (n 5) (n 6) v)) (N := (fun v => n (10 + v))) hreal het es, rlv_bd hbd es hk10, fun _ z hz => by
          rw [es] at hz; injection hz with hz; subst hz; exact rlv_at⟩
        have pre : ∀ r : Option Mem, (if G v < (0 : Int32) then
            (stI (rowI S 225 G) 225 (nI v) (nI (s + n (10 + v)))).bind fun S17 => some S17
            else (gR 9 18 (rowI S 225 G) 216).bind fun r18 => (ldI (rowI S 225 G) r18 (nI v)).bind fun v19 =>
              if v19 ≤ nI (s + n (10 + v)) then
                (gR 9 18 (rowI S 225 G) 216).bind fun r20 => (ldI (rowI S 225 G) r20 (nI v)).bind fun v21 => (stI (rowI S 225 G) 225 (nI v) v21).bind fun S22 => some S22
              else (stI (rowI S 225 G) 225 (nI v) (nI (s + n (10 + v)))).bind fun S17 => some S17) = r →
            (if G u < (0 : Int32) then some (rowI S 225 G) else
              (some 220).bind fun r3 => (ldJ (rowI S 225 G) r3 (6 : Int32)).bind fun u4 => (f_X9_has u4 (nI d)).bind fun v5 =>
              if v5 = (0 : Int32) then (some 220).bind fun r6 => (ldJ (rowI S 225 G) r6 (5 : Int32)).bind fun u7 => (f_X9_has u7 (nI v)).bind fun v8 =>
                if v8 = (0 : Int32) then (some 225).bind fun r9 => (ldI (rowI S 225 G) r9 (nI u)).bind fun v10 => (ck 9 (rowI S 225 G) 216).bind fun c11 => (f_X9_at 216 ((10 : Int32) + nI v) (rowI S 225 G)).bind fun v12 => (some (v10 + v12)).bind fun v13 =>
                  (some 225).bind fun r14 => (some 225).bind fun r15 => (ldI (rowI S 225 G) r15 (nI v)).bind fun v16 =>
                  if v16 < (0 : Int32) then (stI (rowI S 225 G) r14 (nI v) v13).bind fun S17 => some S17
                  else (some 225).bind fun r18 => (ldI (rowI S 225 G) r18 (nI v)).bind fun v19 =>
                    if v19 ≤ v13 then (some 225).bind fun r20 => (ldI (rowI S 225 G) r20 (nI v)).bind fun v21 => (stI (rowI S 225 G) r14 (nI v) v21).bind fun S22 => some S22
                    else (stI (rowI S 225 G) r14 (nI v) v13).bind fun S17 => some S17
                else some (rowI S 225 G)
              else some (rowI S 225 G)) = r := by
          intro r hr
          rw [R_18 hRT] at hr
          refine bn hlt (bs rfl (bs l6 (bs (m_has (by omega) (by omega)) ?_)))
          rw [e6]
          refine bp nI00 (bs rfl (bs l5 (bs (m_has (by omega) (by omega)) ?_)))
          rw [e5]
          refine bp nI00 (bs rfl (bs (v_ld hS (by omega)) (bs (mck (by exact hS)) (bs hat ?_))))
          rw [Option.bind_some, hGu, es, show dBi (some s) + nI (n (10 + v)) = nI (s + n (10 + v)) from nI_add _ _]
          exact bs rfl (bs rfl (bs (v_ld hS (by omega)) hr))
        cases ev : f v with
        | none =>
          obtain ⟨G', f', b1, b2⟩ := fin (upd G v (nI (s + n (10 + v)))) (rel_st hrel (Or.inl ev))
          refine ⟨G', f', pre _ (bp (by rw [hGv, ev]; exact dbi_neg) (bs (v_st hS (by omega) _) b1)), b2⟩
        | some t =>
          have htB := hbd v t ev
          have hlv : ¬ G v < (0 : Int32) := by rw [hGv, ev]; exact nI_pos (by omega)
          by_cases z : t ≤ s + n (10 + v)
          · obtain ⟨G', f', b1, b2⟩ := fin G (rel_no hrel ev z)
            refine ⟨G', f', pre _ (bn hlv (bs (R_18 hRT) (bs (v_ld hS (by omega)) (bp (by rw [hGv, ev]; exact nI_le z (by omega)) (bs (R_18 hRT) (bs (v_ld hS (by omega)) (bs (v_st hS (by omega) _) ?_))))))), b2⟩
            rw [fa_upd_same rfl]; exact b1
          · obtain ⟨G', f', b1, b2⟩ := fin (upd G v (nI (s + n (10 + v)))) (rel_st hrel (Or.inr ⟨t, ev, z⟩))
            exact ⟨G', f', pre _ (bn hlv (bs (R_18 hRT) (bs (v_ld hS (by omega)) (bn (by rw [hGv, ev]; exact nI_ge (by omega) (by omega)) (bs (v_st hS (by omega) _) b1))))), b2⟩
theorem m_qrd_b {S : Mem} {p w : Nat} {P : Pal} {n : Nat → Nat} (hR : rfC S p) (hM : RMb S P) (hn : S.2.2.1 220 = LL n) (hw : wfN P 9060 n) (k47 : Nat → Int32 → Int32 → Mem → Option (Int32 × Mem)) {a i : Nat} :
    ∀ m k fu G f B, drs P = k + m → m < fu → relG G f → realD (fun u v => opn P u (n 5) (n 6) v) (fun v => n (10 + v)) w f → bdD B f → B + 18 * m < 2 ^ 19 →
    ∃ G' f', f_X9_quietest_b57 k47 fu 216 (nI a) (nI i) (nI k) (rowI S 225 G) = k47 216 (nI a) (nI (i + 1)) (rowI S 225 G') ∧ relG G' f' ∧ decD f f' ∧ realD (fun u v => opn P u (n 5) (n 6) v) (fun v => n (10 + v)) w f' ∧ bdD (B + 18 * m) f' ∧ ∀ d, k ≤ d → d < drs P → hasE (fun u v => opn P u (n 5) (n 6) v) (fun v => n (10 + v)) f f' (dfr P d) (dto P d) ∧ hasE (fun u v => opn P u (n 5) (n 6) v) (fun v => n (10 + v)) f f' (dto P d) (dfr P d) := by
  have hS := hR.1
  have hP := hM.2.2.2.2.2.2.2
  have hr8 := hP.1
  have hd12 := hP.2.1
  have hRT : ∀ G, rfC (rowI S 225 G) p := fun G => rfC_e hR rfl rfl
  have hg : ∀ G, gI 9 2 (rowI S 225 G) 216 = some (nI (drs P)) := fun G => (mgI (by exact hS) 2).trans (congrArg some hM.2.2.1)
  intro m
  induction m with
  | zero =>
    intro k fu G f B hk hf hrel hreal hbd hB
    obtain ⟨fu, rfl⟩ : ∃ z, fu = z + 1 := ⟨fu - 1, by omega⟩
    refine ⟨G, f, ?_, hrel, decD.rf, hreal, hbd, fun d h1 h2 => by omega⟩
    rw [f_X9_quietest_b57]
    refine bs (hg G) (bp (nI_le (by omega) (by omega)) ?_)
    rw [Option.bind_some, nI_1]
  | succ m ih =>
    intro k fu G f B hk hf hrel hreal hbd hB
    obtain ⟨fu, rfl⟩ : ∃ z, fu = z + 1 := ⟨fu - 1, by omega⟩
    obtain ⟨f1, f2, f3⟩ := hP.2.2.2.1 k (by omega)
    obtain ⟨q1, q2⟩ := dB_door hP (d := k) (by omega)
    have a1 : ∀ G, ldI (rowI S 225 G) 217 (nI k) = some (nI (dfr P k)) := fun G => by rw [ld_217 (by exact hS) (by omega), row_n (by decide), hM.2.2.2.2.1 k (by omega)]
    have a2 : ∀ G, ldI (rowI S 225 G) 218 (nI k) = some (nI (dto P k)) := fun G => by rw [ld_218 (by exact hS) (by omega), row_n (by decide), hM.2.2.2.2.2.1 k (by omega)]
    obtain ⟨G1, g1, c1, c2, c3, c4, c5, c6⟩ := m_ent (w := w) hR hM hn hw (u := dfr P k) (v := dto P k) (d := k) f1 f2 (by omega) q1 hrel hreal hbd (by omega)
    obtain ⟨G2, g2, d1, d2, d3, d4, d5, d6⟩ := m_ent (w := w) hR hM hn hw (u := dto P k) (v := dfr P k) (d := k) f2 f1 (by omega) q2 c2 c4 c5 (by omega)
    obtain ⟨G', f', b1, b2, b3, b4, b5, b6⟩ := ih (k + 1) fu G2 g2 (B + 9 + 9) (by omega) (by omega) d2 d4 d5 (by omega)
    refine ⟨G', f', ?_, b2, (c3.tr d3).tr b3, b4, b5.mono (by omega), fun d h1 h2 => ?_⟩
    · rw [f_X9_quietest_b57]
      refine bs (hg G) (bn (nI_ge (by omega) (by omega)) (bs (R_4 (hRT G)) (bs (a1 G) (bs (R_5 (hRT G)) (bs (a2 G) (bs (mck (by exact hS)) (bs c1 (bs (R_5 (hRT G1)) (bs (a2 G1) (bs (R_4 (hRT G1)) (bs (a1 G1) (bs (mck (by exact hS)) (bs d1 ?_)))))))))))))
      rw [Option.bind_some, nI_1]; exact b1
    · by_cases q : d = k
      · subst q
        exact ⟨(c6.r d3).r b3, (d6.l c3).r b3⟩
      · have := b6 d (by omega) h2
        exact ⟨this.1.l (c3.tr d3), this.2.l (c3.tr d3)⟩
theorem m_qal_b {S : Mem} {p : Nat} {P : Pal} {n : Nat → Nat} (hR : rfC S p) (hM : RMb S P) (hn : S.2.2.1 220 = LL n) (hw : wfN P 9060 n) {a : Nat} (ha : a < 8) :
    ∀ m k fu G f, rms P = k + m → m < fu → relG G f → realD (fun u v => opn P u (n 5) (n 6) v) (fun v => n (10 + v)) (n 2) f → bdD (216 * k) f → bndD (fun u v => opn P u (n 5) (n 6) v) (fun v => n (10 + v)) (n 2) k f →
    ∃ G' f', f_X9_quietest_b47 fu 216 (nI a) (nI k) (rowI S 225 G) = some (dBi (f' a), rowI S 225 G') ∧ realD (fun u v => opn P u (n 5) (n 6) v) (fun v => n (10 + v)) (n 2) f' ∧ bndD (fun u v => opn P u (n 5) (n 6) v) (fun v => n (10 + v)) (n 2) (rms P) f' := by
  have hS := hR.1
  have hP := hM.2.2.2.2.2.2.2
  have hr8 := hP.1
  have hd12 := hP.2.1
  have hRT : ∀ G, rfC (rowI S 225 G) p := fun G => rfC_e hR rfl rfl
  have hg : ∀ G, gI 9 1 (rowI S 225 G) 216 = some (nI (rms P)) := fun G => (mgI (by exact hS) 1).trans (congrArg some hM.2.1)
  intro m
  induction m with
  | zero =>
    intro k fu G f hk hf hrel hreal hbd hbn
    obtain ⟨fu, rfl⟩ : ∃ z, fu = z + 1 := ⟨fu - 1, by omega⟩
    refine ⟨G, f, ?_, hreal, by rw [show rms P = k by omega]; exact hbn⟩
    rw [f_X9_quietest_b47]
    refine bs (hg G) (bp (nI_le (by omega) (by omega)) (bs (R_18 (hRT G)) (bs (v_ld hS ha) ?_)))
    rw [hrel a ha]
  | succ m ih =>
    intro k fu G f hk hf hrel hreal hbd hbn
    obtain ⟨fu, rfl⟩ : ∃ z, fu = z + 1 := ⟨fu - 1, by omega⟩
    obtain ⟨G1, g1, d1, d2, d3, d4, d5, d6⟩ := m_qrd_b (w := n 2) hR hM hn hw (fun a0 x1 x2 S => f_X9_quietest_b47 fu a0 x1 x2 S) (a := a) (i := k) (drs P) 0 FU G f (216 * k) (by omega) (by unfold FU; omega) hrel hreal hbd (by omega)
    have hr : rndD (fun u v => opn P u (n 5) (n 6) v) (fun v => n (10 + v)) f g1 := ⟨d3, fun u v s he hs => by
      have he' : opn P u (n 5) (n 6) v = true := he
      have hd : ∃ d, dB P u v (drs P) = some d := by
        unfold opn at he'
        cases z : dB P u v (drs P) with
        | none => rw [z] at he'; exact absurd he' (by simp)
        | some d => exact ⟨d, rfl⟩
      obtain ⟨d, hd⟩ := hd
      obtain ⟨e1, e2⟩ := dB_lt hd
      have := d6 d (by omega) e1
      rcases isD_cases e2 with ⟨rfl, rfl⟩ | ⟨rfl, rfl⟩
      · exact this.1 he s hs
      · exact this.2 he s hs⟩
    obtain ⟨G', f', b1, b2⟩ := ih (k + 1) fu G1 g1 (by omega) (by omega) d2 d4 (d5.mono (by omega)) (bnd_s hbn hr)
    refine ⟨G', f', ?_, b2⟩
    rw [f_X9_quietest_b47]
    exact bs (hg G) (bn (nI_ge (by omega) (by omega)) (d1.trans b1))
theorem m_qin_b {S : Mem} {p : Nat} {P : Pal} {n : Nat → Nat} (hR : rfC S p) (hM : RMb S P) (hn : S.2.2.1 220 = LL n) (hw : wfN P 9060 n) {a : Nat} : ∀ m k fu G, 8 = k + m → m < fu → (∀ b, b < k → G b = dBi (qf0 (n 2) b)) → ∃ G', relG G' (qf0 (n 2)) ∧ f_X9_quietest_b13 fu 216 (nI a) (nI k) (rowI S 225 G) = f_X9_quietest_b47 FU 216 (nI a) (nI 0) (rowI S 225 G') := by
  have hS := hR.1
  have hP := hM.2.2.2.2.2.2.2
  obtain ⟨w0, w1, w2, w3, w4, w5, w6, w7, w8, w9, wn, wg, wc⟩ := wfb hP hw
  have hRT : ∀ G, rfC (rowI S 225 G) p := fun G => rfC_e hR rfl rfl
  intro m
  induction m with
  | zero =>
    intro k fu G hk hf hG
    obtain ⟨fu, rfl⟩ : ∃ z, fu = z + 1 := ⟨fu - 1, by omega⟩
    refine ⟨G, fun b hb => hG b (by omega), ?_⟩
    rw [f_X9_quietest_b13]
    exact bp (nI_le (a := 8) (by omega) (by omega)) rfl
  | succ m ih =>
    intro k fu G hk hf hG
    obtain ⟨fu, rfl⟩ : ∃ z, fu = z + 1 := ⟨fu - 1, by omega⟩
    have hat : f_X9_at 216 (2 : Int32) (rowI S 225 G) = some (nI (n 2)) := at_ (rfC_M (hRT G)) (by exact hn) (k := 2) (by decide)
    obtain ⟨G', e1, e2⟩ := ih (k + 1) fu (upd G k (dBi (qf0 (n 2) k))) (by omega) (by omega) (fun b hb => by
      by_cases q : b = k
      · subst q; rw [upd_s]
      · rw [upd_n q]; exact hG b (by omega))
    refine ⟨G', e1, ?_⟩
    have fin : ∀ x, x = dBi (qf0 (n 2) k) → f_X9_quietest_b38 (fun a0 x1 x2 S => f_X9_quietest_b13 fu a0 x1 x2 S) 216 (nI a) (nI k) x (nI k) 225 (rowI S 225 G) = f_X9_quietest_b47 FU 216 (nI a) (nI 0) (rowI S 225 G') := by
      intro x hx
      unfold f_X9_quietest_b38
      refine bs (v_st hS (by omega) _) ?_
      rw [Option.bind_some, nI_1, hx]; exact e2
    rw [f_X9_quietest_b13]
    refine bn (nI_ge (b := 8) (by omega) (by omega)) (bs (R_18 (hRT G)) (bs (mck (by exact hS)) (bs hat ?_)))
    by_cases q : k = n 2
    · exact bp (by rw [q]) (fin _ (by unfold qf0; rw [if_pos q]; rfl))
    · exact bn (fun z => q ((nI_eq (by omega) (by omega)).mp z)) (fin _ (by unfold qf0; rw [if_neg q]; rfl))
theorem m_quiet {S : Mem} {p : Nat} {P : Pal} {n : Nat → Nat} (hR : rfC S p) (hM : RMb S P) (hn : S.2.2.1 220 = LL n) (hw : wfN P 9060 n) {a : Nat} (ha : a < rms P) :
    ∃ G f, f_X9_quietest 216 (nI a) S = some (dBi (f a), rowI S 225 G) ∧ realD (fun u v => opn P u (n 5) (n 6) v) (fun v => n (10 + v)) (n 2) f ∧ bndD (fun u v => opn P u (n 5) (n 6) v) (fun v => n (10 + v)) (n 2) (rms P) f := by
  have hS := hR.1
  have hP := hM.2.2.2.2.2.2.2
  have hr8 := hP.1
  obtain ⟨G0, e1, e2⟩ := m_qin_b hR hM hn hw (a := a) 8 0 FU (S.2.1 225) (by omega) (by unfold FU; omega) (fun b hb => absurd hb (Nat.not_lt_zero b))
  obtain ⟨G, f, d1, d2⟩ := m_qal_b hR hM hn hw (a := a) (by omega) (rms P) 0 FU G0 (qf0 (n 2)) (by omega) (by unfold FU; omega) e1 qf0_real (qf0_bd.mono (by omega)) qf0_bnd
  refine ⟨G, f, ?_, d2⟩
  rw [rI_same] at e2
  unfold f_X9_quietest
  exact bs (mck hS) (bs (m_isRoom1 hS hM.2.1 hr8 ha) (bn nI10 (e2.trans d1)))
theorem op_23 (x y : Int32) (S : Mem) (h : Inv S) : ∃ S1, sk_23 x y S = some S1 ∧ Inv S1 := by
  obtain ⟨p, P, n, hR, hPa, hst, ht, hM, hn, hw, -⟩ := Inv_x h
  have hS := hR.1
  have hP := hM.2.2.2.2.2.2.2
  have hr8 := hP.1
  rcases tri x (r := rms P) (by omega) with hx | ⟨j, hj, rfl⟩
  · refine ⟨_, pick2 (v := -1000000001) (S1 := S) (S2 := S) ?_ ?_ hS hS, h⟩
    · unfold f_X8_quietest
      exact bs (c_0 hS) (bs (c_noRoom1 hR hPa.1 hr8 hx) (bn nI10 rfl))
    · unfold f_X9_quietest
      exact bs (mck hS) (bs (m_isRoom0 hS hM.2.1 hr8 hx) (bp nI00 rfl))
  · have h2 := wf_2 hw (by omega)
    obtain ⟨G, f, a1, a2, a3⟩ := c_quiet hR hPa hP hst hw hj
    obtain ⟨G', f', b1, b2, b3⟩ := m_quiet (S := rowI S 193 G) (rfC_e hR rfl rfl) (RMb_e hM rfl rfl (fun _ _ => rfl) rfl rfl rfl) hn hw hj
    have e : f j = f' j := dist_one (opn_rm hP) h2 a2 a3 b2 b3 j
    refine ⟨_, pick2 a1 (b1.trans (by rw [e])) hS (by exact hS), Inv_q h (fr.tr (fr.rowI (by decide)) (fr.rowI (by decide))) (fun k hk => ⟨?_, ?_⟩)⟩
    · exact ht 189 (by decide) (by decide +kernel) k hk
    · exact ht 191 (by decide) (by decide +kernel) k hk
