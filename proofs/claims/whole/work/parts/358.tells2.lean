/-! tells: the model -/
def vFG (S : Mem) (F G : Nat → Int32) : Mem := rowI (rowI S 226 F) 227 G
theorem vf_R {S : Mem} {p : Nat} {F G : Nat → Int32} (h : rfC S p) : rfC (vFG S F G) p := rfC_e h rfl rfl
theorem vf_M {S : Mem} {P : Pal} {F G : Nat → Int32} (h : RMb S P) : RMb (vFG S F G) P := RMb_e h rfl rfl (fun _ _ => rfl) rfl rfl rfl
theorem vf_ld {S : Mem} {F G : Nat → Int32} (h : S.1 = 233) {k : Nat} (hk : k < 8) : ldI (vFG S F G) 227 (nI k) = some (G k) := by
  rw [ld_227 (by exact h) hk]
  unfold vFG
  rw [row_s]
theorem vf_st {S : Mem} {F G : Nat → Int32} (h : S.1 = 233) {k : Nat} (hk : k < 8) (v : Int32) : stI (vFG S F G) 227 (nI k) v = some (vFG S F (upd G k v)) := by
  rw [st_227 (by exact h) hk]
  unfold vFG
  rw [row_s, rII]
theorem vf_lf {S : Mem} {F G : Nat → Int32} (h : S.1 = 233) {k : Nat} (hk : k < 64) : ldZ (vFG S F G) 226 (nI k) = some (F k) := by
  rw [ld_226 (by exact h) hk]
  unfold vFG
  rw [row_n (by decide), row_s]
theorem m_tl63 {S : Mem} {p : Nat} {F : Nat → Int32} (hR : rfC S p) (k51 : Nat → Int32 → Int32 → Int32 → Mem → Option (Int32 × Mem)) (x2 x3 x4 : Int32) : ∀ m j fu G, 8 = j + m → m < fu → (∀ b, b < j → G b = nI 0) → ∃ G', (∀ b, b < 8 → G' b = nI 0) ∧ f_X9_tells_b63 k51 fu 216 x2 x3 x4 (nI j) (vFG S F G) = f_X9_tells_b90 k51 FU 216 x2 x3 x4 (nI 0) (nI 0) (vFG S F G') := by
  have hS := hR.1
  intro m
  induction m with
  | zero =>
    intro j fu G hj hf hG
    obtain ⟨fu, rfl⟩ : ∃ z, fu = z + 1 := ⟨fu - 1, by omega⟩
    refine ⟨G, fun b hb => hG b (by omega), ?_⟩
    rw [f_X9_tells_b63]
    exact bp (nI_le (a := 8) (by omega) (by omega)) rfl
  | succ m ih =>
    intro j fu G hj hf hG
    obtain ⟨fu, rfl⟩ : ∃ z, fu = z + 1 := ⟨fu - 1, by omega⟩
    obtain ⟨G', h1, h2⟩ := ih (j + 1) fu (upd G j (nI 0)) (by omega) (by omega) (fun b hb => by
      by_cases q : b = j
      · subst q; rw [upd_s]
      · rw [upd_n q]; exact hG b (by omega))
    refine ⟨G', h1, ?_⟩
    rw [f_X9_tells_b63]
    refine bn (nI_ge (b := 8) (by omega) (by omega)) (bs (R_20 (vf_R hR)) (bs (vf_st hS (by omega) _) ?_))
    rw [Option.bind_some, nI_1]; exact h2
theorem m_tl90 {S : Mem} {p : Nat} {P : Pal} {n : Nat → Nat} {F : Nat → Int32} {g : Nat → Bool} (hR : rfC S p) (hM : RMb S P) (hn : S.2.2.1 220 = LL n) (hw : wfN P 9060 n) (hF : ∀ r, r < 64 → F r = nI (if g r then 1 else 0)) (k51 : Nat → Int32 → Int32 → Int32 → Mem → Option (Int32 × Mem)) (x2 x3 : Int32) {a : Nat} (ha : a < rms P) :
    ∀ m k fu G, 64 = k + m → m < fu → relP G g (tlT P n a) k → ∃ G', f_X9_tells_b90 k51 fu 216 x2 x3 (nI a) (nI (msF g (tlT P n a) k)) (nI k) (vFG S F G) = (if x3 ≤ nI (msF g (tlT P n a) 64) then f_X9_tells_b181 k51 216 x3 (nI a) (nI (msF g (tlT P n a) 64)) x2 (vFG S F G') else f_X9_tells_b181 k51 216 x3 (nI a) (nI (msF g (tlT P n a) 64)) (nI a) (vFG S F G')) := by
  have hS := hR.1
  have hP := hM.2.2.2.2.2.2.2
  have hr8 := hP.1
  obtain ⟨w0, w1, w2, w3, w4, w5, w6, w7, w8, w9, wn, wg, wc⟩ := wfb hP hw
  have hx : n 4 ^^^ 2 ^ a < 2 ^ 8 := Nat.xor_lt_two_pow (by omega) (Nat.pow_lt_pow_right (by decide) (by omega))
  intro m
  induction m with
  | zero =>
    intro k fu G hk hf hG
    obtain ⟨fu, rfl⟩ : ∃ z, fu = z + 1 := ⟨fu - 1, by omega⟩
    refine ⟨G, ?_⟩
    rw [f_X9_tells_b90]
    refine bp (nI_le (a := 64) (by omega) (by omega)) ?_
    rw [show k = 64 by omega]
  | succ m ih =>
    intro k fu G hk hf hG
    obtain ⟨fu, rfl⟩ : ∃ z, fu = z + 1 := ⟨fu - 1, by omega⟩
    have hRT : rfC (vFG S F G) p := vf_R hR
    have hFk := hF k (by omega)
    rw [f_X9_tells_b90]
    cases e : g k with
    | false =>
      obtain ⟨G', h1⟩ := ih (k + 1) fu G (by omega) (by omega) (relP_no hG e)
      rw [e] at hFk
      refine ⟨G', bn (nI_ge (b := 64) (by omega) (by omega)) (bs (R_19 hRT) (bs (vf_lf hS (by omega)) (bp (by rw [hFk]; rfl) ?_)))⟩
      unfold f_X9_tells_b163
      rw [msF, e] at h1
      rw [Option.bind_some, nI_1]
      exact h1
    | true =>
      rw [e] at hFk
      have hnx : tlT P n a k < 8 := (nx_lt (r := k) (ca := n 4 ^^^ 2 ^ a) hP hw).1
      obtain ⟨G', h1⟩ := ih (k + 1) fu _ (by omega) (by omega) (relP_st hG e)
      have hG1 := hG _ hnx
      have hp1 := prt_le (g := g) (T := tlT P n a) (k := k) (b := tlT P n a k)
      have hm1 := msF_le (g := g) (T := tlT P n a) k
      have hps : prt g (tlT P n a) (k + 1) (tlT P n a k) = prt g (tlT P n a) k (tlT P n a k) + 1 := by rw [prt_s, e]; simp
      have hms : msF g (tlT P n a) (k + 1) = max (msF g (tlT P n a) k) (prt g (tlT P n a) k (tlT P n a k) + 1) := by
        rw [msF, e, if_pos rfl, hps]
      have es : sn (vFG S F G) n = vFG S F G := sn_self (by exact hn)
      have hgn := m_goesNext (S := vFG S F G) (n := n) (vf_M hM) hw (by omega) (r := k) (ca := n 4 ^^^ 2 ^ a) (by omega) (by omega)
      rw [es] at hgn
      have l4 : ldJ (vFG S F G) 220 (4 : Int32) = some (lN (n 4)) := ldn_ (by exact hS) (by exact hn) (k := 4) (by decide)
      have hxe : lN (n 4) ^^^ ((1 : Int64) <<< ((nI a).toInt64 &&& 63)) = lN (n 4 ^^^ 2 ^ a) := by rw [zj 1, zl_shl 1 (by omega), Nat.one_mul, zl_xor]
      rw [← hxe] at hgn
      have hgn' : f_X9_goesNext 216 (nI k) (lN (n 4) ^^^ ((1 : Int64) <<< ((nI a).toInt64 &&& 63))) (vFG S F G) = some (nI (tlT P n a k)) := hgn
      rw [hms] at h1
      generalize tlT P n a k = t at *
      refine ⟨G', bn (nI_ge (b := 64) (by omega) (by omega)) (bs (R_19 hRT) (bs (vf_lf hS (by omega)) (bn (by rw [hFk]; exact nI10) (bs (R_7 hRT) (bs l4 (bs (mck (by exact hS)) (bs hgn' (bs (R_20 hRT) (bs (vf_ld hS hnx) (bs (vf_st hS hnx _) (bs (R_20 (vf_R hR)) (bs (vf_ld hS hnx) ?_))))))))))))⟩
      rw [upd_s, hG1, nI_1, R_20 (vf_R hR), Option.bind_some, vf_ld hS hnx, Option.bind_some, upd_s]
      unfold f_X9_tells_b161 f_X9_tells_b163
      rw [Option.bind_some, nI_1]
      generalize msF g (tlT P n a) k = x at *
      generalize prt g (tlT P n a) k t = z at *
      by_cases q : x < z + 1
      · rw [show max x (z + 1) = z + 1 by omega] at h1
        exact bn (nI_ge q (by omega)) h1
      · rw [show max x (z + 1) = x by omega] at h1
        exact bp (nI_le (by omega) (by omega)) h1
theorem m_tl51 {S : Mem} {p : Nat} {P : Pal} {n : Nat → Nat} {F : Nat → Int32} (hR : rfC S p) (hM : RMb S P) (hn : S.2.2.1 220 = LL n) (hw : wfN P 9060 n) (hF : ∀ r, r < 64 → F r = nI (if fitN P n r then 1 else 0)) {all : Nat} (hall : all ≤ 64) :
    ∀ m k fu G, rms P = k + m → m < fu → ∃ G', f_X9_tells_b51 fu 216 (dBi (tlF (tlM P n) all k).1) (nI (tlF (tlM P n) all k).2) (nI k) (vFG S F G) = some (dBi (tlF (tlM P n) all (rms P)).1, vFG S F G') := by
  have hS := hR.1
  have hP := hM.2.2.2.2.2.2.2
  have hr8 := hP.1
  have hg : ∀ G, gI 9 1 (vFG S F G) 216 = some (nI (rms P)) := fun G => (mgI (by exact hS) 1).trans (congrArg some hM.2.1)
  have hl2 : ∀ k, (tlF (tlM P n) all k).2 ≤ 64 := by
    intro k
    induction k with
    | zero => exact hall
    | succ k ih =>
      rw [tlF]
      split
      · exact msF_le 64
      · exact ih
  intro m
  induction m with
  | zero =>
    intro k fu G hk hf
    obtain ⟨fu, rfl⟩ : ∃ z, fu = z + 1 := ⟨fu - 1, by omega⟩
    refine ⟨G, ?_⟩
    rw [f_X9_tells_b51]
    exact bs (hg G) (bp (nI_le (by omega) (by omega)) (by rw [show k = rms P by omega]))
  | succ m ih =>
    intro k fu G hk hf
    obtain ⟨fu, rfl⟩ : ∃ z, fu = z + 1 := ⟨fu - 1, by omega⟩
    obtain ⟨G1, a1, a2⟩ := m_tl63 (F := F) hR (fun a0 x2 x3 x4 S => f_X9_tells_b51 fu a0 x2 x3 x4 S) (dBi (tlF (tlM P n) all k).1) (nI (tlF (tlM P n) all k).2) (nI k) 8 0 FU G (by omega) (by unfold FU; omega) (fun b hb => absurd hb (Nat.not_lt_zero b))
    obtain ⟨G2, b1⟩ := m_tl90 hR hM hn hw hF (fun a0 x2 x3 x4 S => f_X9_tells_b51 fu a0 x2 x3 x4 S) (dBi (tlF (tlM P n) all k).1) (nI (tlF (tlM P n) all k).2) (a := k) (by omega) 64 0 FU G1 (by omega) (by unfold FU; omega) (fun b hb => a1 b hb)
    obtain ⟨G', c1⟩ := ih (k + 1) fu G2 (by omega) (by omega)
    refine ⟨G', ?_⟩
    have hmk : tlM P n k ≤ 64 := msF_le 64
    have h2 := hl2 k
    have hm : msF (fitN P n) (tlT P n k) 64 = tlM P n k := rfl
    rw [f_X9_tells_b51]
    refine bs (hg G) (bn (nI_ge (by omega) (by omega)) (a2.trans (b1.trans ?_)))
    rw [hm]
    unfold f_X9_tells_b181 f_X9_tells_b194
    rw [tlF] at c1
    by_cases q : tlM P n k < (tlF (tlM P n) all k).2
    · rw [if_pos q] at c1
      refine bn (nI_ge q (by omega)) (bn (nI_ge q (by omega)) ?_)
      rw [Option.bind_some, nI_1]; exact c1
    · rw [if_neg q] at c1
      refine bp (nI_le (by omega) (by omega)) (bp (nI_le (by omega) (by omega)) ?_)
      rw [Option.bind_some, nI_1]; exact c1
theorem m_tl4 {S : Mem} {p : Nat} {P : Pal} {n : Nat → Nat} (hR : rfC S p) (hM : RMb S P) (hn : S.2.2.1 220 = LL n) (h9 : n 9 ≤ 16) (hE : ∀ i, i < n 9 → n (33 + 3 * i) < 2 ^ 32 ∧ n (34 + 3 * i) < 2 ^ 32 ∧ n (32 + 3 * i) < 2 ^ 35) :
    ∀ m k fu F, 64 = k + m → m < fu → (∀ r, r < k → F r = nI (if fitN P n r then 1 else 0)) → ∃ F', (∀ r, r < 64 → F' r = nI (if fitN P n r then 1 else 0)) ∧ f_X9_tells_b4 fu 216 (nI (fb_ct (fitN P n) k)) (nI k) (rowI S 226 F) = f_X9_tells_b51 FU 216 (-1 : Int32) (nI (fb_ct (fitN P n) 64)) (nI 0) (rowI S 226 F') := by
  have hS := hR.1
  intro m
  induction m with
  | zero =>
    intro k fu F hk hf hF
    obtain ⟨fu, rfl⟩ : ∃ z, fu = z + 1 := ⟨fu - 1, by omega⟩
    refine ⟨F, fun r hr => hF r (by omega), ?_⟩
    rw [f_X9_tells_b4]
    exact bp (nI_le (a := 64) (by omega) (by omega)) (by rw [show k = 64 by omega]; rfl)
  | succ m ih =>
    intro k fu F hk hf hF
    obtain ⟨fu, rfl⟩ : ∃ z, fu = z + 1 := ⟨fu - 1, by omega⟩
    have hRT : ∀ F, rfC (rowI S 226 F) p := fun F => rfC_e hR rfl rfl
    have hfit := m_isFit (r := k) (hRT F) (RMb_e hM rfl rfl (fun _ _ => rfl) rfl rfl rfl) (by exact hn) h9 (by omega) hE
    obtain ⟨F', h1, h2⟩ := ih (k + 1) fu (upd F k (nI (if fitN P n k then 1 else 0))) (by omega) (by omega) (fun r hr => by
      by_cases q : r = k
      · subst q; rw [upd_s]
      · rw [upd_n q]; exact hF r (by omega))
    refine ⟨F', h1, ?_⟩
    have hst : stZ (rowI S 226 F) 226 (nI k) (nI (if fitN P n k then 1 else 0)) = some (rowI S 226 (upd F k (nI (if fitN P n k then 1 else 0)))) := by
      rw [st_226 (by exact hS) (by omega) _ (by cases fitN P n k <;> simp <;> decide), row_s, rII]
    have hld : ldZ (rowI S 226 (upd F k (nI (if fitN P n k then 1 else 0)))) 226 (nI k) = some (nI (if fitN P n k then 1 else 0)) := by
      rw [ld_226 (by exact hS) (by omega), row_s, upd_s]
    rw [f_X9_tells_b4]
    refine bn (nI_ge (b := 64) (by omega) (by omega)) (bs (R_19 (hRT F)) (bs (mck (by exact hS)) (bs hfit (bs hst (bs (R_19 (hRT _)) (bs hld ?_))))))
    unfold f_X9_tells_b36
    rw [fb_ct_succ] at h2
    cases e : fitN P n k with
    | false =>
      rw [e] at h2
      refine bp nI00 ?_
      rw [Option.bind_some, Option.bind_some, nI_1, zi 0, nI_add]; exact h2
    | true =>
      rw [e] at h2
      refine bn nI10 ?_
      rw [Option.bind_some, Option.bind_some, nI_1, zi 1, nI_add]; exact h2
theorem op_28 (x y : Int32) (S : Mem) (h : Inv S) : ∃ S1, sk_28 x y S = some S1 ∧ Inv S1 := by
  obtain ⟨p, P, n, hR, hPa, hst, ht, hM, hn, hw, -⟩ := Inv_x h
  have hS := hR.1
  have hP := hM.2.2.2.2.2.2.2
  have hr8 := hP.1
  obtain ⟨w0, w1, w2, w3, w4, w5, w6, w7, w8, w9, wn, wg, wc⟩ := wfb hP hw
  have hy : WyR (S.2.1 16) (S.2.1 17) (S.2.1 18) (S.2.1 19) (S.2.1 20) P n := hst.2.2.2.1
  have hE : ∀ i, i < n 9 → n (33 + 3 * i) < 2 ^ 32 ∧ n (34 + 3 * i) < 2 ^ 32 ∧ n (32 + 3 * i) < 2 ^ 35 := by
    obtain ⟨fr, y0, y1, y2, y3, y4⟩ := hy
    intro i hi
    obtain ⟨v1, v2, v3, v4, v5, v6, v7, v8⟩ := y4 i hi
    exact ⟨v5, v6, v7⟩
  have hsl : sto (fitN P n) 64 < 2 ^ 64 := sto_lt _ _
  have hall : fb_ct (fitN P n) 64 ≤ 64 := fb_ct_le _ _
  obtain ⟨T, t1, t2⟩ := c_tl_b hR hPa hP hst hw hall (rms P) 0 FU S (by omega) (by unfold FU; omega) ⟨fr.rf, fun k hk => ht 189 (by decide) (by decide +kernel) k hk⟩
  have hRT := rfC_fr hR t2.1
  have e : ∀ b, b ≠ 189 ∧ b ≠ 190 ∧ b ≠ 193 → T.2.1 b = S.2.1 b := fun b hb => (t2.1.2.2 b (x3_f hb)).1
  have e' : ∀ b, b ≠ 189 ∧ b ≠ 190 ∧ b ≠ 193 → T.2.2.1 b = S.2.2.1 b := fun b hb => (t2.1.2.2 b (x3_f hb)).2
  have hnT : T.2.2.1 220 = LL n := by rw [e' 220 (by decide)]; exact hn
  have hMT : RMb T P := RMb_e hM t2.1.1 t2.1.2.1 (fun k hk => by rw [e 216 (by decide)]) (e 217 (by decide)) (e 218 (by decide)) (e 219 (by decide))
  obtain ⟨F, f1, f2⟩ := m_tl4 hRT hMT hnT w9 hE 64 0 FU (T.2.1 226) (by omega) (by unfold FU; omega) (fun b hb => absurd hb (Nat.not_lt_zero b))
  rw [rI_same] at f2
  obtain ⟨G, g1⟩ := m_tl51 hRT hMT hnT hw f1 hall (rms P) 0 FU (T.2.1 227) (by omega) (by unfold FU; omega)
  have hv : vFG T F (T.2.1 227) = rowI T 226 F := by
    unfold vFG
    have : (rowI T 226 F).2.1 227 = T.2.1 227 := row_n (by decide)
    rw [← this, rI_same]
  rw [hv] at g1
  refine ⟨_, pick2 (v := dBi (tlF (tlM P n) (fb_ct (fitN P n) 64) (rms P)).1) (S1 := T) (S2 := vFG T F G) ?_ ?_ hS hRT.1, Inv_q h (fr.tr (t2.1.mono (fun a ha => ?_)) (fr.tr (fr.rowI (by decide)) (fr.rowI (by decide)))) (fun k hk => ⟨?_, ?_⟩)⟩
  · unfold f_X8_tells
    refine bs (r_0_2 hR) (bs (r_13_1 hR) (bs (c_16 hS) (bs (c_fitting hR hP w9 hy) ?_)))
    rw [Option.bind_some, c_bc64 hsl, pc_sto]
    exact t1
  · unfold f_X9_tells
    exact f2.trans g1
  · refine x3_f ⟨fun z => ?_, fun z => ?_, fun z => ?_⟩ <;> (rw [z] at ha; exact absurd ha (by decide))
  · exact t2.2 k hk
  · show T.2.1 191 k = 0
    rw [e 191 (by decide)]; exact ht 191 (by decide) (by decide +kernel) k hk
