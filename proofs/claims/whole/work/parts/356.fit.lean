/-! which rules fit the way -/
def alb (g : Nat → Bool) : Nat → Bool
  | 0 => true
  | k + 1 => alb g k && g k
theorem alb_iff {g : Nat → Bool} : ∀ k, alb g k = true ↔ ∀ i, i < k → g i = true
  | 0 => ⟨fun _ i hi => absurd hi (Nat.not_lt_zero i), fun _ => rfl⟩
  | k + 1 => by
    rw [alb, Bool.and_eq_true, alb_iff k]
    constructor
    · intro h i hi
      by_cases q : i = k
      · subst q; exact h.2
      · exact h.1 i (by omega)
    · intro h
      exact ⟨fun i hi => h i (by omega), h k (by omega)⟩
theorem alb_f {g : Nat → Bool} {k : Nat} (h : alb g k = false) {m : Nat} (hm : k ≤ m) : alb g m = false := by
  cases e : alb g m with
  | false => rfl
  | true =>
    have := (alb_iff k).mpr (fun i hi => (alb_iff m).mp e i (by omega))
    rw [h] at this; exact absurd this (by simp)
theorem alb_f1 {g : Nat → Bool} {k m : Nat} (h : g k = false) (hm : k < m) : alb g m = false := alb_f (k := k + 1) (by rw [alb, h, Bool.and_false]) hm
def ftE (P : Pal) (r e1 e2 e3 : Nat) : Bool := decide (gtN P r (e1 % 8) (e1 / 64 % 256) (e1 / 16384 % 256) (e1 / 4194304 % 4096) e2 e3 (decide (e1 / 17179869184 % 2 = 1)) = e1 / 8 % 8)
def fte (P : Pal) (n : Nat → Nat) (r i : Nat) : Bool := ftE P r (n (32 + 3 * i)) (n (33 + 3 * i)) (n (34 + 3 * i))
def fitN (P : Pal) (n : Nat → Nat) (r : Nat) : Bool := alb (fte P n r) (n 9)
theorem m_isFit_b {S : Mem} {p : Nat} {P : Pal} {n : Nat → Nat} {r : Nat} (hR : rfC S p) (hM : RMb S P) (hn : S.2.2.1 220 = LL n) (h9 : n 9 ≤ 16) (hr : r < 64) (hE : ∀ i, i < n 9 → n (33 + 3 * i) < 2 ^ 32 ∧ n (34 + 3 * i) < 2 ^ 32 ∧ n (32 + 3 * i) < 2 ^ 35) :
    ∀ m i fu, n 9 = i + m → m < fu → f_X9_isFit_b4 S fu 216 (nI r) (nI (if alb (fte P n r) i then 1 else 0)) (nI i) = some (nI (if fitN P n r then 1 else 0)) := by
  have hS := hR.1
  have hP := hM.2.2.2.2.2.2.2
  have hr8 := hP.1
  have es : sn S n = S := sn_self hn
  have a9 : f_X9_at 216 (9 : Int32) S = some (nI (n 9)) := at_ hM.1 hn (k := 9) (by decide)
  have zk : ∀ b : Bool, zok (nI (if b then 1 else 0)) = some (nI (if b then 1 else 0)) := fun b => by cases b <;> rfl
  intro m
  induction m with
  | zero =>
    intro i fu hi hf
    obtain ⟨fu, rfl⟩ : ∃ z, fu = z + 1 := ⟨fu - 1, by omega⟩
    rw [f_X9_isFit_b4]
    refine bs (mck hS) (bs a9 (bp (nI_le (by omega) (by omega)) (bs (zk _) ?_)))
    unfold fitN
    rw [show n 9 = i by omega]
  | succ m ih =>
    intro i fu hi hf
    obtain ⟨fu, rfl⟩ : ∃ z, fu = z + 1 := ⟨fu - 1, by omega⟩
    have ih := ih (i + 1) fu (by omega) (by omega)
    rw [f_X9_isFit_b4]
    refine bs (mck hS) (bs a9 (bn (nI_ge (by omega) (by omega)) ?_))
    cases e : alb (fte P n r) i with
    | false =>
      refine bp nI00 (bs (zk false) ?_)
      unfold fitN
      rw [alb_f e (by omega)]
    | true =>
      obtain ⟨l2, l3, l1⟩ := hE i (by omega)
      refine bn nI10 ?_
      have a6 : (32 : Int32) + (3 : Int32) * nI i = nI (32 + 3 * i) := by rw [zi 32, zi 3, pk_mul, nI_add]
      have a7 : nI (32 + 3 * i) + (1 : Int32) = nI (33 + 3 * i) := by rw [nI_1]; congr 1; omega
      have a8 : nI (32 + 3 * i) + (2 : Int32) = nI (34 + 3 * i) := by rw [zi 2, nI_add]; congr 1; omega
      have d1 := ldn_ hS hn (k := 32 + 3 * i) (by omega)
      have d2 := ldn_ hS hn (k := 33 + 3 * i) (by omega)
      have d3 := ldn_ hS hn (k := 34 + 3 * i) (by omega)
      generalize hx1 : n (32 + 3 * i) = e1 at *
      generalize hx2 : n (33 + 3 * i) = e2 at *
      generalize hx3 : n (34 + 3 * i) = e3 at *
      have fr : f_X9_wayFrom 216 (nI i) S = some (nI (e1 % 8)) := by
        unfold f_X9_wayFrom
        rw [a6]
        refine bs (R_7 hR) (bs d1 ?_)
        rw [zj 7, show (7 : Nat) = 2 ^ 3 - 1 from rfl, fb_maskL, lN_i]
      have to : f_X9_wayTo 216 (nI i) S = some (nI (e1 / 8 % 8)) := by
        unfold f_X9_wayTo
        rw [a6]
        refine bs (R_7 hR) (bs d1 ?_)
        rw [zi 3, zl_shr (by omega) (by omega), zj 7, show (7 : Nat) = 2 ^ 3 - 1 from rfl, fb_maskL, lN_i]
      have s6 : (lN e1 >>> ((6 : Int32).toInt64 &&& 63)) &&& (255 : Int64) = lN (e1 / 64 % 256) := by
        rw [zi 6, zl_shr (by omega) (by omega), zj 255, show (255 : Nat) = 2 ^ 8 - 1 from rfl, fb_maskL]
      have s14 : (lN e1 >>> ((14 : Int32).toInt64 &&& 63)) &&& (255 : Int64) = lN (e1 / 16384 % 256) := by
        rw [zi 14, zl_shr (by omega) (by omega), zj 255, show (255 : Nat) = 2 ^ 8 - 1 from rfl, fb_maskL]
      have s22 : (lN e1 >>> ((22 : Int32).toInt64 &&& 63)) &&& (4095 : Int64) = lN (e1 / 4194304 % 4096) := by
        rw [zi 22, zl_shr (by omega) (by omega), zj 4095, show (4095 : Nat) = 2 ^ 12 - 1 from rfl, fb_maskL]
      have h34 : f_X9_has (lN e1) (34 : Int32) = some (nI (if decide (e1 / 17179869184 % 2 = 1) then 1 else 0)) := by
        rw [zi 34, m_has (by omega) (by omega), Nat.testBit_eq_decide_div_mod_eq]
      have gt := m_goesTo (S := S) (n := n) hM (r := r) (w := e1 % 8) (ca := e1 / 64 % 256) (na := e1 / 16384 % 256) (br := e1 / 4194304 % 4096) (no := e2) (ct := e3) (wo := decide (e1 / 17179869184 % 2 = 1)) hr (by omega) (by omega) (by omega) (by omega) (by omega) (by omega)
      rw [es] at gt
      have gl := (gt_lt (P := P) (r := r) (w := e1 % 8) (ca := e1 / 64 % 256) (na := e1 / 16384 % 256) (br := e1 / 4194304 % 4096) (no := e2) (ct := e3) (wo := decide (e1 / 17179869184 % 2 = 1)) (by omega) hr8).1
      rw [a6, a7, a8]
      refine bs (R_7 hR) (bs d1 (bs (mck hS) (bs fr (bs (R_7 hR) (bs d2 (bs (R_7 hR) (bs d3 (bs h34 (bs (mck hS) ?_)))))))))
      rw [s6, s14, s22]
      refine bs gt (bs (mck hS) (bs to ?_))
      have hft : fte P n r i = ftE P r e1 e2 e3 := by unfold fte; rw [hx1, hx2, hx3]
      have hs : alb (fte P n r) (i + 1) = ftE P r e1 e2 e3 := by rw [alb, e, hft, Bool.true_and]
      rw [hs] at ih
      unfold f_X9_isFit_b114
      by_cases q : gtN P r (e1 % 8) (e1 / 64 % 256) (e1 / 16384 % 256) (e1 / 4194304 % 4096) e2 e3 (decide (e1 / 17179869184 % 2 = 1)) = e1 / 8 % 8
      · have : ftE P r e1 e2 e3 = true := by unfold ftE; exact decide_eq_true q
        rw [this] at ih
        refine bp (by rw [q]) ?_
        rw [Option.bind_some, nI_1]; exact ih
      · have : ftE P r e1 e2 e3 = false := by unfold ftE; exact decide_eq_false q
        rw [this] at ih
        refine bn (fun z => q ((nI_eq (by omega) (by omega)).mp z)) ?_
        rw [Option.bind_some, nI_1]; exact ih
theorem m_isFit {S : Mem} {p : Nat} {P : Pal} {n : Nat → Nat} {r : Nat} (hR : rfC S p) (hM : RMb S P) (hn : S.2.2.1 220 = LL n) (h9 : n 9 ≤ 16) (hr : r < 64) (hE : ∀ i, i < n 9 → n (33 + 3 * i) < 2 ^ 32 ∧ n (34 + 3 * i) < 2 ^ 32 ∧ n (32 + 3 * i) < 2 ^ 35) : f_X9_isFit 216 (nI r) S = some (nI (if fitN P n r then 1 else 0)) := by
  unfold f_X9_isFit
  exact m_isFit_b hR hM hn h9 hr hE (n 9) 0 FU (by omega) (by unfold FU; omega)
theorem lk_gt {P : Pal} (hP : wfP P) {r w ca na br no ct b : Nat} {wo : Bool} (hb : b < 8) (hne : w ≠ b) : lki (bst (fun a => (ahd P w na br).testBit a) (plN r ca no ct wo) 8) = nI b ↔ gtN P r w ca na br no ct wo = b := by
  have hr8 := hP.1
  rw [gt_bst8 hP]
  unfold gtN
  cases e : bst (opn P w na br) (plN r ca no ct wo) (rms P) with
  | none =>
    dsimp only [lki]
    exact ⟨fun h => absurd h.symm (z_nem1 (by omega)), fun h => absurd h hne⟩
  | some q =>
    have := bst_lt e
    dsimp only [lki]
    rw [nI_eq (by omega) (by omega)]
def ixW (fr c k : Nat) : Nat := if c < 16 then k else if fr ≤ k then k - fr else k + 16 - fr
theorem alb_ix {g : Nat → Bool} {fr c : Nat} (hf : fr < 16) (hc : c ≤ 16) : alb (fun k => g (ixW fr c k)) c = alb g c := by
  rw [Bool.eq_iff_iff, alb_iff, alb_iff]
  unfold ixW
  constructor
  · intro h i hi
    by_cases q : c < 16
    · have := h i hi; rw [if_pos q] at this; exact this
    · by_cases z : fr + i < 16
      · have := h (fr + i) (by omega)
        rw [if_neg q, if_pos (by omega), show fr + i - fr = i by omega] at this; exact this
      · have := h (fr + i - 16) (by omega)
        rw [if_neg q, if_neg (by omega), show fr + i - 16 + 16 - fr = i by omega] at this; exact this
  · intro h k hk
    apply h
    split
    · exact hk
    · split <;> omega
theorem c_isFit {S : Mem} {p : Nat} {P : Pal} {n : Nat → Nat} {r : Nat} (hR : rfC S p) (hP : wfP P) (h9 : n 9 ≤ 16) (hr : r < 64) (hy : WyR (S.2.1 16) (S.2.1 17) (S.2.1 18) (S.2.1 19) (S.2.1 20) P n) : f_X7_isFitting 16 (nI r) S = some (nI (if fitN P n r then 1 else 0)) := by
  have hS := hR.1
  obtain ⟨fr, y0, y1, y2, y3, y4⟩ := hy
  have g0 : gI 7 0 S 16 = some (nI (n 9)) := (g_16 hS 0).trans (congrArg some y1)
  have key : ∀ m k fu, n 9 = k + m → m < fu → alb (fun k => fte P n r (ixW fr (n 9) k)) k = true → f_X7_isFitting_b2 S fu 16 (nI r) (nI k) = some (nI (if alb (fun k => fte P n r (ixW fr (n 9) k)) (n 9) then 1 else 0)) := by
    intro m
    induction m with
    | zero =>
      intro k fu hk hf ha
      obtain ⟨fu, rfl⟩ : ∃ z, fu = z + 1 := ⟨fu - 1, by omega⟩
      rw [f_X7_isFitting_b2]
      refine bs g0 (bp (nI_le (by omega) (by omega)) ?_)
      rw [show n 9 = k by omega] at ha ⊢
      rw [ha]; rfl
    | succ m ih =>
      intro k fu hk hf ha
      obtain ⟨fu, rfl⟩ : ∃ z, fu = z + 1 := ⟨fu - 1, by omega⟩
      have hix : ixW fr (n 9) k < n 9 := by unfold ixW; split <;> (try split) <;> omega
      have hpos : (fr + 16 - n 9 + ixW fr (n 9) k) % 16 = k := by
        unfold ixW
        split
        · next q => rw [y3 q]; omega
        · split <;> omega
      obtain ⟨v1, v2, v3, v4, v5, v6, v7, v8⟩ := y4 _ hix
      rw [hpos] at v1 v2 v3 v4
      have hft : fte P n r (ixW fr (n 9) k) = ftE P r (n (32 + 3 * ixW fr (n 9) k)) (n (33 + 3 * ixW fr (n 9) k)) (n (34 + 3 * ixW fr (n 9) k)) := rfl
      generalize hx1 : n (32 + 3 * ixW fr (n 9) k) = e1 at *
      generalize hx2 : n (33 + 3 * ixW fr (n 9) k) = e2 at *
      generalize hx3 : n (34 + 3 * ixW fr (n 9) k) = e3 at *
      have l17 : ldI S 17 (nI k) = some (nI (10 * (e1 % 8) + e1 / 8 % 8)) := by rw [ld_17 hS (by omega), v1]
      have l18 : ldI S 18 (nI k) = some (nI (ahd P (e1 % 8) (e1 / 16384 % 256) (e1 / 4194304 % 4096) + 256 * (e1 / 64 % 256) + 65536 * (e1 / 17179869184 % 2))) := by rw [ld_18 hS (by omega), v2]
      have l19 : ldI S 19 (nI k) = some (nI e2) := by rw [ld_19 hS (by omega), v3]
      have l20 : ldI S 20 (nI k) = some (nI e3) := by rw [ld_20 hS (by omega), v4]
      have hA := ahd_lt (P := P) (u := e1 % 8) (na := e1 / 16384 % 256) (br := e1 / 4194304 % 4096)
      have lg := lk_gt hP (r := r) (w := e1 % 8) (ca := e1 / 64 % 256) (na := e1 / 16384 % 256) (br := e1 / 4194304 % 4096) (no := e2) (ct := e3) (b := e1 / 8 % 8) (wo := decide (e1 / 17179869184 % 2 = 1)) (by omega) v8
      have lk := c_liked (r := r) (st := ahd P (e1 % 8) (e1 / 16384 % 256) (e1 / 4194304 % 4096)) (no := e2) (ca := e1 / 64 % 256) (ct := e3) (wo := decide (e1 / 17179869184 % 2 = 1)) hr (by omega) v5 (by omega) v6
      generalize ahd P (e1 % 8) (e1 / 16384 % 256) (e1 / 4194304 % 4096) = A at *
      have t1 : nI (A + 256 * (e1 / 64 % 256) + 65536 * (e1 / 17179869184 % 2)) &&& (255 : Int32) = nI A := by
        rw [zi 255, show (255 : Nat) = 2 ^ 8 - 1 from rfl, fa_mask]; congr 1; omega
      have t2 : (nI (A + 256 * (e1 / 64 % 256) + 65536 * (e1 / 17179869184 % 2)) >>> ((8 : Int32) &&& 31)) &&& (255 : Int32) = nI (e1 / 64 % 256) := by
        rw [zi 8, z_shr (by omega) (by omega), zi 255, show (255 : Nat) = 2 ^ 8 - 1 from rfl, fa_mask]; congr 1; omega
      have t3 : f_X8_bit (nI (A + 256 * (e1 / 64 % 256) + 65536 * (e1 / 17179869184 % 2))) (16 : Int32) = nI (if decide (e1 / 17179869184 % 2 = 1) then 1 else 0) := by
        rw [zi 16, c_bit (by omega) (by omega), Nat.testBit_eq_decide_div_mod_eq, show (A + 256 * (e1 / 64 % 256) + 65536 * (e1 / 17179869184 % 2)) / 2 ^ 16 % 2 = e1 / 17179869184 % 2 by omega]
      have t4 : irI (nI (10 * (e1 % 8) + e1 / 8 % 8)) (10 : Int32) = nI (e1 / 8 % 8) := by
        rw [zi 10, z_rem (by omega) (by omega) (by omega)]; congr 1; omega
      have h66 : f_X7_isFitting_b66 S (fun a0 x1 x2 => f_X7_isFitting_b2 S fu a0 x1 x2) 16 (nI r) (nI k) (nI (if decide (e1 / 17179869184 % 2 = 1) then 1 else 0)) (nI e3) (nI (e1 / 64 % 256)) (nI e2) (nI A) (nI r) = some (nI (if alb (fun k => fte P n r (ixW fr (n 9) k)) (n 9) then 1 else 0)) := by
        unfold f_X7_isFitting_b66
        refine bs lk (bs (r_16_2 hR) (bs l17 ?_))
        rw [t4]
        by_cases q : gtN P r (e1 % 8) (e1 / 64 % 256) (e1 / 16384 % 256) (e1 / 4194304 % 4096) e2 e3 (decide (e1 / 17179869184 % 2 = 1)) = e1 / 8 % 8
        · have ht : fte P n r (ixW fr (n 9) k) = true := by rw [hft]; unfold ftE; exact decide_eq_true q
          refine bp (lg.mpr q) ?_
          rw [Option.bind_some, nI_1]
          exact ih (k + 1) fu (by omega) (by omega) (by rw [alb, ha, ht]; rfl)
        · have ht : fte P n r (ixW fr (n 9) k) = false := by rw [hft]; unfold ftE; exact decide_eq_false q
          refine bn (fun z => q (lg.mp z)) ?_
          rw [alb_f1 (g := fun k => fte P n r (ixW fr (n 9) k)) ht (by omega)]; rfl
      rw [f_X7_isFitting_b2]
      refine bs g0 (bn (nI_ge (by omega) (by omega)) (bs (r_16_3 hR) (bs l18 (bs (r_16_4 hR) (bs l19 (bs (r_16_3 hR) (bs l18 (bs (r_16_5 hR) (bs l20 (bs (r_16_3 hR) (bs l18 ?_)))))))))))
      rw [t1, t2, t3]
      cases hd : decide (e1 / 17179869184 % 2 = 1) with
      | true => rw [hd] at h66; exact bp rfl h66
      | false => rw [hd] at h66; exact bn (by decide) h66
  unfold f_X7_isFitting fitN
  rw [← alb_ix (fr := fr) y0 h9]
  exact key (n 9) 0 FU (by omega) (by unfold FU; omega) rfl
theorem c_fitting {S : Mem} {p : Nat} {P : Pal} {n : Nat → Nat} (hR : rfC S p) (hP : wfP P) (h9 : n 9 ≤ 16) (hy : WyR (S.2.1 16) (S.2.1 17) (S.2.1 18) (S.2.1 19) (S.2.1 20) P n) : f_X7_fittingRules 16 S = some (lN (sto (fitN P n) 64)) := by
  have hS := hR.1
  have key : ∀ m k fu, 64 = k + m → m < fu → f_X7_fittingRules_b4 S fu 16 (lN (sto (fitN P n) k)) (nI k) = some (lN (sto (fitN P n) 64)) := by
    intro m
    induction m with
    | zero =>
      intro k fu hk hf
      obtain ⟨fu, rfl⟩ : ∃ z, fu = z + 1 := ⟨fu - 1, by omega⟩
      rw [f_X7_fittingRules_b4]
      exact bp (nI_le (a := 64) (by omega) (by omega)) (by rw [show k = 64 by omega])
    | succ m ih =>
      intro k fu hk hf
      obtain ⟨fu, rfl⟩ : ∃ z, fu = z + 1 := ⟨fu - 1, by omega⟩
      have ih := ih (k + 1) fu (by omega) (by omega)
      rw [f_X7_fittingRules_b4]
      refine bn (nI_ge (b := 64) (by omega) (by omega)) (bs (c_16 hS) (bs (c_isFit hR hP h9 (by omega) hy) ?_))
      unfold f_X7_fittingRules_b24
      cases e : fitN P n k with
      | false =>
        refine bp nI00 ?_
        rw [Option.bind_some, nI_1, sto_f e]; exact ih
      | true =>
        refine bn nI10 ?_
        rw [Option.bind_some, Option.bind_some, nI_1, m_set (by omega), setb_t, sto_t e]; exact ih
  unfold f_X7_fittingRules
  exact key 64 0 FU (by omega) (by unfold FU; omega)
def lst (h : Nat → Bool) : Int32 → Nat → Nat → Int32
  | v, _, 0 => v
  | v, k, m + 1 => lst h (if h k then nI k else v) (k + 1) m
theorem lst_no {h : Nat → Bool} : ∀ m k v, (∀ r, k ≤ r → r < k + m → h r = false) → lst h v k m = v
  | 0, _, _, _ => rfl
  | m + 1, k, v, hh => by
    rw [lst, hh k (Nat.le_refl _) (by omega)]
    exact lst_no m (k + 1) v (fun r h1 h2 => hh r (by omega) (by omega))
theorem lst_fwr {h : Nat → Bool} {K : Nat} (hu : ∀ r s, r < K → s < K → h r = true → h s = true → r = s) : ∀ m k, k + m ≤ K → lst h (-1) k m = fwr h k m
  | 0, _, _ => rfl
  | m + 1, k, hk => by
    rw [lst, fwr]
    cases e : h k with
    | true =>
      rw [if_pos rfl, if_pos rfl]
      refine lst_no m (k + 1) _ (fun r h1 h2 => ?_)
      cases z : h r with
      | false => rfl
      | true => have := hu k r (by omega) (by omega) e z; omega
    | false => exact lst_fwr hu m (k + 1) (by omega)
theorem us_bit {s k : Nat} (hs : s < 2 ^ 64) (hk : k < 64) : (lg_cmp ((usJ (lN s) (nI k)) &&& (1 : Int64)) (1 : Int64)) = (0 : Int32) ↔ s.testBit k = true := by
  have e : (usJ (lN s) (nI k)) &&& (1 : Int64) = lN (s / 2 ^ k % 2) := wb_bit hs hk
  rw [e, zj 1, zi 0, lc_eq (by omega) (by omega), Nat.testBit_eq_decide_div_mod_eq, decide_eq_true_eq]
theorem op_27 (x y : Int32) (S : Mem) (h : Inv S) : ∃ S1, sk_27 x y S = some S1 ∧ Inv S1 := by
  obtain ⟨p, P, n, hR, hPa, hst, ht, hM, hn, hw, -⟩ := Inv_x h
  have hS := hR.1
  have hP := hM.2.2.2.2.2.2.2
  obtain ⟨w0, w1, w2, w3, w4, w5, w6, w7, w8, w9, wn, wg, wc⟩ := wfb hP hw
  have hy : WyR (S.2.1 16) (S.2.1 17) (S.2.1 18) (S.2.1 19) (S.2.1 20) P n := hst.2.2.2.1
  have hE : ∀ i, i < n 9 → n (33 + 3 * i) < 2 ^ 32 ∧ n (34 + 3 * i) < 2 ^ 32 ∧ n (32 + 3 * i) < 2 ^ 35 := by
    obtain ⟨fr, y0, y1, y2, y3, y4⟩ := hy
    intro i hi
    obtain ⟨v1, v2, v3, v4, v5, v6, v7, v8⟩ := y4 i hi
    exact ⟨v5, v6, v7⟩
  have hsl : sto (fitN P n) 64 < 2 ^ 64 := sto_lt _ _
  have hct : ∀ k, k ≤ 64 → fb_ct (fitN P n) k ≤ 64 := fun k hk => Nat.le_trans (fb_ct_le _ _) hk
  have mod : ∀ m k fu v, 64 = k + m → m < fu → f_X9_fit_b7 S fu 216 x (nI (fb_ct (fitN P n) k)) v (nI k) = some (if x = (-1 : Int32) then nI (fb_ct (fitN P n) 64) else lst (fun r => fitN P n r && decide (nI (fb_ct (fitN P n) r) = x)) v k m) := by
    intro m
    induction m with
    | zero =>
      intro k fu v hk hf
      obtain ⟨fu, rfl⟩ : ∃ z, fu = z + 1 := ⟨fu - 1, by omega⟩
      rw [f_X9_fit_b7]
      refine bp (nI_le (a := 64) (by omega) (by omega)) ?_
      rw [show k = 64 by omega]
      by_cases q : x = (-1 : Int32)
      · rw [if_pos q, if_pos q]
      · rw [if_neg q, if_neg q]; rfl
    | succ m ih =>
      intro k fu v hk hf
      obtain ⟨fu, rfl⟩ : ∃ z, fu = z + 1 := ⟨fu - 1, by omega⟩
      rw [f_X9_fit_b7]
      refine bn (nI_ge (b := 64) (by omega) (by omega)) (bs (mck hS) (bs (m_isFit hR hM hn w9 (by omega) hE) ?_))
      unfold f_X9_fit_b34 f_X9_fit_b38
      cases e : fitN P n k with
      | false =>
        refine bp nI00 ?_
        have := ih (k + 1) fu v (by omega) (by omega)
        rw [fb_ct_succ, e] at this
        rw [Option.bind_some, nI_1, lst, e]
        exact this
      | true =>
        refine bn nI10 ?_
        by_cases q : nI (fb_ct (fitN P n) k) = x
        · have := ih (k + 1) fu (nI k) (by omega) (by omega)
          rw [fb_ct_succ, e] at this
          refine bp q ?_
          rw [Option.bind_some, Option.bind_some, nI_1, nI_1, lst, e, decide_eq_true q]
          exact this
        · have := ih (k + 1) fu v (by omega) (by omega)
          rw [fb_ct_succ, e] at this
          refine bn q ?_
          rw [Option.bind_some, Option.bind_some, nI_1, nI_1, lst, e, decide_eq_false q]
          exact this
  have cls : ∀ m k fu, 64 = k + m → m < fu → f_X8_fit_b27 S fu x (lN (sto (fitN P n) 64)) (nI (fb_ct (fitN P n) k)) (nI k) = some (fwr (fun r => fitN P n r && decide (nI (fb_ct (fitN P n) r) = x)) k m) := by
    intro m
    induction m with
    | zero =>
      intro k fu hk hf
      obtain ⟨fu, rfl⟩ : ∃ z, fu = z + 1 := ⟨fu - 1, by omega⟩
      rw [f_X8_fit_b27]
      exact bp (nI_le (a := 64) (by omega) (by omega)) rfl
    | succ m ih =>
      intro k fu hk hf
      obtain ⟨fu, rfl⟩ : ∃ z, fu = z + 1 := ⟨fu - 1, by omega⟩
      have ih := ih (k + 1) fu (by omega) (by omega)
      have hb : (sto (fitN P n) 64).testBit k = fitN P n k := by rw [sto_bit]; simp [show k < 64 by omega]
      rw [f_X8_fit_b27]
      refine bn (nI_ge (b := 64) (by omega) (by omega)) ?_
      unfold f_X8_fit_b57
      rw [fwr]
      cases e : fitN P n k with
      | false =>
        refine bn (fun z => by have := (us_bit hsl (by omega)).mp z; rw [hb, e] at this; exact absurd this (by simp)) ?_
        rw [fb_ct_succ, e] at ih
        rw [Option.bind_some, nI_1]
        exact ih
      | true =>
        refine bp ((us_bit hsl (by omega)).mpr (hb.trans e)) ?_
        by_cases q : nI (fb_ct (fitN P n) k) = x
        · refine bp q ?_
          simp [q]
        · refine bn q ?_
          rw [fb_ct_succ, e] at ih
          rw [Option.bind_some, Option.bind_some, nI_1, nI_1, decide_eq_false q]
          exact ih
  have e2 : f_X9_fit 216 x S = some (if x = (-1 : Int32) then nI (fb_ct (fitN P n) 64) else fwr (fun r => fitN P n r && decide (nI (fb_ct (fitN P n) r) = x)) 0 64) := by
    unfold f_X9_fit
    have := mod 64 0 FU (-1) (by omega) (by unfold FU; omega)
    rw [lst_fwr (K := 64) ?_ 64 0 (by omega)] at this
    · exact this
    · intro r s h1 h2 hr hs
      simp only [Bool.and_eq_true, decide_eq_true_eq] at hr hs
      exact fb_ct_kth_one hr.1 hs.1 ((nI_eq (by have := hct r (by omega); omega) (by have := hct s (by omega); omega)).mp (hr.2.trans hs.2.symm))
  have e1 : f_X8_fit 0 x S = some (if x = (-1 : Int32) then nI (fb_ct (fitN P n) 64) else fwr (fun r => fitN P n r && decide (nI (fb_ct (fitN P n) r) = x)) 0 64) := by
    unfold f_X8_fit
    refine bs (r_0_2 hR) (bs (r_13_1 hR) (bs (c_16 hS) (bs (c_fitting hR hP w9 hy) ?_)))
    by_cases q : x = (-1 : Int32)
    · rw [if_pos q, if_pos q, c_bc64 hsl, pc_sto]
    · rw [if_neg q, if_neg q]
      exact cls 64 0 FU (by omega) (by unfold FU; omega)
  exact ⟨S, pick e1 (e2.trans e1.symm) hS, h⟩
