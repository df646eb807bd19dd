/-! tells -/
def prt (g : Nat → Bool) (T : Nat → Nat) (k b : Nat) : Nat := fb_ct (fun r => g r && decide (T r = b)) k
def msF (g : Nat → Bool) (T : Nat → Nat) : Nat → Nat
  | 0 => 0
  | k + 1 => if g k then max (msF g T k) (prt g T (k + 1) (T k)) else msF g T k
theorem prt_le {g : Nat → Bool} {T : Nat → Nat} {k b : Nat} : prt g T k b ≤ k := fb_ct_le _ _
theorem msF_le {g : Nat → Bool} {T : Nat → Nat} : ∀ k, msF g T k ≤ k
  | 0 => Nat.le_refl _
  | k + 1 => by
    have := msF_le (g := g) (T := T) k
    have := prt_le (g := g) (T := T) (k := k + 1) (b := T k)
    rw [msF]; split <;> omega
theorem prt_s {g : Nat → Bool} {T : Nat → Nat} {k b : Nat} : prt g T (k + 1) b = prt g T k b + (if g k = true ∧ T k = b then 1 else 0) := by
  unfold prt
  rw [fb_ct_succ]
  congr 1
  cases g k <;> simp
def tlF (ms : Nat → Nat) (all : Nat) : Nat → Option Nat × Nat
  | 0 => (none, all)
  | k + 1 => if ms k < (tlF ms all k).2 then (some k, ms k) else tlF ms all k
def relP (G : Nat → Int32) (g : Nat → Bool) (T : Nat → Nat) (k : Nat) : Prop := ∀ b, b < 8 → G b = nI (prt g T k b)
theorem relP_no {G : Nat → Int32} {g : Nat → Bool} {T : Nat → Nat} {k : Nat} (h : relP G g T k) (hg : g k = false) : relP G g T (k + 1) := fun b hb => by
  rw [h b hb, prt_s, hg]; simp
theorem relP_st {G : Nat → Int32} {g : Nat → Bool} {T : Nat → Nat} {k : Nat} (h : relP G g T k) (hg : g k = true) : relP (upd G (T k) (nI (prt g T k (T k) + 1))) g T (k + 1) := fun b hb => by
  rw [prt_s, hg]
  by_cases q : b = T k
  · subst q; rw [upd_s]; simp
  · rw [upd_n q, h b hb]; simp [show ¬ T k = b from fun z => q z.symm]
/-! the class -/
def X3 (x : Nat) : Bool := x == 189 || x == 190 || x == 193
def trK (S T : Mem) : Prop := fr X3 S T ∧ ∀ k, 7 ≤ k → T.2.1 189 k = 0
theorem x3_f {b : Nat} (h : b ≠ 189 ∧ b ≠ 190 ∧ b ≠ 193) : X3 b = false := by simp [X3, h.1, h.2.1, h.2.2]
theorem tk_copy {S T : Mem} {p : Nat} {P : Pal} {n : Nat → Nat} (hR : rfC S p) (hst : StR S 13 P n) (hT : trK S T) :
    ∃ B, f_X4_copyFrom 189 14 T = some (ss B 189 P n) ∧ SLb B 189 P (n 6) ∧ rfC B p ∧ ∀ m G, trK S (ss (rowI B 193 G) 189 P m) := by
  obtain ⟨-, hs, hbs, -⟩ := hst
  obtain ⟨f, h7⟩ := hT
  have hRT := rfC_fr hR f
  have e : ∀ b, b ≠ 189 ∧ b ≠ 190 ∧ b ≠ 193 → T.2.1 b = S.2.1 b := fun b hb => (f.2.2 b (x3_f hb)).1
  obtain ⟨B, b1, b2, b3⟩ := c_copySl (S := T) (slk_189 hRT) (slb_ (n := n) (P := P) hRT (fun w hw => by rw [e 15 (by decide)]; exact hbs w hw)) (by rw [e 14 (by decide)]; exact hs) (by decide) (by decide) (by decide) h7
  refine ⟨B, b1, b2, rfC_fr hRT b3, fun m G => ⟨fr.tr f (fr.tr (b3.mono (fun a ha => ?_)) (fr.tr (fr.rowI (by decide)) (fr.rowI (by decide)))), fun k hk => slF_tl hk⟩⟩
  simp only [X3, Bool.or_eq_false_iff] at ha
  exact ha.1.2
theorem w_ld {B : Mem} {P : Pal} {m : Nat → Nat} {G : Nat → Int32} (h : B.1 = 233) {k : Nat} (hk : k < 8) : ldI (ss (rowI B 193 G) 189 P m) 193 (nI k) = some (G k) := by
  rw [ld_193 (by exact h) hk]
  unfold ss
  rw [row_n (by decide), row_s]
theorem w_st {B : Mem} {P : Pal} {m : Nat → Nat} {G : Nat → Int32} (h : B.1 = 233) {k : Nat} (hk : k < 8) (v : Int32) : stI (ss (rowI B 193 G) 189 P m) 193 (nI k) v = some (ss (rowI B 193 (upd G k v)) 189 P m) := by
  rw [st_193 (by exact h) hk]
  unfold ss
  rw [row_n (by decide), row_s, rI_comm (by decide), rII]
theorem c_gp_b {B : Mem} {p : Nat} {P : Pal} {m' : Nat → Nat} (hP : wfP P) (hw : wfN P 9060 m') (hB : SLb B 189 P (m' 6)) (hR : rfC B p) {g : Nat → Bool} :
    ∀ m k fu G, 64 = k + m → m < fu → relP G g (fun r => nxN P m' r (m' 4)) k → ∃ G', f_X8_greatestPart_b16 fu 0 (lN (sto g 64)) 193 (nI (msF g (fun r => nxN P m' r (m' 4)) k)) (nI k) (ss (rowI B 193 G) 189 P m') = some (nI (msF g (fun r => nxN P m' r (m' 4)) 64), ss (rowI B 193 G') 189 P m') := by
  have hS := hR.1
  have hsl : sto g 64 < 2 ^ 64 := sto_lt _ _
  intro m
  induction m with
  | zero =>
    intro k fu G hk hf hG
    obtain ⟨fu, rfl⟩ : ∃ z, fu = z + 1 := ⟨fu - 1, by omega⟩
    refine ⟨G, ?_⟩
    rw [f_X8_greatestPart_b16]
    exact bp (nI_le (a := 64) (by omega) (by omega)) (by rw [show k = 64 by omega])
  | succ m ih =>
    intro k fu G hk hf hG
    obtain ⟨fu, rfl⟩ : ∃ z, fu = z + 1 := ⟨fu - 1, by omega⟩
    have hb : (sto g 64).testBit k = g k := by rw [sto_bit]; simp [show k < 64 by omega]
    have hRT : rfC (ss (rowI B 193 G) 189 P m') p := rfC_e hR rfl rfl
    rw [f_X8_greatestPart_b16]
    cases e : g k with
    | false =>
      obtain ⟨G', h1⟩ := ih (k + 1) fu G (by omega) (by omega) (relP_no hG e)
      refine ⟨G', bn (nI_ge (b := 64) (by omega) (by omega)) (bn (fun z => by have := (us_bit hsl (by omega)).mp z; rw [hb, e] at this; exact absurd this (by simp)) ?_)⟩
      unfold f_X8_greatestPart_b64
      rw [msF, e] at h1
      rw [Option.bind_some, nI_1]
      exact h1
    | true =>
      have hnx := (nx_lt (r := k) (ca := m' 4) hP hw).1
      obtain ⟨G', h1⟩ := ih (k + 1) fu _ (by omega) (by omega) (relP_st hG e)
      have hG1 := hG _ hnx
      have hp1 := prt_le (g := g) (T := fun r => nxN P m' r (m' 4)) (k := k) (b := nxN P m' k (m' 4))
      have hm1 := msF_le (g := g) (T := fun r => nxN P m' r (m' 4)) k
      have hps : prt g (fun r => nxN P m' r (m' 4)) (k + 1) (nxN P m' k (m' 4)) = prt g (fun r => nxN P m' r (m' 4)) k (nxN P m' k (m' 4)) + 1 := by rw [prt_s, e]; simp
      have hms : msF g (fun r => nxN P m' r (m' 4)) (k + 1) = max (msF g (fun r => nxN P m' r (m' 4)) k) (prt g (fun r => nxN P m' r (m' 4)) k (nxN P m' k (m' 4)) + 1) := by
        rw [msF, e, if_pos rfl, hps]
      have hSB : SLb (rowI B 193 G) 189 P (m' 6) := slb_fr hB rfl rfl (row_n (by decide))
      refine ⟨G', bn (nI_ge (b := 64) (by omega) (by omega)) (bp ((us_bit hsl (by omega)).mpr (hb.trans e)) (bs (r_0_7 hRT) (bs (ss_ck hSB) (bs (c_nextBy hP hSB hw (by omega)) (bs (w_ld hS hnx) (bs (w_st hS hnx _) (bs (w_ld hS hnx) ?_)))))))⟩
      unfold f_X8_greatestPart_b64
      rw [Option.bind_some, Option.bind_some, nI_1, upd_s, hG1, nI_1]
      rw [hms] at h1
      generalize msF g (fun r => nxN P m' r (m' 4)) k = x at *
      generalize prt g (fun r => nxN P m' r (m' 4)) k (nxN P m' k (m' 4)) = z at *
      by_cases q : x < z + 1
      · rw [show max x (z + 1) = z + 1 by omega] at h1
        rw [if_pos (nI_lt q (by omega))]; exact h1
      · rw [show max x (z + 1) = x by omega] at h1
        rw [if_neg (nI_nlt (by omega) (by omega))]; exact h1
def tlT (P : Pal) (n : Nat → Nat) (a : Nat) : Nat → Nat := fun r => nxN P n r (n 4 ^^^ 2 ^ a)
def tlM (P : Pal) (n : Nat → Nat) (a : Nat) : Nat := msF (fitN P n) (tlT P n a) 64
theorem crN_T {P : Pal} {n : Nat → Nat} {a : Nat} (hr8 : rms P ≤ 8) : (fun r => nxN P (crN n (2 ^ a)) r (crN n (2 ^ a) 4)) = tlT P n a := by
  funext r
  unfold tlT
  have : crN n (2 ^ a) 4 = n 4 ^^^ 2 ^ a := rfl
  rw [this]
  exact nx_congr rfl rfl rfl rfl (noi_up hr8 (by omega)) (cnt_up hr8 (by omega))
theorem c_tl_b {S : Mem} {p : Nat} {P : Pal} {n : Nat → Nat} (hR : rfC S p) (hPa : PaR S p P) (hP : wfP P) (hst : StR S 13 P n) (hw : wfN P 9060 n) {all : Nat} (hall : all ≤ 64) :
    ∀ m k fu T, rms P = k + m → m < fu → trK S T → ∃ T', f_X8_tells_b22 fu 0 (lN (sto (fitN P n) 64)) (nI (tlF (tlM P n) all k).2) (dBi (tlF (tlM P n) all k).1) (nI k) T = some (dBi (tlF (tlM P n) all (rms P)).1, T') ∧ trK S T' := by
  have hr8 := hP.1
  have hp := hR.2.1
  have hl2 : ∀ k, (tlF (tlM P n) all k).2 ≤ 64 := by
    intro k
    induction k with
    | zero => exact hall
    | succ k ih =>
      rw [tlF]
      split
      · exact msF_le 64
      · exact ih
  intro m
  induction m with
  | zero =>
    intro k fu T hk hf hT
    obtain ⟨fu, rfl⟩ : ∃ z, fu = z + 1 := ⟨fu - 1, by omega⟩
    have hRT := rfC_fr hR hT.1
    have ep : gI 2 2 T p = some (nI (rms P)) := by rw [g_p hRT.1 hp, (hT.1.2.2 p (x3_f (by omega))).1, hPa.1]
    refine ⟨T, ?_, hT⟩
    rw [f_X8_tells_b22]
    exact bs (r_0_1 hRT) (bs ep (bp (nI_le (by omega) (by omega)) (by rw [show k = rms P by omega])))
  | succ m ih =>
    intro k fu T hk hf hT
    obtain ⟨fu, rfl⟩ : ∃ z, fu = z + 1 := ⟨fu - 1, by omega⟩
    have hRT := rfC_fr hR hT.1
    have hST := hRT.1
    have ep : gI 2 2 T p = some (nI (rms P)) := by rw [g_p hRT.1 hp, (hT.1.2.2 p (x3_f (by omega))).1, hPa.1]
    obtain ⟨B, b1, b2, b3, b5⟩ := tk_copy hR hst hT
    have hs2 : 2 ^ k < 2 ^ rms P := Nat.pow_lt_pow_right (by decide) (by omega)
    have hw' := crN_wf hw hs2
    have hB' : SLb B 189 P (crN n (2 ^ k) 6) := b2
    obtain ⟨G', hg⟩ := c_gp_b (m' := crN n (2 ^ k)) (g := fitN P n) hP hw' hB' b3 64 0 FU (fa_fill (fun _ => (0 : Int32)) (B.2.1 193) 8) (by omega) (by unfold FU; omega) (fun b hb => by rw [fa_fill_in hb]; rfl)
    have hTT := crN_T (P := P) (n := n) (a := k) hr8
    rw [hTT] at hg
    have hx : rfC (ss B 189 P n) p := rfC_e b3 rfl rfl
    have hy : rfC (ss B 189 P (crN n (2 ^ k))) p := rfC_e b3 rfl rfl
    have hfl := c_fill (S := ss B 189 P (crN n (2 ^ k))) (a := 193) (N := 8) (x := (0 : Int32)) ⟨by rw [hy.1]; decide, by decide +kernel⟩ (by decide +kernel) (by decide)
    have hfr : rowI (ss B 189 P (crN n (2 ^ k))) 193 (fa_fill (fun _ => (0 : Int32)) ((ss B 189 P (crN n (2 ^ k))).2.1 193) 8) = ss (rowI B 193 (fa_fill (fun _ => (0 : Int32)) (B.2.1 193) 8)) 189 P (crN n (2 ^ k)) := by
      unfold ss
      rw [row_n (by decide), rI_comm (by decide)]
    rw [hfr] at hfl
    have hgp : f_X8_greatestPart 0 (lN (sto (fitN P n) 64)) (ss B 189 P (crN n (2 ^ k))) = some (nI (tlM P n k), ss (rowI B 193 G') 189 P (crN n (2 ^ k))) := by
      unfold f_X8_greatestPart
      exact bs (r_0_9 hy) (bs hfl hg)
    have hmk : tlM P n k ≤ 64 := msF_le 64
    have h2 := hl2 k
    have hT' := b5 (crN n (2 ^ k)) G'
    have hstep : ∀ o l, tlF (tlM P n) all (k + 1) = (o, l) → ∃ T', f_X8_tells_b84 (fun a0 y1 x3 x4 x5 S => f_X8_tells_b22 fu a0 y1 x3 x4 x5 S) 0 (lN (sto (fitN P n) 64)) (nI l) (dBi o) (nI k) (ss (rowI B 193 G') 189 P (crN n (2 ^ k))) = some (dBi (tlF (tlM P n) all (rms P)).1, T') ∧ trK S T' := by
      intro o l ho
      obtain ⟨T', a1, a2⟩ := ih (k + 1) fu _ (by omega) (by omega) hT'
      refine ⟨T', ?_, a2⟩
      unfold f_X8_tells_b84
      rw [Option.bind_some, nI_1]
      rw [ho] at a1
      exact a1
    rw [f_X8_tells_b22]
    have pre : ∀ r, (if nI (tlF (tlM P n) all k).2 ≤ nI (tlM P n k) then
        f_X8_tells_b84 (fun a0 y1 x3 x4 x5 S => f_X8_tells_b22 fu a0 y1 x3 x4 x5 S) 0 (lN (sto (fitN P n) 64)) (nI (tlF (tlM P n) all k).2) (dBi (tlF (tlM P n) all k).1) (nI k) (ss (rowI B 193 G') 189 P (crN n (2 ^ k)))
        else f_X8_tells_b84 (fun a0 y1 x3 x4 x5 S => f_X8_tells_b22 fu a0 y1 x3 x4 x5 S) 0 (lN (sto (fitN P n) 64)) (nI (tlM P n k)) (nI k) (nI k) (ss (rowI B 193 G') 189 P (crN n (2 ^ k)))) = r →
        ((gR 8 1 T 0).bind fun r6 => (gI 2 2 T r6).bind fun v7 => if v7 ≤ nI k then some (dBi (tlF (tlM P n) all k).1, T) else
          (gR 8 7 T 0).bind fun r8 => (gR 8 2 T 0).bind fun r9 => (gR 5 0 T r9).bind fun r10 => (ck 4 T r8).bind fun c11 => (f_X4_copyFrom r8 r10 T).bind fun S12 => (gR 8 7 S12 0).bind fun r13 => (gI 4 5 S12 r13).bind fun v14 => (pI 4 5 S12 r13 (v14 ^^^ ((1 : Int32) <<< (nI k &&& 31)))).bind fun S15 => (ck 8 S15 0).bind fun c16 => (f_X8_greatestPart 0 (lN (sto (fitN P n) 64)) S15).bind fun q17 =>
          if nI (tlF (tlM P n) all k).2 ≤ q17.1 then f_X8_tells_b84 (fun a0 y1 x3 x4 x5 S => f_X8_tells_b22 fu a0 y1 x3 x4 x5 S) 0 (lN (sto (fitN P n) 64)) (nI (tlF (tlM P n) all k).2) (dBi (tlF (tlM P n) all k).1) (nI k) q17.2
          else f_X8_tells_b84 (fun a0 y1 x3 x4 x5 S => f_X8_tells_b22 fu a0 y1 x3 x4 x5 S) 0 (lN (sto (fitN P n) 64)) q17.1 (nI k) (nI k) q17.2) = r := by
      intro r hr
      refine bs (r_0_1 hRT) (bs ep (bn (nI_ge (by omega) (by omega)) (bs (r_0_7 hRT) (bs (r_0_2 hRT) (bs (r_13_0 hRT) (bs (c_189 hST) (bs b1 (bs (r_0_7 hx) (bs (ss_gI b2) (bs (a := ss B 189 P (crN n (2 ^ k))) ?_ (bs (c_0 hy.1) (bs hgp hr))))))))))))
      rw [ss_pI b2, slF_at.2.2.2.2.2.1, zi 1, z_shl 1 (by omega), Nat.one_mul, z_xor, ss_5 hr8]; rfl
    by_cases q : tlM P n k < (tlF (tlM P n) all k).2
    · obtain ⟨T', a1, a2⟩ := hstep (some k) (tlM P n k) (by rw [tlF, if_pos q])
      exact ⟨T', pre _ (bn (nI_ge q (by omega)) a1), a2⟩
    · obtain ⟨T', a1, a2⟩ := hstep (tlF (tlM P n) all k).1 (tlF (tlM P n) all k).2 (by rw [tlF, if_neg q])
      exact ⟨T', pre _ (bp (nI_le (by omega) (by omega)) a1), a2⟩
