/-! a palace begins: the class -/
def nwN (D : Dft) (n0 : Nat → Nat) : Nat → Nat := fun k => if 80 ≤ k then n0 k else if k = 0 then D.1.getD 0 else if k = 4 then D.2.2.2.1 else if 10 ≤ k ∧ k < 18 then D.2.2.1 (k - 10) else if 26 ≤ k ∧ k < 26 + pts D.2.1 then D.2.2.2.2 (k - 26) else 0
theorem nw_0 {D : Dft} {n0 : Nat → Nat} : nwN D n0 0 = D.1.getD 0 := rfl
theorem nw_4 {D : Dft} {n0 : Nat → Nat} : nwN D n0 4 = D.2.2.2.1 := rfl
theorem nw_10 {D : Dft} {n0 : Nat → Nat} {a : Nat} (h : a < 8) : nwN D n0 (10 + a) = D.2.2.1 a := by
  unfold nwN
  rw [if_neg (by omega), if_neg (by omega), if_neg (by omega), if_pos (by omega), show 10 + a - 10 = a by omega]
theorem nw_26 {D : Dft} {n0 : Nat → Nat} {i : Nat} (h6 : pts D.2.1 ≤ 6) (h : i < pts D.2.1) : nwN D n0 (26 + i) = D.2.2.2.2 i := by
  unfold nwN
  rw [if_neg (by omega), if_neg (by omega), if_neg (by omega), if_neg (by omega), if_pos (by omega), show 26 + i - 26 = i by omega]
theorem nw_z {D : Dft} {n0 : Nat → Nat} {k : Nat} (h : (k ≠ 0 ∧ k ≠ 4 ∧ k < 10) ∨ (18 ≤ k ∧ k < 26) ∨ (26 + pts D.2.1 ≤ k ∧ k < 80)) : nwN D n0 k = 0 := by
  unfold nwN
  rcases h with h | h | h
  · rw [if_neg (by omega), if_neg (by omega), if_neg (by omega), if_neg (by omega), if_neg (by omega)]
  · rw [if_neg (by omega), if_neg (by omega), if_neg (by omega), if_neg (by omega), if_neg (by omega)]
  · rw [if_neg (by omega), if_neg (by omega), if_neg (by omega), if_neg (by omega), if_neg (by omega)]
theorem getD_lt {o : Option Nat} (h : ∀ v, o = some v → v < 64) : o.getD 0 < 64 := by
  cases o with
  | none => decide
  | some v => exact h v rfl
theorem nw_gd {D : Dft} {n0 : Nat → Nat} (hD : wfD D) : gdN D.2.1 (nwN D n0) := by
  obtain ⟨hP, a2, a3, a4, a5, a6, a7⟩ := hD
  have h6 := hP.2.2.1
  refine ⟨⟨?_, ?_, ?_, ?_, ?_, ?_, ?_, ?_, ?_, ?_, fun a => ?_, fun a h1 h2 => ?_, fun a ha => ?_, fun a h1 h2 => ?_, fun p hp => ?_⟩, fun a ha => ?_⟩
  · rw [nw_0]; exact getD_lt a7
  · rw [nw_z (by omega)]; omega
  · right; exact nw_z (by omega)
  · rw [nw_z (by omega)]; omega
  · rw [nw_4]; exact a4
  · rw [nw_z (by omega)]; exact Nat.two_pow_pos _
  · rw [nw_z (by omega)]; exact Nat.two_pow_pos _
  · rw [nw_z (by omega)]; exact Nat.two_pow_pos _
  · rw [nw_z (by omega)]; omega
  · rw [nw_z (by omega)]; omega
  · by_cases q : a < 8
    · left; rw [nw_10 q]; exact a2 a
    · right; omega
  · rw [nw_10 h2]; exact a3 a h1
  · rw [nw_z (by omega)]; omega
  · rw [nw_z (by omega)]
  · rw [nw_26 h6 hp]; exact a5 p hp
  · rw [nw_z (by omega), nw_z (by omega)]; omega
theorem pn_0 : ∀ r, pn (fun _ => 0) r = 0
  | 0 => rfl
  | r + 1 => by rw [pn, pn_0 r, Nat.mul_zero]
theorem nw_noi {D : Dft} {n0 : Nat → Nat} (hD : wfD D) : noiN D.2.1 (nwN D n0) = pn D.2.2.1 8 := by
  have hr8 := hD.1.1
  unfold noiN
  rw [show 8 = rms D.2.1 + (8 - rms D.2.1) by omega, pn_more _ hD.2.2.1]
  exact pn_congr _ (fun a ha => nw_10 (by omega))
theorem nw_cnt {D : Dft} {n0 : Nat → Nat} (hD : wfD D) : cntN D.2.1 (nwN D n0) = 0 := by
  have hr8 := hD.1.1
  unfold cntN
  rw [← pn_0 (rms D.2.1)]
  exact pn_congr _ (fun a ha => by rw [nw_z (by omega)]; rfl)
/-! doors are opened -/
def bsk (P : Pal) (k w : Nat) : Nat := sto (fun b => (dB P w b k).isSome) 8
theorem bsk_b {P : Pal} {k w i : Nat} : (bsk P k w).testBit i = (decide (i < 8) && (dB P w i k).isSome) := sto_bit _ _ _
theorem dB_s {P : Pal} {w b k : Nat} : (dB P w b (k + 1)).isSome = (isD P w b k || (dB P w b k).isSome) := by
  rw [dB]
  cases isD P w b k <;> simp
theorem bsk_s {P : Pal} (hP : wfP P) {k w : Nat} (hk : k < drs P) : bsk P (k + 1) w = if w = dfr P k then setb (bsk P k w) (dto P k) true else if w = dto P k then setb (bsk P k w) (dfr P k) true else bsk P k w := by
  obtain ⟨f1, f2, f3⟩ := hP.2.2.2.1 k hk
  have hr8 := hP.1
  apply Nat.eq_of_testBit_eq
  intro i
  rw [bsk_b, dB_s]
  have hisd : isD P w i k = ((decide (dfr P k = w) && decide (dto P k = i)) || (decide (dfr P k = i) && decide (dto P k = w))) := rfl
  by_cases q1 : w = dfr P k
  · rw [if_pos q1, setb_bit, bsk_b, hisd]
    by_cases q : i = dto P k
    · subst q; simp [q1, show dto P k < 8 by omega]
    · have h2 : ¬ dto P k = w := fun z => f3 (by rw [z, q1])
      have h3 : ¬ dto P k = i := fun z => q z.symm
      simp [q, h2, h3]
  · rw [if_neg q1]
    have h1 : ¬ dfr P k = w := fun z => q1 z.symm
    by_cases q2 : w = dto P k
    · rw [if_pos q2, setb_bit, bsk_b, hisd]
      by_cases q : i = dfr P k
      · subst q; simp [q2, show dfr P k < 8 by omega]
      · have h3 : ¬ dfr P k = i := fun z => q z.symm
        simp [q, h1, h3]
    · rw [if_neg q2, bsk_b, hisd]
      have h2 : ¬ dto P k = w := fun z => q2 z.symm
      simp [h1, h2]
theorem bsk_0 {P : Pal} {w : Nat} : bsk P 0 w = 0 := by
  apply Nat.eq_of_testBit_eq
  intro i
  rw [bsk_b, Nat.zero_testBit]; simp [dB]
theorem bsk_f {P : Pal} {w : Nat} : bsk P (drs P) w = bes P 0 w := by
  apply Nat.eq_of_testBit_eq
  intro i
  rw [bsk_b]
  unfold bes
  rw [sto_bit]
  congr 1
  unfold opd
  cases dB P w i (drs P) with
  | none => rfl
  | some d => simp
theorem bsk_lt {P : Pal} {k w : Nat} : bsk P k w < 2 ^ 8 := sto_lt _ _
theorem w15_l {S : Mem} {G : Nat → Int32} (h : S.1 = 233) {k : Nat} (hk : k < 8) : ldI (rowI S 15 G) 15 (nI k) = some (G k) := by rw [ld_15 (by exact h) hk, row_s]
theorem w15_s {S : Mem} {G : Nat → Int32} (h : S.1 = 233) {k : Nat} (hk : k < 8) (v : Int32) : stI (rowI S 15 G) 15 (nI k) v = some (rowI S 15 (upd G k v)) := by rw [st_15 (by exact h) hk, row_s, rII]
theorem c_opn {S : Mem} {p a b : Nat} {G : Nat → Int32} {g : Nat → Nat} (hR : rfC S p) (ha : a < 8) (hb : b < 8) (hne : a ≠ b) (hG : ∀ w, w < 8 → G w = nI (g w)) (hg : ∀ w, g w < 2 ^ 8) : f_X4_openDoor 14 (nI a) (nI b) (1 : Int32) (rowI S 15 G) = some (rowI S 15 (upd (upd G a (nI (setb (g a) b true))) b (nI (setb (g b) a true)))) := by
  have hS := hR.1
  have hRT : ∀ G, rfC (rowI S 15 G) p := fun G => rfC_e hR rfl rfl
  have g1 := hg a
  have g2 := hg b
  have x1 : f_X8_withBit (G a) (nI b) (1 : Int32) = some (nI (setb (g a) b true)) := by rw [hG a ha]; exact c_withBit (by omega) (by omega) true
  have x2 : f_X8_withBit ((upd G a (nI (setb (g a) b true))) b) (nI a) (1 : Int32) = some (nI (setb (g b) a true)) := by rw [upd_n (fun z => hne z.symm), hG b hb]; exact c_withBit (by omega) (by omega) true
  unfold f_X4_openDoor
  exact bs (r_14_7 (hRT G)) (bs (r_14_7 (hRT G)) (bs (w15_l hS ha) (bs x1 (bs (w15_s hS ha _) (bs (r_14_7 (hRT _)) (bs (r_14_7 (hRT _)) (bs (w15_l hS hb) (bs x2 (bs (w15_s hS hb _) rfl)))))))))
theorem c_begd {S : Mem} {p : Nat} {P : Pal} (hR : rfC S p) (hPa : PaR S p P) (hP : wfP P) : ∀ m k fu G, drs P = k + m → m < fu → (∀ w, w < 8 → G w = nI (bsk P k w)) → ∃ G', (∀ w, w < 8 → G' w = nI (bes P 0 w)) ∧ f_X4_begin_b54 fu 14 p (nI k) (rowI S 15 G) = some (rowI S 15 G') := by
  have hS := hR.1
  have hp := hR.2.1
  have hd12 := hP.2.1
  have hr8 := hP.1
  have hRT : ∀ G, rfC (rowI S 15 G) p := fun G => rfC_e hR rfl rfl
  have g3 : ∀ G, gI 2 3 (rowI S 15 G) p = some (nI (drs P)) := fun G => by rw [g_p (by exact hS) hp, row_n (by omega), hPa.2.1]
  intro m
  induction m with
  | zero =>
    intro k fu G hk hf hG
    obtain ⟨fu, rfl⟩ : ∃ z, fu = z + 1 := ⟨fu - 1, by omega⟩
    refine ⟨G, fun w hw => by rw [hG w hw, show k = drs P by omega, bsk_f], ?_⟩
    rw [f_X4_begin_b54]
    exact bs (g3 G) (bp (nI_le (by omega) (by omega)) rfl)
  | succ m ih =>
    intro k fu G hk hf hG
    obtain ⟨fu, rfl⟩ : ∃ z, fu = z + 1 := ⟨fu - 1, by omega⟩
    obtain ⟨f1, f2, f3⟩ := hP.2.2.2.1 k (by omega)
    have a1 : ldI (rowI S 15 G) (p + 1) (nI k) = some (nI (dfr P k)) := by rw [ld_p1 (by exact hS) hp (by omega), row_n (by omega), hPa.2.2.2.1 k (by omega)]
    have a2 : ldI (rowI S 15 G) (p + 2) (nI k) = some (nI (dto P k)) := by rw [ld_p2 (by exact hS) hp (by omega), row_n (by omega), hPa.2.2.2.2.1 k (by omega)]
    obtain ⟨G', i1, i2⟩ := ih (k + 1) fu (upd (upd G (dfr P k) (nI (setb (bsk P k (dfr P k)) (dto P k) true))) (dto P k) (nI (setb (bsk P k (dto P k)) (dfr P k) true))) (by omega) (by omega) (fun w hw => by
      rw [bsk_s hP (by omega)]
      by_cases q1 : w = dfr P k
      · subst q1; rw [upd_n f3, upd_s, if_pos rfl]
      · rw [if_neg q1]
        by_cases q2 : w = dto P k
        · subst q2; rw [upd_s, if_pos rfl]
        · rw [upd_n q2, upd_n q1, if_neg q2]; exact hG w hw)
    refine ⟨G', i1, ?_⟩
    rw [f_X4_begin_b54]
    refine bs (g3 G) (bn (nI_ge (by omega) (by omega)) (bs (r_p_7 (hRT G) hp) (bs a1 (bs (r_p_8 (hRT G) hp) (bs a2 (bs (c_14 (by exact hS)) (bs (c_opn hR (by omega) (by omega) f3 hG (fun w => bsk_lt)) ?_)))))))
    rw [Option.bind_some, nI_1]; exact i2
