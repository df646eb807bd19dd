def nsA (R : Nat → Int64) (k : Nat) : Nat → Int64 := fun j => if j < k then R (j + 80) else R j
theorem nsA_up {R : Nat → Int64} {k : Nat} : vp_updL (nsA R k) k (R (k + 80)) = nsA R (k + 1) := by
  funext j
  unfold vp_updL nsA
  by_cases h : j = k
  · subst h; simp
  · by_cases h' : j < k
    · simp [h, h', show j < k + 1 by omega]
    · simp [h, h', show ¬ j < k + 1 by omega]
def nsB (R : Nat → Int64) (n : Nat → Nat) (c k : Nat) : Nat → Int64 := fun j => if 80 * c ≤ j ∧ j < 80 * c + k then lN (n (j - 80 * c)) else R j
theorem nsB_up {R : Nat → Int64} {n : Nat → Nat} {c k : Nat} : vp_updL (nsB R n c k) (80 * c + k) (lN (n k)) = nsB R n c (k + 1) := by
  funext j
  unfold vp_updL nsB
  by_cases h : j = 80 * c + k
  · subst h
    simp only [if_true]
    rw [if_pos (by omega), show 80 * c + k - 80 * c = k by omega]
  · simp only [h, if_false]
    by_cases h' : 80 * c ≤ j ∧ j < 80 * c + k
    · rw [if_pos h', if_pos (by omega)]
    · rw [if_neg h', if_neg (by omega)]
theorem m_ns48 {T : Mem} {p c : Nat} {n : Nat → Nat} (hR : rfC T p) (hn : T.2.2.1 220 = LL n) (hc : T.2.1 216 16 = nI c) (hc15 : c ≤ 15) : ∀ m k fu, 80 = k + m → m < fu → f_X9_notes_b48 fu 216 (nI k) (rowJ T 223 (nsB (T.2.2.1 223) n c k)) = some (rowI (rowJ T 223 (nsB (T.2.2.1 223) n c 80)) 216 (upd (T.2.1 216) 16 (nI (c + 1)))) := by
  have hS := hR.1
  intro m
  induction m with
  | zero =>
    intro k fu hk hf
    obtain ⟨fu, rfl⟩ : ∃ z, fu = z + 1 := ⟨fu - 1, by omega⟩
    obtain rfl : k = 80 := by omega
    rw [f_X9_notes_b48]
    refine bp (by decide +kernel) (bs (a := nI c) ((mgI (by exact hS) 16).trans (congrArg some hc)) ?_)
    rw [zi 1, nI_add]
    exact bs (mpI (by exact hS) 16 _) rfl
  | succ m ih =>
    intro k fu hk hf
    obtain ⟨fu, rfl⟩ : ∃ z, fu = z + 1 := ⟨fu - 1, by omega⟩
    have ih := ih (k + 1) fu (by omega) (by omega)
    rw [f_X9_notes_b48]
    refine bn (by rw [zi 80, nI_leI (by omega) (by omega)]; omega) (bs (R_15 (rfC_e hR rfl rfl)) (bs (a := nI c) ((mgI (by exact hS) 16).trans (congrArg some hc)) (bs (R_7 (rfC_e hR rfl rfl)) (bs (a := lN (n k)) ?_ ?_))))
    · rw [ld_220 (by exact hS) (by omega)]
      show some (T.2.2.1 220 k) = _
      rw [hn]; rfl
    · rw [zi 80, pk_mul, nI_add]
      refine bs (st_223 (by exact hS) (by omega) _) ?_
      rw [rJJ, Option.bind_some, zi 1, nI_add]
      show f_X9_notes_b48 fu 216 (nI (k + 1)) (rowJ T 223 (vp_updL (nsB (T.2.2.1 223) n c k) (80 * c + k) (lN (n k)))) = _
      rw [nsB_up]; exact ih
theorem m_ns12 {T : Mem} {p : Nat} (hR : rfC T p) : ∀ m k fu, 1200 = k + m → m < fu → f_X9_notes_b12 fu 216 (nI (80 + k)) (rowJ T 223 (nsA (T.2.2.1 223) k)) = f_X9_notes_b46 216 (rowI (rowJ T 223 (nsA (T.2.2.1 223) 1200)) 216 (upd (T.2.1 216) 16 (nI 15))) := by
  have hS := hR.1
  intro m
  induction m with
  | zero =>
    intro k fu hk hf
    obtain ⟨fu, rfl⟩ : ∃ z, fu = z + 1 := ⟨fu - 1, by omega⟩
    obtain rfl : k = 1200 := by omega
    rw [f_X9_notes_b12]
    exact bp (by decide +kernel) (bs (mpI (by exact hS) 16 _) rfl)
  | succ m ih =>
    intro k fu hk hf
    obtain ⟨fu, rfl⟩ : ∃ z, fu = z + 1 := ⟨fu - 1, by omega⟩
    have ih := ih (k + 1) fu (by omega) (by omega)
    rw [f_X9_notes_b12]
    refine bn (by rw [zi 1280, nI_leI (by omega) (by omega)]; omega) (bs (R_15 (rfC_e hR rfl rfl)) (bs (R_15 (rfC_e hR rfl rfl)) (bs (a := T.2.2.1 223 (k + 80)) ?_ ?_)))
    · rw [ld_223 (by exact hS) (by omega)]
      show some (nsA (T.2.2.1 223) k (80 + k)) = _
      unfold nsA
      rw [if_neg (by omega), Nat.add_comm]
    · rw [zi 80, pk_sub (by omega), show 80 + k - 80 = k by omega]
      refine bs (st_223 (by exact hS) (by omega) _) ?_
      rw [rJJ, Option.bind_some, zi 1, nI_add]
      show f_X9_notes_b12 fu 216 (nI (80 + k + 1)) (rowJ T 223 (vp_updL (nsA (T.2.2.1 223) k) k (T.2.2.1 223 (k + 80)))) = _
      rw [nsA_up]; exact ih
theorem m_push {S : Mem} {p : Nat} {A : Abs} (hR : rfC S p) (hM : IM S A) (hW : IW A) : ∃ S6, f_X9_notes 216 S = some S6 ∧ IM S6 (psh A) ∧ fr hi S S6 := by
  obtain ⟨m1, m2, ⟨u0, u1⟩, m4, m5, m6, m7⟩ := hM
  have hS := hR.1
  have huc : A.2.1.2 ≤ 16 := hW.2.2.2.1
  have fin : ∀ (T : Mem) (c : Nat), rfC T p → fr hi S T → (∀ k, k ≠ 16 → T.2.1 216 k = S.2.1 216 k) → (∀ b, b ≠ 216 → T.2.1 b = S.2.1 b) → (∀ b, b ≠ 223 → T.2.2.1 b = S.2.2.1 b) → T.2.1 216 16 = nI c → c ≤ 15 → c + 1 = psC A.2.1.2 → (∀ i, i < c → ∀ k, k < 80 → T.2.2.1 223 (80 * i + k) = lN (psU A.2.1.1 A.2.1.2 A.1.2.2 i k)) → (∀ k, psU A.2.1.1 A.2.1.2 A.1.2.2 c k = A.1.2.2 k) → ∃ S6, f_X9_notes_b46 216 T = some S6 ∧ IM S6 (psh A) ∧ fr hi S S6 := by
    intro T c tR tf t1 t2 t3 t4 hc hc2 t5 t6
    have n220 : T.2.2.1 220 = LL A.1.2.2 := by rw [t3 220 (by decide)]; exact m2
    have e0 : rowJ T 223 (nsB (T.2.2.1 223) A.1.2.2 c 0) = T := by
      have : nsB (T.2.2.1 223) A.1.2.2 c 0 = T.2.2.1 223 := by
        funext j
        unfold nsB
        rw [if_neg (by omega)]
      rw [this, rJ_same]
    have := m_ns48 tR n220 t4 hc 80 0 FU (by omega) (by unfold FU; omega)
    rw [e0] at this
    refine ⟨_, this, ⟨Mpal_fr m1 (fun k hk => ?_) (t2 217 (by decide)) (t2 218 (by decide)) (t2 219 (by decide)), n220, ⟨?_, fun i hi k hk => ?_⟩, Mimg_fr m4 (t2 232 (by decide)) (t3 231 (by decide)), ?_, Mtext_fr m6 ?_ ?_ (t2 221 (by decide)), Mbook_fr m7 ?_ (t2 230 (by decide))⟩, fr.tr tf (fr.tr (fr.rowJ (by decide)) (fr.rowI (by decide)))⟩
    · show upd (T.2.1 216) 16 (nI (c + 1)) k = _
      rw [upd_n (by omega), t1 k (by omega)]
    · show upd (T.2.1 216) 16 (nI (c + 1)) 16 = nI (psC A.2.1.2)
      rw [upd_s, hc2]
    · have hi' : i < psC A.2.1.2 := hi
      show nsB (T.2.2.1 223) A.1.2.2 c 80 (80 * i + k) = lN (psU A.2.1.1 A.2.1.2 A.1.2.2 i k)
      unfold nsB
      by_cases q : i < c
      · rw [if_neg (by omega)]; exact t5 i q k hk
      · have : i = c := by omega
        subst this
        rw [if_pos (by omega), t6 k, show 80 * i + k - 80 * i = k by omega]
    · show T.2.2.1 216 8 = _
      rw [t3 216 (by decide)]; exact m5
    · show upd (T.2.1 216) 16 (nI (c + 1)) 10 = _
      rw [upd_n (by decide), t1 10 (by decide)]
    · show upd (T.2.1 216) 16 (nI (c + 1)) 13 = _
      rw [upd_n (by decide), t1 13 (by decide)]
    · show upd (T.2.1 216) 16 (nI (c + 1)) 24 = _
      rw [upd_n (by decide), t1 24 (by decide)]
  unfold f_X9_notes
  by_cases q : A.2.1.2 < 16
  · obtain ⟨S6, g1, g2⟩ := fin S A.2.1.2 hR fr.rf (fun _ _ => rfl) (fun _ _ => rfl) (fun _ _ => rfl) u0 (by omega) (by unfold psC; rw [if_pos q]) (fun i hi k hk => by
      unfold psU
      rw [if_pos q, if_pos hi]; exact u1 i hi k hk) (fun k => by unfold psU; rw [if_pos q, if_neg (by omega)])
    refine ⟨S6, bs ((mgI hS 16).trans (congrArg some u0)) (bn ?_ g1), g2⟩
    rw [zi 16, nI_eq (by omega) (by omega)]; omega
  · have q16 : A.2.1.2 = 16 := by omega
    have e0 : rowJ S 223 (nsA (S.2.2.1 223) 0) = S := by
      have : nsA (S.2.2.1 223) 0 = S.2.2.1 223 := by
        funext j
        unfold nsA
        rw [if_neg (by omega)]
      rw [this, rJ_same]
    have w := m_ns12 hR 1200 0 FU (by omega) (by unfold FU; omega)
    rw [e0] at w
    obtain ⟨S6, g1, g2⟩ := fin (rowI (rowJ S 223 (nsA (S.2.2.1 223) 1200)) 216 (upd (S.2.1 216) 16 (nI 15))) 15 (rfC_e hR rfl rfl) (fr.tr (fr.rowJ (by decide)) (fr.rowI (by decide))) (fun k hk => by
      show upd (S.2.1 216) 16 (nI 15) k = _
      exact upd_n hk) (fun b hb => by
      show (if b = 216 then _ else S.2.1 b) = _
      rw [if_neg hb]) (fun b hb => by
      show (if b = 223 then _ else S.2.2.1 b) = _
      rw [if_neg hb]) (by
      show upd (S.2.1 216) 16 (nI 15) 16 = _
      rw [upd_s]) (by omega) (by unfold psC; rw [if_neg q]) (fun i hi k hk => by
      show nsA (S.2.2.1 223) 1200 (80 * i + k) = _
      unfold nsA psU
      rw [if_pos (by omega), if_neg q, if_pos hi, ← u1 (i + 1) (by omega) k hk, show 80 * i + k + 80 = 80 * (i + 1) + k by omega]) (fun k => by unfold psU; rw [if_neg q, if_neg (by omega)])
    refine ⟨S6, bs ((mgI hS 16).trans (congrArg some u0)) (bp ?_ (w.trans g1)), g2⟩
    rw [q16]; rfl
theorem IC_stn {S S' : Mem} {p : Nat} {A : Abs} {m : Nat → Nat} (hC : IC S p A) (f : fr X13 S S') (h : StR S' 13 A.1.1 m) : IC S' p (stn A m) := by
  obtain ⟨c1, c2, c3, c4, c5, c6, c7, c8, c9⟩ := hC
  have hp := c1.2.1
  have e : ∀ b, b < 13 ∨ 22 < b → S'.2.1 b = S.2.1 b := fun b hb => (f.2.2 b (by simp only [X13, Bool.and_eq_false_iff, decide_eq_false_iff_not]; omega)).1
  refine ⟨rfC_fr c1 f, Cpal_fr c2 (fun b h1 h2 => e b (by omega)), h, Cpast_fr c4 (fun b h1 h2 => e b (by omega)), Cimg_fr c5 (fun b h1 h2 => e b (by omega)), by rw [e 0 (by omega)]; exact c6, Ctext_fr c7 (e _ (by omega)) (e _ (by omega)), Cbook_fr c8 (e _ (by omega)) (e _ (by omega)) (e _ (by omega)), tl_copy (s := 13) c9 (by decide) (by decide) (f.mono (fun a ha => ?_)) h⟩
  have := btw_nf ha
  simp only [X13, Bool.and_eq_false_iff, decide_eq_false_iff_not]; omega
theorem IM_stn {S : Mem} {A : Abs} {m : Nat → Nat} (hM : IM S A) : IM (sn S m) (stn A m) := by
  obtain ⟨m1, m2, m3, m4, m5, m6, m7⟩ := hM
  exact ⟨Mpal_fr m1 (fun k hk => rfl) rfl rfl rfl, rfl, Mpast_fr m3 rfl rfl, Mimg_fr m4 rfl rfl, m5, Mtext_fr m6 rfl rfl rfl, Mbook_fr m7 rfl rfl⟩
theorem lo_13 {S S' : Mem} (f : fr X13 S S') : fr lo S S' := f.mono (fun a ha => by
  have : ¬ a < 216 := of_decide_eq_false ha
  simp only [X13, Bool.and_eq_false_iff, decide_eq_false_iff_not]; omega)
theorem sn_hi {S : Mem} {m : Nat → Nat} : fr hi S (sn S m) := fr.rowJ (by decide)
