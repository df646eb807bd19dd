theorem isNoRule1 {x : Int32} (h : x < 0 ∨ nI 64 ≤ x) : f_X8_isNoRule x = some (nI 1) := by
  unfold f_X8_isNoRule f_X8_isNoRule_b10
  by_cases h0 : x < 0
  · exact bp h0 rfl
  · refine bn h0 (bn (fun z => ?_) rfl)
    have a := Int32.lt_iff_toInt_lt.mp z
    have b := Int32.le_iff_toInt_le.mp (h.resolve_left h0)
    have c : (64 : Int32).toInt = (nI 64).toInt := rfl
    omega
theorem isNoRule0 {j : Nat} (h : j < 64) : f_X8_isNoRule (nI j) = some (nI 0) := by
  unfold f_X8_isNoRule
  exact bn (nI_pos (by omega)) (bp (by rw [zi 64, nI_ltI (by omega) (by omega)]; exact h) rfl)
theorem isRule0 {x : Int32} (h : x < 0 ∨ nI 64 ≤ x) : f_X9_isRule x = some (nI 0) := by
  unfold f_X9_isRule
  have g : nI 64 ≤ x ↔ nI 63 < x := by rw [Int32.le_iff_toInt_le, Int32.lt_iff_toInt_lt, nI_toInt (by omega), nI_toInt (by omega)]; omega
  rw [g] at h
  exact bs (in_k0 (a := 0) (b := 63) (by omega) (by omega) h) (bs zok0 rfl)
theorem isRule1 {j : Nat} (h : j < 64) : f_X9_isRule (nI j) = some (nI 1) := by
  unfold f_X9_isRule
  exact bs (a := nI 1) ((in_kj (j := j) (a := 0) (b := 63) (by omega) (by omega) (by omega)).trans (by rw [if_pos (by omega)])) (bs zok1 rfl)
theorem ss_comm {B : Mem} {P : Pal} {m m' : Nat → Nat} : ss (ss B 189 P m) 191 P m' = ss (ss B 191 P m') 189 P m := rI_comm (by decide)
def wkF (P : Pal) (n : Nat → Nat) (f : Nat → Int32) (i : Nat) : Nat → Int32 := fun k => if 1 ≤ k ∧ k ≤ i then nI (gonN P k n 2) else f k
theorem wk_up {P : Pal} {n : Nat → Nat} {f : Nat → Int32} {i : Nat} : upd (wkF P n f i) (i + 1) (nI (gonN P (i + 1) n 2)) = wkF P n f (i + 1) := by
  funext k
  by_cases h : k = i + 1
  · subst h; rw [upd_s]; unfold wkF; rw [if_pos (by omega)]
  · rw [upd_n h]
    unfold wkF
    by_cases h' : 1 ≤ k ∧ k ≤ i
    · rw [if_pos h', if_pos (by omega)]
    · rw [if_neg h', if_neg (by omega)]
theorem slF_0 {P : Pal} {n : Nat → Nat} {j : Nat} (hr : rms P ≤ 8) : upd (slF P n) 0 (nI j) = slF P (va_up n 0 j) := by
  funext k
  by_cases h : k = 0
  · subst h; rw [upd_s]; rfl
  · rw [upd_n h]
    unfold slF
    rw [noi_up hr (by omega), cnt_up hr (by omega)]
    simp only [h, if_false]
    rfl
theorem op_30 (x y : Int32) (S : Mem) (h : Inv S) : ∃ S1, sk_30 x y S = some S1 ∧ Inv S1 := by
  obtain ⟨p, P, n, hR, hPa, hst, ht, hM, hn, hw, -⟩ := Inv_x h
  have hS := hR.1
  have hP := hM.2.2.2.2.2.2.2
  have hr8 := hP.1
  have ep : gI 2 2 S p = some (nI (rms P)) := by rw [g_p hS hR.2.1, hPa.1]
  rcases tri x (r := 64) (by omega) with hx | ⟨j, hj, rfl⟩
  · refine ⟨_, pick2 (v := -1000000001) (S1 := S) (S2 := S) ?_ ?_ hS hS, h⟩
    · unfold f_X8_otherwise
      exact bs (isNoRule1 hx) (bn nI10 rfl)
    · unfold f_X9_otherwise
      exact bs (isRule0 hx) (bp nI00 rfl)
  · by_cases h0 : rms P = 0
    · refine ⟨_, pick2 (v := -1000000003) (S1 := S) (S2 := S) ?_ ?_ hS hS, h⟩
      · unfold f_X8_otherwise
        exact bs (isNoRule0 hj) (bp nI00 (bs (r_0_1 hR) (bs ep (bp ((r0_eq hr8).mpr h0) rfl))))
      · unfold f_X9_otherwise
        exact bs (isRule1 hj) (bn nI10 (bs (mgI hS 1) (bp (by rw [hM.2.1]; exact (r0_eq hr8).mpr h0) rfl)))
    · have h0' : 0 < rms P := by omega
      have hbs := hst.2.2.1
      have hs := hst.2.1
      have hw' : wfN P 9060 (va_up n 0 j) := wu_0 hw hj
      obtain ⟨B1, b1, b2, b3⟩ := c_copySl (slk_189 hR) (slb_ hR hbs) hs (by decide) (by decide) (by decide) (fun k hk => ht 189 (by decide) (by decide +kernel) k hk)
      have hR1 : rfC (ss B1 189 P n) p := rfC_e (rfC_fr hR b3) rfl rfl
      have e1 : ∀ b, b ≠ 190 → B1.2.1 b = S.2.1 b := fun b hb => (b3.2.2 b (by simp [hb])).1
      have e1' : ∀ b, B1.2.2.1 b = S.2.2.1 b ∨ b = 190 := fun b => by
        by_cases q : b = 190
        · exact Or.inr q
        · exact Or.inl (b3.2.2 b (by simp [q])).2
      have s14 : (ss B1 189 P n).2.1 14 = slF P n := by
        show B1.2.1 14 = _
        rw [e1 14 (by decide)]; exact hs
      have s15 : ∀ w, w < 8 → (ss B1 189 P n).2.1 15 w = nI (bes P (n 6) w) := fun w hw => by
        show B1.2.1 15 w = _
        rw [e1 15 (by decide)]; exact hbs w hw
      obtain ⟨B, d1, d2, d3⟩ := c_copySl (slk_191 hR1) (slb_ hR1 s15) s14 (by decide) (by decide) (by decide) (fun k hk => by
        show B1.2.1 191 k = 0
        rw [e1 191 (by decide)]; exact ht 191 (by decide) (by decide +kernel) k hk)
      have hRB : rfC B p := rfC_fr hR1 d3
      have e2 : ∀ b, b ≠ 192 → B.2.1 b = (ss B1 189 P n).2.1 b := fun b hb => (d3.2.2 b (by simp [hb])).1
      have s189 : B.2.1 189 = slF P n := by rw [e2 189 (by decide)]; rfl
      have d4 : SLb B 189 P (n 6) := by
        refine slb_fr b2 d3.1 d3.2.1 ?_
        rw [e2 190 (by decide)]; rfl
      have d2' : SLb B 191 P ((va_up n 0 j) 6) := d2
      have hB0 : ss B 189 P n = B := ss_self s189
      have T : ∀ i, gR 8 7 (ss (ss B 189 P (gonN P i n)) 191 P (gonN P i (va_up n 0 j))) 0 = some 189 ∧ ck 4 (ss (ss B 189 P (gonN P i n)) 191 P (gonN P i (va_up n 0 j))) 189 = some () ∧ f_X4_tryHour 189 (ss (ss B 189 P (gonN P i n)) 191 P (gonN P i (va_up n 0 j))) = some (ss (ss B 189 P (gonN P (i + 1) n)) 191 P (gonN P i (va_up n 0 j))) ∧ gI 4 1 (ss (ss B 189 P (gonN P i n)) 191 P (gonN P i (va_up n 0 j))) 189 = some (nI (gonN P i n 2)) := by
        intro i
        have dB : SLb (ss B 191 P (gonN P i (va_up n 0 j))) 189 P (n 6) := slb_fr d4 rfl rfl rfl
        obtain ⟨t1, t2, t3, t4⟩ := sl_try hP hw h0' dB (rfC_e hRB rfl rfl) i
        rw [← ss_comm] at t1 t2 t3 t4
        rw [← ss_comm] at t4
        exact ⟨t1, t2, t4, t3⟩
      have U : ∀ i k, gR 8 8 (ss (ss B 189 P (gonN P k n)) 191 P (gonN P i (va_up n 0 j))) 0 = some 191 ∧ ck 4 (ss (ss B 189 P (gonN P k n)) 191 P (gonN P i (va_up n 0 j))) 191 = some () ∧ f_X4_tryHour 191 (ss (ss B 189 P (gonN P k n)) 191 P (gonN P i (va_up n 0 j))) = some (ss (ss B 189 P (gonN P k n)) 191 P (gonN P (i + 1) (va_up n 0 j))) ∧ gI 4 1 (ss (ss B 189 P (gonN P k n)) 191 P (gonN P i (va_up n 0 j))) 191 = some (nI (gonN P i (va_up n 0 j) 2)) := by
        intro i k
        have dB : SLb (ss B 189 P (gonN P k n)) 191 P ((va_up n 0 j) 6) := slb_fr d2' rfl rfl rfl
        have e6 : gonN P i (va_up n 0 j) 6 = (va_up n 0 j) 6 := gon_at hP h0' hw' (by decide) (by decide) (by decide) (by decide) (by decide) (by decide) (by decide) (by decide) i
        refine ⟨r_0_8 (rfC_e hRB rfl rfl), ss_ck dB, ?_, ss_gI dB⟩
        have := c_tryHour (n := gonN P i (va_up n 0 j)) hP (by rw [e6]; exact dB) (gon_wf hP h0' hw' i) h0'
        rw [this, gon_succ]
      have L : ∀ m i fu, 100 = i + m → m < fu → ∃ e, f_X8_otherwise_b61 fu 0 (nI (i + 1)) (ss (ss B 189 P (gonN P i n)) 191 P (gonN P i (va_up n 0 j))) = some (fwr (fun i => !decide (gonN P i n 2 = gonN P i (va_up n 0 j) 2)) (i + 1) m, ss (ss B 189 P (gonN P e n)) 191 P (gonN P e (va_up n 0 j))) := by
        intro m
        induction m with
        | zero =>
          intro i fu hi hf
          obtain ⟨fu, rfl⟩ : ∃ z, fu = z + 1 := ⟨fu - 1, by omega⟩
          refine ⟨i, ?_⟩
          rw [f_X8_otherwise_b61]
          exact bp (by rw [zi 100, nI_ltI (by omega) (by omega)]; omega) rfl
        | succ m ih =>
          intro i fu hi hf
          obtain ⟨fu, rfl⟩ : ∃ z, fu = z + 1 := ⟨fu - 1, by omega⟩
          obtain ⟨t1, t2, t3, -⟩ := T i
          obtain ⟨u1, u2, u3, -⟩ := U i (i + 1)
          obtain ⟨v1, v2, -, v4⟩ := T (i + 1)
          obtain ⟨z1, z2, -, z4⟩ := U (i + 1) (i + 1)
          have k1 := gon_2 hP h0' hw (i + 1)
          have k2 := gon_2 hP h0' hw' (i + 1)
          rw [f_X8_otherwise_b61]
          have c100 : ¬ (100 : Int32) < nI (i + 1) := by rw [zi 100, nI_ltI (by omega) (by omega)]; omega
          by_cases q : gonN P (i + 1) n 2 = gonN P (i + 1) (va_up n 0 j) 2
          · obtain ⟨e, he⟩ := ih (i + 1) fu (by omega) (by omega)
            refine ⟨e, bn c100 (bs t1 (bs t2 (bs t3 (bs u1 (bs u2 (bs u3 (bs v1 (bs v4 (bs z1 (bs z4 (bp (by rw [q]) ?_)))))))))))⟩
            rw [Option.bind_some, zi 1, nI_add, he, fwr_f (k := i + 1) (by simp [q])]
          · refine ⟨i + 1, bn c100 (bs t1 (bs t2 (bs t3 (bs u1 (bs u2 (bs u3 (bs v1 (bs v4 (bs z1 (bs z4 (bn (fun z => q ((nI_eq (by omega) (by omega)).mp z)) ?_)))))))))))⟩
            rw [fwr_t (k := i + 1) (by simp [q])]
      obtain ⟨e, he⟩ := L 100 0 FU (by omega) (by unfold FU; omega)
      have hstart : ss (ss B 189 P (gonN P 0 n)) 191 P (gonN P 0 (va_up n 0 j)) = ss B 191 P (va_up n 0 j) := by
        show ss (ss B 189 P n) 191 P (va_up n 0 j) = _
        rw [hB0]
      obtain ⟨S1, hS1⟩ : ∃ S1, S1 = ss (ss B 189 P (gonN P e n)) 191 P (gonN P e (va_up n 0 j)) := ⟨_, rfl⟩
      have rS1 : rfC S1 p := by rw [hS1]; exact rfC_e hRB rfl rfl
      have f1 : fr scr S S1 := by
        rw [hS1]
        refine fr.tr (b3.mono (fun a ha => ?_)) (fr.tr (fr.rowI (a := 189) (f := slF P n) (by decide)) (fr.tr (d3.mono (fun a ha => ?_)) (fr.tr (fr.rowI (by decide)) (fr.rowI (by decide)))))
        · simp only [beq_eq_false_iff_ne]; intro z; rw [z] at ha; exact absurd ha (by decide)
        · simp only [beq_eq_false_iff_ne]; intro z; rw [z] at ha; exact absurd ha (by decide)
      have n220 : S1.2.2.1 220 = LL n := by rw [(f1.2.2 220 (by decide)).2]; exact hn
      have mS1 : RMb S1 P := RMb_e hM f1.1 f1.2.1 (fun k hk => by rw [(f1.2.2 216 (by decide)).1]) (f1.2.2 217 (by decide)).1 (f1.2.2 218 (by decide)).1 (f1.2.2 219 (by decide)).1
      obtain ⟨M, hM1⟩ : ∃ M, M = rowJ S1 224 (asd n (S1.2.2.1 224) 80) := ⟨_, rfl⟩
      have q1 : f_X9_asides 216 S1 = some M := by rw [hM1]; exact q_aside rS1 n220
      have m220 : M.2.2.1 220 = LL n := by rw [hM1]; exact n220
      have rM : rfC M p := by rw [hM1]; exact rfC_e rS1 rfl rfl
      have hM4 : ∀ k, k < 80 → M.2.2.1 224 k = lN (n k) := fun k hk => by
        rw [hM1]
        show asd n (S1.2.2.1 224) 80 k = _
        unfold asd
        rw [if_pos hk]
      have mM : RMb M P := by rw [hM1]; exact RMb_e mS1 rfl rfl (fun k hk => rfl) rfl rfl rfl
      have snM : ∀ f, sn (rowI M 229 f) n = rowI M 229 f := fun f => sn_self m220
      have hMf : ∀ f, RMb (rowI M 229 f) P := fun f => RMb_e mM rfl rfl (fun k hk => rfl) rfl rfl rfl
      have hRf : ∀ f, rfC (rowI M 229 f) p := fun f => rfC_e rM rfl rfl
      have W1 : ∀ m i fu, 100 = i + m → m < fu → f_X9_otherwise_b26 fu 216 (nI j) (nI (i + 1)) (sn (rowI M 229 (wkF P n (M.2.1 229) i)) (gonN P i n)) = f_X9_otherwise_b69 FU 216 (-1 : Int32) (nI 1) (sn (rowI M 229 (wkF P n (M.2.1 229) 100)) (va_up n 0 j)) := by
        intro m
        induction m with
        | zero =>
          intro i fu hi hf
          obtain ⟨fu, rfl⟩ : ∃ z, fu = z + 1 := ⟨fu - 1, by omega⟩
          obtain rfl : i = 100 := by omega
          rw [f_X9_otherwise_b26]
          refine bp (by rw [zi 101, nI_leI (by omega) (by omega)]; omega) (bs (mck (by exact rM.1)) (bs (q_back (hRf _) (n := n) (by exact hM4) (fun k hk => gon_hi hP h0' hw hk 100)) (bs (R_7 (rfC_e rM rfl rfl)) (bs ?_ rfl))))
          rw [nI_l (by omega), zi 0]
          exact sn_st (by exact rM.1) (by decide) _
        | succ m ih =>
          intro i fu hi hf
          obtain ⟨fu, rfl⟩ : ∃ z, fu = z + 1 := ⟨fu - 1, by omega⟩
          have ih := ih (i + 1) fu (by omega) (by omega)
          rw [f_X9_otherwise_b26]
          refine bn (by rw [zi 101, nI_leI (by omega) (by omega)]; omega) (bs (mck (by exact rM.1)) (bs (m_try (hMf _) hw h0' (by omega)) (bs (R_22 (rfC_e rM rfl rfl)) (bs (mck (by exact rM.1)) (bs (m_at (hMf _).1 (by decide)) (bs (st_229 (by exact rM.1) (by omega) _) ?_))))))
          rw [Option.bind_some, zi 1, nI_add]
          have : rowI (sn (rowI M 229 (wkF P n (M.2.1 229) i)) (gonN P (i + 1) n)) 229 (upd ((sn (rowI M 229 (wkF P n (M.2.1 229) i)) (gonN P (i + 1) n)).2.1 229) (i + 1) (nI (gonN P (i + 1) n 2))) = sn (rowI M 229 (wkF P n (M.2.1 229) (i + 1))) (gonN P (i + 1) n) := by
            show sn (rowI (rowI M 229 (wkF P n (M.2.1 229) i)) 229 (upd (wkF P n (M.2.1 229) i) (i + 1) (nI (gonN P (i + 1) n 2)))) (gonN P (i + 1) n) = _
            rw [rII, wk_up]
          rw [this]
          exact ih
      have W2 : ∀ m i fu, 100 = i + m → m < fu → f_X9_otherwise_b69 fu 216 (-1 : Int32) (nI (i + 1)) (sn (rowI M 229 (wkF P n (M.2.1 229) 100)) (gonN P i (va_up n 0 j))) = some (fwr (fun i => !decide (gonN P i n 2 = gonN P i (va_up n 0 j) 2)) (i + 1) m, rowI M 229 (wkF P n (M.2.1 229) 100)) := by
        have bk : ∀ i, f_X9_backs 216 (sn (rowI M 229 (wkF P n (M.2.1 229) 100)) (gonN P i (va_up n 0 j))) = some (rowI M 229 (wkF P n (M.2.1 229) 100)) := fun i => by
          rw [q_back (hRf _) (n := n) (by exact hM4) (fun k hk => by rw [gon_hi hP h0' hw' hk i, up_at, if_neg (by omega)]), snM]
        intro m
        induction m with
        | zero =>
          intro i fu hi hf
          obtain ⟨fu, rfl⟩ : ∃ z, fu = z + 1 := ⟨fu - 1, by omega⟩
          rw [f_X9_otherwise_b69]
          exact bp (by rw [zi 101, nI_leI (by omega) (by omega)]; omega) (bs (mck (by exact rM.1)) (bs (bk i) rfl))
        | succ m ih =>
          intro i fu hi hf
          obtain ⟨fu, rfl⟩ : ∃ z, fu = z + 1 := ⟨fu - 1, by omega⟩
          have ih := ih (i + 1) fu (by omega) (by omega)
          have k1 := gon_2 hP h0' hw (i + 1)
          have k2 := gon_2 hP h0' hw' (i + 1)
          rw [f_X9_otherwise_b69]
          refine bn (by rw [zi 101, nI_leI (by omega) (by omega)]; omega) (bp rfl (bs (mck (by exact rM.1)) (bs (m_try (hMf _) hw' h0' (by omega)) (bs (mck (by exact rM.1)) (bs (m_at (hMf _).1 (by decide)) (bs (R_22 (rfC_e rM rfl rfl)) (bs (a := nI (gonN P (i + 1) n 2)) ?_ ?_)))))))
          · rw [ld_229 (by exact rM.1) (by omega)]
            show some (wkF P n (M.2.1 229) 100 (i + 1)) = _
            unfold wkF
            rw [if_pos (by omega)]
          · by_cases q : gonN P (i + 1) (va_up n 0 j) 2 = gonN P (i + 1) n 2
            · refine bp (by rw [q]) ?_
              rw [f_X9_otherwise_b103, Option.bind_some, zi 1, nI_add, fwr_f (k := i + 1) (by simp [q])]
              exact ih
            · refine bn (fun z => q ((nI_eq (by omega) (by omega)).mp z)) ?_
              have q' : ¬ gonN P (i + 1) n 2 = gonN P (i + 1) (va_up n 0 j) 2 := fun z => q z.symm
              rw [f_X9_otherwise_b103, Option.bind_some, zi 1, nI_add, fwr_t (k := i + 1) (by simp [q'])]
              obtain ⟨fu, rfl⟩ : ∃ z, fu = z + 1 := ⟨fu - 1, by omega⟩
              rw [f_X9_otherwise_b69]
              have f110 : f_X9_otherwise_b110 216 (nI (i + 1)) (sn (rowI M 229 (wkF P n (M.2.1 229) 100)) (gonN P (i + 1) (va_up n 0 j))) = some (nI (i + 1), rowI M 229 (wkF P n (M.2.1 229) 100)) := bs (mck (by exact rM.1)) (bs (bk _) rfl)
              by_cases z : (101 : Int32) ≤ nI (i + 1 + 1)
              · exact bp z f110
              · exact bn z (bn (z_nem1 (a := i + 1) (by omega)) f110)
      have w0 : rowI M 229 (wkF P n (M.2.1 229) 0) = M := by
        have : wkF P n (M.2.1 229) 0 = M.2.1 229 := by
          funext k
          unfold wkF
          rw [if_neg (by omega)]
        rw [this, rI_same]
      refine ⟨_, pick2 (v := fwr (fun i => !decide (gonN P i n 2 = gonN P i (va_up n 0 j) 2)) 1 100) (S1 := S1) (S2 := rowI M 229 (wkF P n (M.2.1 229) 100)) ?_ ?_ hS rS1.1, ?_⟩
      · unfold f_X8_otherwise
        refine bs (isNoRule0 hj) (bp nI00 (bs (r_0_1 hR) (bs ep (bn (fun z => h0 ((r0_eq hr8).mp z)) (bs (r_0_7 hR) (bs (r_0_2 hR) (bs (r_13_0 hR) (bs (c_189 hS) (bs b1 (bs (r_0_8 hR1) (bs (r_0_2 hR1) (bs (r_13_0 hR1) (bs (c_191 hR1.1) (bs d1 (bs (r_0_8 (rfC_e hRB rfl rfl)) (bs (ss_pI d2) ?_))))))))))))))))
        rw [slF_0 hr8, hS1]
        rw [hstart] at he
        exact he
      · have := W1 100 0 FU (by omega) (by unfold FU; omega)
        have e3 := W2 100 0 FU (by omega) (by unfold FU; omega)
        rw [w0, show sn M (gonN P 0 n) = M from sn_self m220] at this
        unfold f_X9_otherwise
        exact bs (isRule1 hj) (bn nI10 (bs (mgI rS1.1 1) (bn (by rw [mS1.2.1]; exact fun z => h0 ((r0_eq hr8).mp z)) (bs (mck rS1.1) (bs q1 (this.trans e3))))))
      · refine Inv_q h (fr.tr f1 (fr.tr (by rw [hM1]; exact fr.rowJ (by decide)) (fr.rowI (by decide)))) (fun k hk => ?_)
        have z0 : ∀ m, slF P m k = 0 := fun m => by
          unfold slF
          rw [if_neg (by omega), if_neg (by omega), if_neg (by omega), if_neg (by omega), if_neg (by omega), if_neg (by omega), if_neg (by omega)]
        rw [hM1, hS1]
        exact ⟨z0 _, z0 _⟩
