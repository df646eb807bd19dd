/-! clauses: the model -/
def RdM (S : Mem) (p : Nat) (tx : Nat → Nat) (tn : Nat) : Prop := rfC S p ∧ (∀ k, k < tn → S.2.1 221 k = nI (tx k)) ∧ tn ≤ 240 ∧ ∀ k, tx k < 256
def stM (F : Nat → Int32) (tn : Nat) (r : Except (Nat × Nat) Nat) : Prop := (∀ q, r = .ok q → oM F tn q) ∧ ∀ e, r = .error e → eM F tn e
theorem m_numS {S : Mem} {p tn lim : Nat} {tx : Nat → Nat} {F : Nat → Int32} {r : Except (Nat × Nat) Nat} (h : RdM S p tx tn) (hg : gS tn r) (hF : stM F tn r) (hl : lim < 2 ^ 20) :
    ∃ v F', v < 2 ^ 23 ∧ f_X9_number 216 (nI lim - (1 : Int32)) (rowI S 216 F) = some (nI v, rowI S 216 F') ∧ kM F F' ∧ stM F' tn (sNum tx tn r lim) ∧ ∀ q', sNum tx tn r lim = .ok q' → v = nv tx tn r lim := by
  obtain ⟨hR, ht, h240, h256⟩ := h
  unfold sNum nv
  cases e : r with
  | error z =>
    have g := hg.2 z e
    have hf := hF.2 z e
    exact ⟨0, F, by decide, m_num_e hR.1 hf ⟨g.1, g.2.1⟩, kM.rf, ⟨fun q h' => absurd h' (by simp), fun e' h' => by injection h' with h'; subst h'; exact hf⟩, fun q' h' => absurd h' (by simp)⟩
  | ok q =>
    obtain ⟨v, F', v1, v2, vk, v3, v4⟩ := m_num hR ht h240 h256 (hg.1 q e) (hF.1 q e) hl
    refine ⟨v, F', v1, v2, vk, ?_⟩
    dsimp only
    cases y : aNum tx tn q lim with
    | error z => exact ⟨⟨fun q h' => absurd h' (by simp), fun e' h' => by injection h' with h'; subst h'; exact v4 _ y⟩, fun q' h' => absurd h' (by simp)⟩
    | ok x =>
      obtain ⟨a1, a2⟩ := v3 x.1 x.2 y
      exact ⟨⟨fun q h' => by injection h' with h'; subst h'; exact a2, fun e' h' => absurd h' (by simp)⟩, fun q' h' => a1⟩
theorem m_endS {S : Mem} {p tn : Nat} {tx : Nat → Nat} {F : Nat → Int32} {r : Except (Nat × Nat) Nat} (h : RdM S p tx tn) (hg : gS tn r) (hF : stM F tn r) :
    ∃ F', f_X9_ends 216 (rowI S 216 F) = some (rowI S 216 F') ∧ kM F F' ∧ stM F' tn (sEnd tx tn r) := by
  obtain ⟨hR, ht, h240, h256⟩ := h
  unfold sEnd
  cases e : r with
  | error z =>
    have g := hg.2 z e
    have hf := hF.2 z e
    exact ⟨F, m_ends_e hR.1 hf ⟨g.1, g.2.1⟩, kM.rf, ⟨fun q h' => absurd h' (by simp), fun e' h' => by injection h' with h'; subst h'; exact hf⟩⟩
  | ok q =>
    obtain ⟨F', v2, vk, v3, v4⟩ := m_ends hR ht h240 h256 (hg.1 q e) (hF.1 q e)
    exact ⟨F', v2, vk, v3, v4⟩
def MRd (S : Mem) (D : Dft) : Prop := S.2.1 222 0 = dBi D.1 ∧ S.2.1 222 1 = nI (rms D.2.1) ∧ S.2.1 222 2 = nI (drs D.2.1) ∧ S.2.1 222 3 = nI (pts D.2.1) ∧ (∀ a, a < rms D.2.1 → S.2.1 222 (4 + 2 * a) = nI (D.2.2.1 a) ∧ S.2.1 222 (5 + 2 * a) = nI (if D.2.2.2.1.testBit a then 1 else 0)) ∧ (∀ e, e < drs D.2.1 → S.2.1 222 (20 + 2 * e) = nI (dfr D.2.1 e) ∧ S.2.1 222 (21 + 2 * e) = nI (dto D.2.1 e)) ∧ (∀ i, i < pts D.2.1 → S.2.1 222 (44 + 2 * i) = nI (D.2.2.2.2 i) ∧ S.2.1 222 (45 + 2 * i) = nI (wor D.2.1 i))
def X222 (x : Nat) : Bool := x == 222
theorem rd_l {S : Mem} {F : Nat → Int32} (h : S.1 = 233) {k : Nat} (hk : k < 56) : ldI (rowI S 216 F) 222 (nI k) = some (S.2.1 222 k) := by rw [ld_222 (by exact h) hk, row_n (by decide)]
theorem rd_s {S : Mem} {F : Nat → Int32} (h : S.1 = 233) {k : Nat} (hk : k < 56) (v : Int32) : stI (rowI S 216 F) 222 (nI k) v = some (rowI (rowI S 222 (upd (S.2.1 222) k v)) 216 F) := by
  rw [st_222 (by exact h) hk, row_n (by decide), rI_comm (by decide)]
theorem fr_r {S : Mem} {x : Nat → Int32} : fr X222 S (rowI S 222 x) := fr.rowI (by decide)
theorem RdM_fr {S S' : Mem} {p tn : Nat} {tx : Nat → Nat} (h : RdM S p tx tn) (f : fr X222 S S') : RdM S' p tx tn := by
  obtain ⟨hR, ht, h2⟩ := h
  exact ⟨rfC_fr hR f, fun k hk => by rw [(f.2.2 221 (by decide)).1]; exact ht k hk, h2⟩
theorem dbi_i {o : Option Nat} (h : ∀ v, o = some v → v < 64) : dBi o = (-1 : Int32) ↔ o.isSome = false := by
  cases o with
  | none => exact ⟨fun _ => rfl, fun _ => rfl⟩
  | some v => exact ⟨fun w => absurd w (dbi_ne (by have := h v rfl; omega)), fun w => absurd w (by simp)⟩
/-- full, or twice -/
theorem m_full {S : Mem} {tn q : Nat} {F : Nat → Int32} (h : S.1 = 233) (hF : oM F tn q) : ∃ F', f_X9_faults 216 (3 : Int32) (rowI S 216 F) = some (rowI S 216 F') ∧ kM F F' ∧ eM F' tn (3, q) :=
  ⟨upd F 12 3, m_fault0 h hF.2.1 _, kM.up (Or.inr rfl), by rw [upd_n (by decide)]; exact hF.1, by rw [upd_s]; rfl, by rw [upd_n (by decide)]; exact hF.2.2⟩
theorem m_step {S : Mem} {tn q : Nat} {F : Nat → Int32} (h : S.1 = 233) (hF : oM F tn q) : pI 9 11 (rowI S 216 F) 216 (F 11 + (1 : Int32)) = some (rowI S 216 (upd F 11 (nI (q + 1)))) ∧ oM (upd F 11 (nI (q + 1))) tn (q + 1) :=
  ⟨by rw [u1_p h, hF.2.2, nI_1], by rw [upd_n (by decide)]; exact hF.1, by rw [upd_n (by decide)]; exact hF.2.1, upd_s⟩
theorem stM_ok {F : Nat → Int32} {tn q : Nat} (h : oM F tn q) : stM F tn (.ok q) := ⟨fun q' h' => by injection h' with h'; subst h'; exact h, fun e h' => absurd h' (by simp)⟩
theorem m_rule {S : Mem} {p tn q : Nat} {tx : Nat → Nat} {F : Nat → Int32} {D : Dft} (h : RdM S p tx tn) (hq : q < tn) (hF : oM F tn q) (hC : MRd S D) (hD : wfD D) :
    ∃ S' F', f_X9_readRule 216 (rowI S 216 F) = some (rowI S' 216 F') ∧ fr X222 S S' ∧ kM F F' ∧ (∀ q' D', aRule tx tn q D = .ok (q', D') → oM F' tn q' ∧ MRd S' D') ∧ (∀ e, aRule tx tn q D = .error e → eM F' tn e) := by
  have hR := h.1
  have hS := hR.1
  have hRT : ∀ F, rfC (rowI S 216 F) p := fun F => rfC_e hR rfl rfl
  have l0 : ldI (rowI S 216 F) 222 (0 : Int32) = some (dBi D.1) := (rd_l hS (k := 0) (by decide)).trans (congrArg some hC.1)
  unfold aRule
  cases hs : D.1.isSome with
  | true =>
    obtain ⟨F', a1, a2, a3⟩ := m_full hS hF
    refine ⟨S, F', ?_, fr.rf, a2, fun q' D' h' => absurd (fin_ok h').1 (by simp [s0, sNum, sEnd]), fun e h' => ?_⟩
    · unfold f_X9_readRule
      exact bs (R_14 (hRT F)) (bs l0 (bn (fun w => by rw [(dbi_i hD.2.2.2.2.2.2).mp w] at hs; exact absurd hs (by simp)) (bs (u1_c hS) (bs a1 rfl))))
    · have := fin_er h'
      simp [s0, sNum, sEnd] at this
      subst this; exact a3
  | false =>
    have hr0 : s0 q false = .ok (q + 1) := rfl
    have g0 : gS tn (.ok (q + 1)) := by rw [← hr0]; exact gS_0 hq
    rw [hr0]
    obtain ⟨st1, st2⟩ := m_step hS hF
    obtain ⟨v, F2, n1, n2, nk, n3, n4⟩ := m_numS (lim := 64) h g0 (stM_ok st2) (by decide)
    obtain ⟨F3, e1, ek, e2⟩ := m_endS h (gS_n g0) n3
    have l63 : (63 : Int32) = nI 64 - (1 : Int32) := by decide +kernel
    have n2' : f_X9_number 216 (63 : Int32) (rowI S 216 (upd F 11 (nI (q + 1)))) = some (nI v, rowI S 216 F2) := by rw [l63]; exact n2
    refine ⟨rowI S 222 (upd (S.2.1 222) 0 (nI v)), F3, ?_, fr_r, (kM.up (Or.inl rfl)).tr (nk.tr ek), fun q' D' h' => ?_, fun e h' => e2.2 e (fin_er h')⟩
    · unfold f_X9_readRule
      exact bs (R_14 (hRT F)) (bs l0 (bp ((dbi_i hD.2.2.2.2.2.2).mpr hs) (bs (u1_g hS 11) (bs st1 (bs (u1_c hS) (bs n2' (bs (u1_c hS) (bs e1 (bs (R_14 (hRT F3)) (bs (rd_s hS (k := 0) (by decide) _) rfl))))))))))
    · obtain ⟨z1, z2⟩ := fin_ok h'
      obtain ⟨q2, x2, -, -⟩ := sEnd_ok z1
      have hv := n4 q2 x2
      subst z2
      refine ⟨e2.1 q' z1, ?_⟩
      obtain ⟨c0, c1, c2, c3, c4, c5, c6⟩ := hC
      unfold MRd
      rw [row_s]
      refine ⟨?_, ?_, ?_, ?_, fun a ha => ?_, fun a ha => ?_, fun a ha => ?_⟩
      · rw [upd_s, hv]; rfl
      · rw [upd_n (by decide)]; exact c1
      · rw [upd_n (by decide)]; exact c2
      · rw [upd_n (by decide)]; exact c3
      · rw [upd_n (by omega), upd_n (by omega)]; exact c4 a ha
      · rw [upd_n (by omega), upd_n (by omega)]; exact c5 a ha
      · rw [upd_n (by omega), upd_n (by omega)]; exact c6 a ha
theorem i_4 {k c : Nat} : nI c + (2 : Int32) * nI k = nI (c + 2 * k) := by rw [zi 2, pk_mul, nI_add]
theorem m_room {S : Mem} {p tn q : Nat} {tx : Nat → Nat} {F : Nat → Int32} {D : Dft} (h : RdM S p tx tn) (hq : q < tn) (hF : oM F tn q) (hC : MRd S D) (hD : wfD D) :
    ∃ S' F', f_X9_readRoom 216 (rowI S 216 F) = some (rowI S' 216 F') ∧ fr X222 S S' ∧ kM F F' ∧ (∀ q' D', aRoom tx tn q D = .ok (q', D') → oM F' tn q' ∧ MRd S' D') ∧ (∀ e, aRoom tx tn q D = .error e → eM F' tn e) := by
  have hR := h.1
  have hS := hR.1
  have hr8 := hD.1.1
  have hRT : ∀ F, rfC (rowI S 216 F) p := fun F => rfC_e hR rfl rfl
  have l1 : ∀ F, ldI (rowI S 216 F) 222 (1 : Int32) = some (nI (rms D.2.1)) := fun F => (rd_l hS (k := 1) (by decide)).trans (congrArg some hC.2.1)
  unfold aRoom
  by_cases hs : 8 ≤ rms D.2.1
  · rw [decide_eq_true hs]
    obtain ⟨F', a1, a2, a3⟩ := m_full hS hF
    refine ⟨S, F', ?_, fr.rf, a2, fun q' D' h' => absurd (fin_ok h').1 (by simp [s0, sNum, sEnd]), fun e h' => ?_⟩
    · unfold f_X9_readRoom
      exact bs (R_14 (hRT F)) (bs (l1 F) (bp (by rw [show rms D.2.1 = 8 by omega]; rfl) (bs (u1_c hS) (bs a1 rfl))))
    · have := fin_er h'
      simp [s0, sNum, sEnd] at this
      subst this; exact a3
  · rw [decide_eq_false hs]
    have hr0 : s0 q false = .ok (q + 1) := rfl
    have g0 : gS tn (.ok (q + 1)) := by rw [← hr0]; exact gS_0 hq
    rw [hr0]
    obtain ⟨st1, st2⟩ := m_step hS hF
    obtain ⟨v, F2, n1, n2, nk, n3, n4⟩ := m_numS (lim := 10) h g0 (stM_ok st2) (by decide)
    obtain ⟨c, F3, k1, k2, kk, k3, k4⟩ := m_numS (lim := 2) h (gS_n g0) n3 (by decide)
    obtain ⟨F4, e1, ek, e2⟩ := m_endS h (gS_n (gS_n g0)) k3
    have l9 : (9 : Int32) = nI 10 - (1 : Int32) := by decide +kernel
    have l1' : (1 : Int32) = nI 2 - (1 : Int32) := by decide +kernel
    have n2' : f_X9_number 216 (9 : Int32) (rowI S 216 (upd F 11 (nI (q + 1)))) = some (nI v, rowI S 216 F2) := by rw [l9]; exact n2
    have k2' : f_X9_number 216 (1 : Int32) (rowI S 216 F2) = some (nI c, rowI S 216 F3) := k2
    have n8 : ¬ nI (rms D.2.1) = (8 : Int32) := fun w => by have := (nI_eq (b := 8) (by omega) (by omega)).mp w; omega
    have kall : kM F F4 := (kM.up (Or.inl rfl)).tr (nk.tr (kk.tr ek))
    have pre : ∀ r, ((gI 9 12 (rowI S 216 F4) 216).bind fun v11 => if v11 = (0 : Int32) then
        (gR 9 14 (rowI S 216 F4) 216).bind fun r12 => (gR 9 14 (rowI S 216 F4) 216).bind fun r13 => (ldI (rowI S 216 F4) r13 (1 : Int32)).bind fun v14 => (stI (rowI S 216 F4) r12 ((4 : Int32) + ((2 : Int32) * v14)) (nI v)).bind fun S15 => (gR 9 14 S15 216).bind fun r16 => (gR 9 14 S15 216).bind fun r17 => (ldI S15 r17 (1 : Int32)).bind fun v18 => (stI S15 r16 ((5 : Int32) + ((2 : Int32) * v18)) (nI c)).bind fun S19 => (gR 9 14 S19 216).bind fun r20 => (ldI S19 r20 (1 : Int32)).bind fun v21 => (stI S19 r20 (1 : Int32) (v21 + (1 : Int32))).bind fun S22 => some S22
        else some (rowI S 216 F4)) = r → f_X9_readRoom 216 (rowI S 216 F) = r := by
      intro r hr
      unfold f_X9_readRoom
      exact bs (R_14 (hRT F)) (bs (l1 F) (bn n8 (bs (u1_g hS 11) (bs st1 (bs (u1_c hS) (bs n2' (bs (u1_c hS) (bs k2' (bs (u1_c hS) (bs e1 hr))))))))))
    cases er : sEnd tx tn (sNum tx tn (sNum tx tn (.ok (q + 1)) 10) 2) with
    | error e =>
      have he := e2.2 e er
      have hg := (gS_e (gS_n (gS_n g0))).2 e er
      refine ⟨S, F4, pre _ (bs (u1_g hS 12) (bn (by rw [he.2.1]; exact nI_ne0 (by omega) (by omega)) rfl)), fr.rf, kall, fun q' D' h' => absurd h' (by simp [fin]), fun e' h' => ?_⟩
      have := fin_er h'
      injection this with this
      subst this; exact he
    | ok q3 =>
      have ho := e2.1 q3 er
      obtain ⟨q3', x3, -, -⟩ := sEnd_ok er
      obtain ⟨q2, x2, -, y2, -⟩ := sNum_ok x3 (gS_n g0)
      obtain ⟨q1, x1, -, y1, -⟩ := sNum_ok x2 g0
      have hv := n4 _ x2
      have hc := k4 _ x3
      obtain ⟨G, hG⟩ : ∃ G, G = upd (upd (upd (S.2.1 222) (4 + 2 * rms D.2.1) (nI v)) (5 + 2 * rms D.2.1) (nI c)) 1 (nI (rms D.2.1 + 1)) := ⟨_, rfl⟩
      refine ⟨rowI S 222 G, F4, pre _ (bs (u1_g hS 12) (bp (by rw [ho.2.1]; rfl) ?_)), fr_r, kall, fun q' D' h' => ?_, fun e' h' => absurd (fin_er h') (by simp)⟩
      · have s1 : stI (rowI S 216 F4) 222 ((4 : Int32) + (2 : Int32) * nI (rms D.2.1)) (nI v) = some (rowI (rowI S 222 (upd (S.2.1 222) (4 + 2 * rms D.2.1) (nI v))) 216 F4) := by
          rw [zi 4, i_4]; exact rd_s hS (by omega) _
        have s2 : stI (rowI (rowI S 222 (upd (S.2.1 222) (4 + 2 * rms D.2.1) (nI v))) 216 F4) 222 ((5 : Int32) + (2 : Int32) * nI (rms D.2.1)) (nI c) = some (rowI (rowI S 222 (upd (upd (S.2.1 222) (4 + 2 * rms D.2.1) (nI v)) (5 + 2 * rms D.2.1) (nI c))) 216 F4) := by
          rw [zi 5, i_4, rd_s (by exact hS) (by omega), row_s, rII]
        have s3 : stI (rowI (rowI S 222 (upd (upd (S.2.1 222) (4 + 2 * rms D.2.1) (nI v)) (5 + 2 * rms D.2.1) (nI c))) 216 F4) 222 (1 : Int32) (nI (rms D.2.1) + (1 : Int32)) = some (rowI (rowI S 222 G) 216 F4) := by
          rw [nI_1, zi 1, rd_s (by exact hS) (by decide), row_s, rII, hG]
        have m1 : ldI (rowI (rowI S 222 (upd (S.2.1 222) (4 + 2 * rms D.2.1) (nI v))) 216 F4) 222 (1 : Int32) = some (nI (rms D.2.1)) := by
          rw [zi 1, rd_l (by exact hS) (by decide), row_s, upd_n (by omega), hC.2.1]
        have m2 : ldI (rowI (rowI S 222 (upd (upd (S.2.1 222) (4 + 2 * rms D.2.1) (nI v)) (5 + 2 * rms D.2.1) (nI c))) 216 F4) 222 (1 : Int32) = some (nI (rms D.2.1)) := by
          rw [zi 1, rd_l (by exact hS) (by decide), row_s, upd_n (by omega), upd_n (by omega), hC.2.1]
        exact bs (R_14 (hRT F4)) (bs (R_14 (hRT F4)) (bs (l1 F4) (bs s1 (bs (R_14 (rfC_e hR rfl rfl)) (bs (R_14 (rfC_e hR rfl rfl)) (bs m1 (bs s2 (bs (R_14 (rfC_e hR rfl rfl)) (bs m2 (bs s3 rfl))))))))))
      · obtain ⟨z1, z2⟩ := fin_ok h'
        injection z1 with z1
        subst z1; subst z2
        refine ⟨ho, ?_⟩
        obtain ⟨c0, c1, c2, c3, c4, c5, c6⟩ := hC
        have hd12 := hD.1.2.1
        have hp6 := hD.1.2.2.1
        unfold MRd
        rw [row_s, hG, ← hv, ← hc]
        have e1 : rms (dRoom D v c).2.1 = rms D.2.1 + 1 := rfl
        have e2 : drs (dRoom D v c).2.1 = drs D.2.1 := rfl
        have e3 : pts (dRoom D v c).2.1 = pts D.2.1 := rfl
        rw [e1, e2, e3]
        refine ⟨?_, ?_, ?_, ?_, fun a ha => ?_, fun a ha => ?_, fun a ha => ?_⟩
        · rw [upd_n (by omega), upd_n (by omega), upd_n (by omega)]; exact c0
        · rw [upd_s]
        · rw [upd_n (by omega), upd_n (by omega), upd_n (by omega)]; exact c2
        · rw [upd_n (by omega), upd_n (by omega), upd_n (by omega)]; exact c3
        · show _ = nI (va_up D.2.2.1 (rms D.2.1) v a) ∧ _ = nI (if (setb D.2.2.2.1 (rms D.2.1) (decide (c = 1))).testBit a then 1 else 0)
          rw [up_at, setb_bit]
          by_cases z : a = rms D.2.1
          · subst z
            rw [upd_n (by omega), upd_n (by omega), upd_s, upd_n (by omega), upd_s, if_pos rfl, if_pos rfl]
            refine ⟨rfl, ?_⟩
            have hc2 : c < 2 := by rw [hc]; exact y2
            rcases (by omega : c = 0 ∨ c = 1) with w | w <;> subst w <;> rfl
          · rw [upd_n (by omega), upd_n (by omega), upd_n (by omega), upd_n (by omega), upd_n (by omega), upd_n (by omega), if_neg z, if_neg z]
            exact c4 a (by omega)
        · rw [upd_n (by omega), upd_n (by omega), upd_n (by omega), upd_n (by omega), upd_n (by omega), upd_n (by omega)]; exact c5 a ha
        · rw [upd_n (by omega), upd_n (by omega), upd_n (by omega), upd_n (by omega), upd_n (by omega), upd_n (by omega)]; exact c6 a ha
theorem m_pet {S : Mem} {p tn q : Nat} {tx : Nat → Nat} {F : Nat → Int32} {D : Dft} (h : RdM S p tx tn) (hq : q < tn) (hF : oM F tn q) (hC : MRd S D) (hD : wfD D) :
    ∃ S' F', f_X9_readPetition 216 (rowI S 216 F) = some (rowI S' 216 F') ∧ fr X222 S S' ∧ kM F F' ∧ (∀ q' D', aPet tx tn q D = .ok (q', D') → oM F' tn q' ∧ MRd S' D') ∧ (∀ e, aPet tx tn q D = .error e → eM F' tn e) := by
  have hR := h.1
  have hS := hR.1
  have hr8 := hD.1.1
  have hp6 := hD.1.2.2.1
  have hRT : ∀ F, rfC (rowI S 216 F) p := fun F => rfC_e hR rfl rfl
  have l1 : ∀ F, ldI (rowI S 216 F) 222 (1 : Int32) = some (nI (rms D.2.1)) := fun F => (rd_l hS (k := 1) (by decide)).trans (congrArg some hC.2.1)
  have l3 : ∀ F, ldI (rowI S 216 F) 222 (3 : Int32) = some (nI (pts D.2.1)) := fun F => (rd_l hS (k := 3) (by decide)).trans (congrArg some hC.2.2.2.1)
  unfold aPet
  by_cases hs : 6 ≤ pts D.2.1
  · rw [decide_eq_true hs]
    obtain ⟨F', a1, a2, a3⟩ := m_full hS hF
    refine ⟨S, F', ?_, fr.rf, a2, fun q' D' h' => absurd (fin_ok h').1 (by simp [s0, sNum, sEnd]), fun e h' => ?_⟩
    · unfold f_X9_readPetition
      exact bs (R_14 (hRT F)) (bs (l3 F) (bp (by rw [show pts D.2.1 = 6 by omega]; rfl) (bs (u1_c hS) (bs a1 rfl))))
    · have := fin_er h'
      simp [s0, sNum, sEnd] at this
      subst this; exact a3
  · rw [decide_eq_false hs]
    have hr0 : s0 q false = .ok (q + 1) := rfl
    have g0 : gS tn (.ok (q + 1)) := by rw [← hr0]; exact gS_0 hq
    rw [hr0]
    obtain ⟨st1, st2⟩ := m_step hS hF
    obtain ⟨v, F2, n1, n2, nk, n3, n4⟩ := m_numS (lim := rms D.2.1) h g0 (stM_ok st2) (by omega)
    obtain ⟨c, F3, k1, k2, kk, k3, k4⟩ := m_numS (lim := 100) h (gS_n g0) n3 (by decide)
    obtain ⟨F4, e1, ek, e2⟩ := m_endS h (gS_n (gS_n g0)) k3
    have l99 : (99 : Int32) = nI 100 - (1 : Int32) := by decide +kernel
    have k2' : f_X9_number 216 (99 : Int32) (rowI S 216 F2) = some (nI c, rowI S 216 F3) := by rw [l99]; exact k2
    have n8 : ¬ nI (pts D.2.1) = (6 : Int32) := fun w => by have := (nI_eq (b := 6) (by omega) (by omega)).mp w; omega
    have kall : kM F F4 := (kM.up (Or.inl rfl)).tr (nk.tr (kk.tr ek))
    have pre : ∀ r, ((gI 9 12 (rowI S 216 F4) 216).bind fun v11 => if v11 = (0 : Int32) then
        (gR 9 14 (rowI S 216 F4) 216).bind fun r12 => (gR 9 14 (rowI S 216 F4) 216).bind fun r13 => (ldI (rowI S 216 F4) r13 (3 : Int32)).bind fun v14 => (stI (rowI S 216 F4) r12 ((44 : Int32) + ((2 : Int32) * v14)) (nI v)).bind fun S15 => (gR 9 14 S15 216).bind fun r16 => (gR 9 14 S15 216).bind fun r17 => (ldI S15 r17 (3 : Int32)).bind fun v18 => (stI S15 r16 ((45 : Int32) + ((2 : Int32) * v18)) (nI c)).bind fun S19 => (gR 9 14 S19 216).bind fun r20 => (ldI S19 r20 (3 : Int32)).bind fun v21 => (stI S19 r20 (3 : Int32) (v21 + (1 : Int32))).bind fun S22 => some S22
        else some (rowI S 216 F4)) = r → f_X9_readPetition 216 (rowI S 216 F) = r := by
      intro r hr
      unfold f_X9_readPetition
      exact bs (R_14 (hRT F)) (bs (l3 F) (bn n8 (bs (u1_g hS 11) (bs st1 (bs (R_14 (hRT _)) (bs (l1 _) (bs (u1_c hS) (bs n2 (bs (u1_c hS) (bs k2' (bs (u1_c hS) (bs e1 hr))))))))))))
    cases er : sEnd tx tn (sNum tx tn (sNum tx tn (.ok (q + 1)) (rms D.2.1)) 100) with
    | error e =>
      have he := e2.2 e er
      have hg := (gS_e (gS_n (gS_n g0))).2 e er
      refine ⟨S, F4, pre _ (bs (u1_g hS 12) (bn (by rw [he.2.1]; exact nI_ne0 (by omega) (by omega)) rfl)), fr.rf, kall, fun q' D' h' => absurd h' (by simp [fin]), fun e' h' => ?_⟩
      have := fin_er h'
      injection this with this
      subst this; exact he
    | ok q3 =>
      have ho := e2.1 q3 er
      obtain ⟨q3', x3, -, -⟩ := sEnd_ok er
      obtain ⟨q2, x2, -, y2, -⟩ := sNum_ok x3 (gS_n g0)
      obtain ⟨q1, x1, -, y1, -⟩ := sNum_ok x2 g0
      have hv := n4 _ x2
      have hc := k4 _ x3
      obtain ⟨G, hG⟩ : ∃ G, G = upd (upd (upd (S.2.1 222) (44 + 2 * pts D.2.1) (nI v)) (45 + 2 * pts D.2.1) (nI c)) 3 (nI (pts D.2.1 + 1)) := ⟨_, rfl⟩
      refine ⟨rowI S 222 G, F4, pre _ (bs (u1_g hS 12) (bp (by rw [ho.2.1]; rfl) ?_)), fr_r, kall, fun q' D' h' => ?_, fun e' h' => absurd (fin_er h') (by simp)⟩
      · have s1 : stI (rowI S 216 F4) 222 ((44 : Int32) + (2 : Int32) * nI (pts D.2.1)) (nI v) = some (rowI (rowI S 222 (upd (S.2.1 222) (44 + 2 * pts D.2.1) (nI v))) 216 F4) := by
          rw [zi 44, i_4]; exact rd_s hS (by omega) _
        have s2 : stI (rowI (rowI S 222 (upd (S.2.1 222) (44 + 2 * pts D.2.1) (nI v))) 216 F4) 222 ((45 : Int32) + (2 : Int32) * nI (pts D.2.1)) (nI c) = some (rowI (rowI S 222 (upd (upd (S.2.1 222) (44 + 2 * pts D.2.1) (nI v)) (45 + 2 * pts D.2.1) (nI c))) 216 F4) := by
          rw [zi 45, i_4, rd_s (by exact hS) (by omega), row_s, rII]
        have s3 : stI (rowI (rowI S 222 (upd (upd (S.2.1 222) (44 + 2 * pts D.2.1) (nI v)) (45 + 2 * pts D.2.1) (nI c))) 216 F4) 222 (3 : Int32) (nI (pts D.2.1) + (1 : Int32)) = some (rowI (rowI S 222 G) 216 F4) := by
          rw [nI_1, zi 3, rd_s (by exact hS) (by decide), row_s, rII, hG]
        have m1 : ldI (rowI (rowI S 222 (upd (S.2.1 222) (44 + 2 * pts D.2.1) (nI v))) 216 F4) 222 (3 : Int32) = some (nI (pts D.2.1)) := by
          rw [zi 3, rd_l (by exact hS) (by decide), row_s, upd_n (by omega), hC.2.2.2.1]
        have m2 : ldI (rowI (rowI S 222 (upd (upd (S.2.1 222) (44 + 2 * pts D.2.1) (nI v)) (45 + 2 * pts D.2.1) (nI c))) 216 F4) 222 (3 : Int32) = some (nI (pts D.2.1)) := by
          rw [zi 3, rd_l (by exact hS) (by decide), row_s, upd_n (by omega), upd_n (by omega), hC.2.2.2.1]
        exact bs (R_14 (hRT F4)) (bs (R_14 (hRT F4)) (bs (l3 F4) (bs s1 (bs (R_14 (rfC_e hR rfl rfl)) (bs (R_14 (rfC_e hR rfl rfl)) (bs m1 (bs s2 (bs (R_14 (rfC_e hR rfl rfl)) (bs m2 (bs s3 rfl))))))))))
      · obtain ⟨z1, z2⟩ := fin_ok h'
        injection z1 with z1
        subst z1; subst z2
        refine ⟨ho, ?_⟩
        obtain ⟨c0, c1, c2, c3, c4, c5, c6⟩ := hC
        have hd12 := hD.1.2.1
        unfold MRd
        rw [row_s, hG, ← hv, ← hc]
        have e1 : rms (dPet D v c).2.1 = rms D.2.1 := rfl
        have e2 : drs (dPet D v c).2.1 = drs D.2.1 := rfl
        have e3 : pts (dPet D v c).2.1 = pts D.2.1 + 1 := rfl
        rw [e1, e2, e3]
        refine ⟨?_, ?_, ?_, ?_, fun a ha => ?_, fun a ha => ?_, fun a ha => ?_⟩
        · rw [upd_n (by omega), upd_n (by omega), upd_n (by omega)]; exact c0
        · rw [upd_n (by omega), upd_n (by omega), upd_n (by omega)]; exact c1
        · rw [upd_n (by omega), upd_n (by omega), upd_n (by omega)]; exact c2
        · rw [upd_s]
        · rw [upd_n (by omega), upd_n (by omega), upd_n (by omega), upd_n (by omega), upd_n (by omega), upd_n (by omega)]; exact c4 a ha
        · rw [upd_n (by omega), upd_n (by omega), upd_n (by omega), upd_n (by omega), upd_n (by omega), upd_n (by omega)]; exact c5 a ha
        · show _ = nI (va_up D.2.2.2.2 (pts D.2.1) v a) ∧ _ = nI (va_up (wor D.2.1) (pts D.2.1) c a)
          rw [up_at, up_at]
          by_cases z : a = pts D.2.1
          · subst z
            rw [upd_n (by omega), upd_n (by omega), upd_s, upd_n (by omega), upd_s, if_pos rfl, if_pos rfl]
            exact ⟨rfl, rfl⟩
          · rw [upd_n (by omega), upd_n (by omega), upd_n (by omega), upd_n (by omega), upd_n (by omega), upd_n (by omega), if_neg z, if_neg z]
            exact c6 a (by omega)
