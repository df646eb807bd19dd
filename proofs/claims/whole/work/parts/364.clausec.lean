/-! clauses: the class -/
def RdC (S : Mem) (p : Nat) (tx : Nat → Nat) (tn : Nat) : Prop := rfC S p ∧ (∀ k, k < tn → S.2.1 7 k = nI (tx k)) ∧ tn ≤ 240 ∧ ∀ k, tx k < 256
def stF (F : Nat → Int32) (tn : Nat) (r : Except (Nat × Nat) Nat) : Prop := (∀ q, r = .ok q → oF F tn q) ∧ ∀ e, r = .error e → eF F tn e
theorem c_numS {S : Mem} {p tn lim : Nat} {tx : Nat → Nat} {F : Nat → Int32} {r : Except (Nat × Nat) Nat} (h : RdC S p tx tn) (hg : gS tn r) (hF : stF F tn r) (hl : lim < 2 ^ 20) :
    ∃ v F', v < 2 ^ 23 ∧ f_X6_readNumber 1 (nI lim - (1 : Int32)) (rowI S 1 F) = some (nI v, rowI S 1 F') ∧ stF F' tn (sNum tx tn r lim) ∧ ∀ q', sNum tx tn r lim = .ok q' → v = nv tx tn r lim ∧ F' 2 = F 2 ∧ F' 6 = nI (bpS tx tn r) := by
  obtain ⟨hR, ht, h240, h256⟩ := h
  unfold sNum nv bpS
  cases e : r with
  | error z =>
    have g := hg.2 z e
    have hf := hF.2 z e
    exact ⟨0, F, by decide, c_num_e hR.1 hf ⟨g.1, g.2.1⟩, ⟨fun q h' => absurd h' (by simp), fun e' h' => by injection h' with h'; subst h'; exact hf⟩, fun q' h' => absurd h' (by simp)⟩
  | ok q =>
    obtain ⟨v, F', v1, v2, v3, v4⟩ := c_num hR ht h240 h256 (hg.1 q e) (hF.1 q e) hl
    refine ⟨v, F', v1, v2, ?_⟩
    dsimp only
    cases y : aNum tx tn q lim with
    | error z => exact ⟨⟨fun q h' => absurd h' (by simp), fun e' h' => by injection h' with h'; subst h'; exact v4 _ y⟩, fun q' h' => absurd h' (by simp)⟩
    | ok x =>
      obtain ⟨a1, a2, a3, a4⟩ := v3 x.1 x.2 y
      exact ⟨⟨fun q h' => by injection h' with h'; subst h'; exact a2, fun e' h' => absurd h' (by simp)⟩, fun q' h' => ⟨a1, a3, a4⟩⟩
theorem c_endS {S : Mem} {p tn : Nat} {tx : Nat → Nat} {F : Nat → Int32} {r : Except (Nat × Nat) Nat} (h : RdC S p tx tn) (hg : gS tn r) (hF : stF F tn r) :
    ∃ F', f_X6_readEnd 1 (rowI S 1 F) = some (rowI S 1 F') ∧ stF F' tn (sEnd tx tn r) ∧ ∀ q', sEnd tx tn r = .ok q' → F' 2 = F 2 := by
  obtain ⟨hR, ht, h240, h256⟩ := h
  unfold sEnd
  cases e : r with
  | error z =>
    have g := hg.2 z e
    have hf := hF.2 z e
    exact ⟨F, c_end_e hR.1 hf ⟨g.1, g.2.1⟩, ⟨fun q h' => absurd h' (by simp), fun e' h' => by injection h' with h'; subst h'; exact hf⟩, fun q' h' => absurd h' (by simp)⟩
  | ok q =>
    obtain ⟨F', v2, v3, v4⟩ := c_end hR ht h240 h256 (hg.1 q e) (hF.1 q e)
    exact ⟨F', v2, ⟨fun q' h' => (v3 q' h').1, v4⟩, fun q' h' => (v3 q' h').2⟩
theorem c_wordS {S : Mem} {tn q : Nat} {F : Nat → Int32} (h : S.1 = 233) (hq : q < 500) (hF : oF F tn q) (b : Bool) : ∃ F', f_X6_readWord 1 (nI (if b then 1 else 0)) (rowI S 1 F) = some (rowI S 1 F') ∧ stF F' tn (s0 q b) ∧ (b = false → F' 2 = F 2) := by
  obtain ⟨f0, f1, f5⟩ := hF
  unfold f_X6_readWord f_X6_readWord_b13 s0
  cases b with
  | false =>
    refine ⟨upd F 5 (nI (q + 1)), bp nI00 (bs (t1_g h 5) (bs (t1_p h 5 _) ?_)), ⟨fun q' h' => ?_, fun e h' => absurd h' (by simp)⟩, fun _ => upd_n (by decide)⟩
    · rw [f5, nI_1]
    · simp at h'; subst h'
      exact ⟨by rw [upd_n (by decide)]; exact f0, by rw [upd_n (by decide)]; exact f1, upd_s⟩
  | true =>
    refine ⟨upd (upd (upd F 1 (nI 3)) 2 (nI q)) 5 (nI (q + 1)), bn nI10 (bs (t1_g h 5) (bs (t1_c h) (bs (c_note h _ _) (bs (t1_g h 5) (bs (t1_p h 5 _) ?_))))), ⟨fun q' h' => absurd h' (by simp), fun e h' => ?_⟩, fun z => absurd z (by simp)⟩
    · rw [upd_n (by decide), upd_n (by decide), f5, nI_1]; rfl
    · simp at h'; subst h'
      exact ⟨by rw [upd_n (by decide), upd_n (by decide), upd_n (by decide)]; exact f0, by rw [upd_n (by decide), upd_n (by decide), upd_s], by rw [upd_n (by decide), upd_s], q + 1, by omega, upd_s⟩
def CRg (g a1 a2 a3 a4 : Nat → Int32) (D : Dft) : Prop := g 0 = nI (if D.1.isSome then 1 else 0) ∧ g 1 = nI (D.1.getD 0) ∧ g 2 = nI (rms D.2.1) ∧ g 3 = nI (drs D.2.1) ∧ g 4 = nI (pts D.2.1) ∧ g 5 = nI (pn D.2.2.1 8) ∧ g 6 = nI D.2.2.2.1 ∧ (∀ e, e < drs D.2.1 → a1 e = nI (dfr D.2.1 e)) ∧ (∀ e, e < drs D.2.1 → a2 e = nI (dto D.2.1 e)) ∧ (∀ i, i < pts D.2.1 → a3 i = nI (D.2.2.2.2 i)) ∧ (∀ i, i < pts D.2.1 → a4 i = nI (wor D.2.1 i))
def CRd (S : Mem) (d : Nat) (D : Dft) : Prop := CRg (S.2.1 d) (S.2.1 (d + 1)) (S.2.1 (d + 2)) (S.2.1 (d + 3)) (S.2.1 (d + 4)) D
def XD (d : Nat) : Nat → Bool := btw d (d + 4)
theorem xd_t {d x : Nat} (h1 : d ≤ x) (h2 : x ≤ d + 4) : XD d x = true := btw_t h1 h2
theorem dg_g {S : Mem} {d : Nat} {F : Nat → Int32} (h : S.1 = 233) (hd : d = 2 ∨ d = 8) (k : Nat) : gI 2 k (rowI S 1 F) d = some (S.2.1 d k) := by
  rw [g_p (by exact h) hd, row_n (by omega)]
theorem dg_p {S : Mem} {d : Nat} {F : Nat → Int32} (h : S.1 = 233) (hd : d = 2 ∨ d = 8) (k : Nat) (v : Int32) : pI 2 k (rowI S 1 F) d v = some (rowI (rowI S d (upd (S.2.1 d) k v)) 1 F) := by
  rw [p_p (by exact h) hd, row_n (by omega), rI_comm (by omega)]
theorem dg_z {S : Mem} {d : Nat} {F : Nat → Int32} (h : S.1 = 233) (hd : d = 2 ∨ d = 8) (k : Nat) (v : Int32) (hv : v = 0 ∨ v = 1) : pZ 2 k (rowI S 1 F) d v = some (rowI (rowI S d (upd (S.2.1 d) k v)) 1 F) := by
  have e := dg_p (F := F) h hd k v
  unfold pI at e
  unfold pZ
  have hk : d < (rowI S 1 F).1 ∧ kd d = 2 := by
    refine ⟨by show d < S.1; omega, ?_⟩
    rcases hd with rfl | rfl <;> decide +kernel
  rw [if_pos hk] at e
  rw [if_pos ⟨hk, hv⟩]; exact e
theorem dg_c {S : Mem} {d : Nat} {F : Nat → Int32} (h : S.1 = 233) (hd : d = 2 ∨ d = 8) : ck 2 (rowI S 1 F) d = some () := c_p (by exact h) hd
theorem fr_d {S : Mem} {d : Nat} {x : Nat → Int32} : fr (XD d) S (rowI S d x) := fr.rowI (xd_t (by omega) (by omega))
theorem sm_0 {b : Bool} : (if b then (1 : Int32) else 0) = nI (if b then 1 else 0) := by cases b <;> rfl
/-- 's' -/
theorem c_rule {S : Mem} {p tn q : Nat} {tx : Nat → Nat} {F : Nat → Int32} {D : Dft} (h : RdC S p tx tn) (hq : q < tn) (hF : oF F tn q) (hC : CRd S (10 - p) D) :
    ∃ S' F', f_X6_readRule 1 (rowI S 1 F) = some (rowI S' 1 F') ∧ fr (XD (10 - p)) S S' ∧ (∀ q' D', aRule tx tn q D = .ok (q', D') → oF F' tn q' ∧ F' 2 = F 2 ∧ CRd S' (10 - p) D') ∧ (∀ e, aRule tx tn q D = .error e → eF F' tn e) := by
  have hR := h.1
  have hS := hR.1
  have hd : 10 - p = 2 ∨ 10 - p = 8 := by have := hR.2.1; omega
  have hRT : ∀ F, rfC (rowI S 1 F) p := fun F => rfC_e hR rfl rfl
  obtain ⟨F1, w1, w2, w3⟩ := c_wordS hS (by have := h.2.2.1; omega) hF D.1.isSome
  obtain ⟨v, F2, n1, n2, n3, n4⟩ := c_numS (lim := 64) h (gS_0 hq) w2 (by decide)
  obtain ⟨F3, e1, e2, e3⟩ := c_endS h (gS_n (gS_0 hq)) n3
  have pre : ∀ r, ((gI 6 1 (rowI S 1 F3) 1).bind fun v9 => if v9 = (0 : Int32) then (gR 6 3 (rowI S 1 F3) 1).bind fun r10 => (pI 2 1 (rowI S 1 F3) r10 (nI v)).bind fun S11 => (gR 6 3 S11 1).bind fun r12 => (pZ 2 0 S11 r12 (1 : Int32)).bind fun S13 => some S13 else some (rowI S 1 F3)) = r → f_X6_readRule 1 (rowI S 1 F) = r := by
    intro r hr
    unfold f_X6_readRule
    exact bs (r_1_3 (hRT F)) (bs (dg_g hS hd 0) (bs (t1_c hS) (bs (by rw [hC.1]; exact w1) (bs (t1_c hS) (bs n2 (bs (t1_c hS) (bs e1 hr)))))))
  unfold aRule
  cases er : sEnd tx tn (sNum tx tn (s0 q D.1.isSome) 64) with
  | error e =>
    have he := e2.2 e er
    have hg := (gS_e (gS_n (gS_0 (b := D.1.isSome) hq))).2 e er
    refine ⟨S, F3, pre _ (bs (t1_g hS 1) (bn (by rw [he.2.1]; exact nI_ne0 (by omega) (by omega)) rfl)), fr.rf, fun q' D' h' => absurd h' (by simp [fin]), fun e' h' => ?_⟩
    have := fin_er h'
    injection this with this
    subst this; exact he
  | ok q3 =>
    obtain ⟨q2, x2, -, -⟩ := sEnd_ok er
    obtain ⟨q1, x1, -, -, -⟩ := sNum_ok x2 (gS_0 hq)
    obtain ⟨x0, -⟩ := s0_ok x1
    have ho := e2.1 q3 er
    obtain ⟨m1, m2, -⟩ := n4 q2 x2
    refine ⟨rowI (rowI S (10 - p) (upd (S.2.1 (10 - p)) 1 (nI v))) (10 - p) (upd ((rowI S (10 - p) (upd (S.2.1 (10 - p)) 1 (nI v))).2.1 (10 - p)) 0 1), F3, pre _ (bs (t1_g hS 1) (bp (by rw [ho.2.1]; rfl) (bs (r_1_3 (hRT F3)) (bs (dg_p hS hd 1 _) (bs (r_1_3 (rfC_e hR rfl rfl)) (bs (dg_z (by exact hS) hd 0 1 (Or.inr rfl)) rfl)))))), fr.tr fr_d fr_d, fun q' D' h' => ?_, fun e' h' => absurd (fin_er h') (by simp)⟩
    obtain ⟨y1, y2⟩ := fin_ok h'
    injection y1 with y1
    subst y1; subst y2
    refine ⟨ho, by rw [e3 _ er, m2, w3 x0], ?_⟩
    obtain ⟨c0, c1, c2, c3, c4, c5, c6, c7, c8, c9, c10⟩ := hC
    unfold CRd
    rw [row_s, row_s, row_n (by omega), row_n (by omega), row_n (by omega), row_n (by omega), row_n (by omega), row_n (by omega), row_n (by omega), row_n (by omega)]
    refine ⟨?_, ?_, ?_, ?_, ?_, ?_, ?_, c7, c8, c9, c10⟩
    · rw [upd_s]; rfl
    · rw [upd_n (by decide), upd_s, m1]; rfl
    · rw [upd_n (by decide), upd_n (by decide)]; exact c2
    · rw [upd_n (by decide), upd_n (by decide)]; exact c3
    · rw [upd_n (by decide), upd_n (by decide)]; exact c4
    · rw [upd_n (by decide), upd_n (by decide)]; exact c5
    · rw [upd_n (by decide), upd_n (by decide)]; exact c6
/-- 'r' -/
theorem c_addRoom {S : Mem} {d v c : Nat} {F : Nat → Int32} {D : Dft} (hS : S.1 = 233) (hd : d = 2 ∨ d = 8) (hC : CRd S d D) (hD : wfD D) (hr : rms D.2.1 < 8) (hv : v < 10) (hc : c < 2) :
    ∃ S', f_X2_addRoom d (nI v) (nI c) (rowI S 1 F) = some (rowI S' 1 F) ∧ fr (XD d) S S' ∧ CRd S' d (dRoom D v c) := by
  obtain ⟨c0, c1, c2, c3, c4, c5, c6, c7, c8, c9, c10⟩ := hC
  obtain ⟨a1, a2, a3, a4, a5, a6, a7⟩ := hD
  have hpk : f_X8_withPacked (S.2.1 d 5) (S.2.1 d 2) (nI v) = nI (pn (va_up D.2.2.1 (rms D.2.1) v) 8) := by
    rw [c5, c2, c_withPacked (fun a => by have := a2 a; omega) hr (by omega)]
  have h8 : D.2.2.2.1 < 2 ^ 8 := Nat.lt_of_lt_of_le a4 (Nat.pow_le_pow_right (by decide) (by omega))
  obtain ⟨G, hG⟩ : ∃ G, G = upd (upd (upd (S.2.1 d) 5 (nI (pn (va_up D.2.2.1 (rms D.2.1) v) 8))) 6 (nI (setb D.2.2.2.1 (rms D.2.1) (decide (c = 1))))) 2 (nI (rms D.2.1 + 1)) := ⟨_, rfl⟩
  have b35 : ∀ b : Bool, b = decide (c = 1) → f_X2_addRoom_b35 d (nI (if b then 1 else 0)) (nI (rms D.2.1)) (nI D.2.2.2.1) d (rowI (rowI S d (upd (S.2.1 d) 5 (nI (pn (va_up D.2.2.1 (rms D.2.1) v) 8)))) 1 F) = some (rowI (rowI S d G) 1 F) := by
    intro b hb
    unfold f_X2_addRoom_b35
    refine bs (c_withBit (by omega) (by omega) b) (bs (dg_p (by exact hS) hd 6 _) (bs (dg_g (by exact hS) hd 2) (bs (dg_p (by exact hS) hd 2 _) ?_)))
    rw [row_s, row_s, rII, rII, upd_n (by decide), upd_n (by decide), c2, nI_1, hb, hG]
  refine ⟨rowI S d G, ?_, fr_d, ?_⟩
  · unfold f_X2_addRoom
    refine bs (dg_g hS hd 5) (bs (dg_g hS hd 2) (bs (dg_p hS hd 5 _) (bs (dg_g (by exact hS) hd 6) (bs (dg_g (by exact hS) hd 2) ?_))))
    rw [hpk, row_s, upd_n (by decide), upd_n (by decide), c6, c2]
    by_cases q : c = 1
    · subst q; exact bp rfl (b35 true rfl)
    · obtain rfl : c = 0 := by omega
      exact bn (by decide) (b35 false rfl)
  · unfold CRd
    rw [row_s, row_n (by omega), row_n (by omega), row_n (by omega), row_n (by omega), hG]
    refine ⟨?_, ?_, ?_, ?_, ?_, ?_, ?_, c7, c8, c9, c10⟩
    · rw [upd_n (by decide), upd_n (by decide), upd_n (by decide)]; exact c0
    · rw [upd_n (by decide), upd_n (by decide), upd_n (by decide)]; exact c1
    · rw [upd_s]; rfl
    · rw [upd_n (by decide), upd_n (by decide), upd_n (by decide)]; exact c3
    · rw [upd_n (by decide), upd_n (by decide), upd_n (by decide)]; exact c4
    · rw [upd_n (by decide), upd_n (by decide), upd_s]; rfl
    · rw [upd_n (by decide), upd_s]; rfl
theorem c_room {S : Mem} {p tn q : Nat} {tx : Nat → Nat} {F : Nat → Int32} {D : Dft} (h : RdC S p tx tn) (hq : q < tn) (hF : oF F tn q) (hC : CRd S (10 - p) D) (hD : wfD D) :
    ∃ S' F', f_X6_readRoom 1 (rowI S 1 F) = some (rowI S' 1 F') ∧ fr (XD (10 - p)) S S' ∧ (∀ q' D', aRoom tx tn q D = .ok (q', D') → oF F' tn q' ∧ F' 2 = F 2 ∧ CRd S' (10 - p) D') ∧ (∀ e, aRoom tx tn q D = .error e → eF F' tn e) := by
  have hR := h.1
  have hS := hR.1
  have hr8 := hD.1.1
  have hd : 10 - p = 2 ∨ 10 - p = 8 := by have := hR.2.1; omega
  have hRT : ∀ F, rfC (rowI S 1 F) p := fun F => rfC_e hR rfl rfl
  obtain ⟨F1, w1, w2, w3⟩ := c_wordS hS (by have := h.2.2.1; omega) hF (decide (8 ≤ rms D.2.1))
  obtain ⟨v, F2, n1, n2, n3, n4⟩ := c_numS (lim := 10) h (gS_0 hq) w2 (by decide)
  obtain ⟨c, F3, k1, k2, k3, k4⟩ := c_numS (lim := 2) h (gS_n (gS_0 hq)) n3 (by decide)
  obtain ⟨F4, e1, e2, e3⟩ := c_endS h (gS_n (gS_n (gS_0 hq))) k3
  have pre : ∀ r, ((gI 6 1 (rowI S 1 F4) 1).bind fun v11 => if v11 = (0 : Int32) then (gR 6 3 (rowI S 1 F4) 1).bind fun r12 => (ck 2 (rowI S 1 F4) r12).bind fun c13 => (f_X2_addRoom r12 (nI v) (nI c) (rowI S 1 F4)).bind fun S14 => some S14 else some (rowI S 1 F4)) = r → f_X6_readRoom 1 (rowI S 1 F) = r := by
    intro r hr
    have b18 : ∀ b : Bool, b = decide (8 ≤ rms D.2.1) → f_X6_readRoom_b18 1 (nI (if b then 1 else 0)) 1 (rowI S 1 F) = r := by
      intro b hb
      unfold f_X6_readRoom_b18
      exact bs (t1_c hS) (bs (by rw [hb]; exact w1) (bs (t1_c hS) (bs n2 (bs (t1_c hS) (bs k2 (bs (t1_c hS) (bs e1 hr)))))))
    unfold f_X6_readRoom
    refine bs (r_1_3 (hRT F)) (bs (dg_g hS hd 2) ?_)
    rw [hC.2.2.1]
    by_cases z : rms D.2.1 < 8
    · exact bp (nI_lt (b := 8) z (by omega)) (b18 false (by rw [decide_eq_false]; omega))
    · exact bn (nI_nlt (b := 8) (by omega) (by omega)) (b18 true (by rw [decide_eq_true]; omega))
  unfold aRoom
  cases er : sEnd tx tn (sNum tx tn (sNum tx tn (s0 q (decide (8 ≤ rms D.2.1))) 10) 2) with
  | error e =>
    have he := e2.2 e er
    have hg := (gS_e (gS_n (gS_n (gS_0 (b := decide (8 ≤ rms D.2.1)) hq)))).2 e er
    refine ⟨S, F4, pre _ (bs (t1_g hS 1) (bn (by rw [he.2.1]; exact nI_ne0 (by omega) (by omega)) rfl)), fr.rf, fun q' D' h' => absurd h' (by simp [fin]), fun e' h' => ?_⟩
    have := fin_er h'
    injection this with this
    subst this; exact he
  | ok q3 =>
    obtain ⟨q3', x3, -, -⟩ := sEnd_ok er
    obtain ⟨q2, x2, -, l2, -⟩ := sNum_ok x3 (gS_n (gS_0 hq))
    obtain ⟨q1, x1, -, l1, -⟩ := sNum_ok x2 (gS_0 hq)
    obtain ⟨x0, -⟩ := s0_ok x1
    have ho := e2.1 q3 er
    obtain ⟨m1, m2, -⟩ := n4 q2 x2
    obtain ⟨m3, m4, -⟩ := k4 q3' x3
    obtain ⟨S', y1, y2, y3⟩ := c_addRoom (F := F4) hS hd hC hD (by have := of_decide_eq_false x0; omega) l1 l2
    refine ⟨S', F4, pre _ (bs (t1_g hS 1) (bp (by rw [ho.2.1]; rfl) (bs (r_1_3 (hRT F4)) (bs (dg_c hS hd) (bs (by rw [m1, m3]; exact y1) rfl))))), y2, fun q' D' h' => ?_, fun e' h' => absurd (fin_er h') (by simp)⟩
    obtain ⟨z1, z2⟩ := fin_ok h'
    injection z1 with z1
    subst z1; subst z2
    exact ⟨ho, by rw [e3 _ er, m4, m2, w3 x0], y3⟩
/-- 'p' -/
theorem dl_st {S : Mem} {d j N : Nat} {F : Nat → Int32} (h : S.1 = 233) (hd : d = 2 ∨ d = 8) (hj : (j = 1 ∨ j = 2) ∧ N = 12 ∨ (j = 3 ∨ j = 4) ∧ N = 6) {k : Nat} (hk : k < N) (v : Int32) : stI (rowI S 1 F) (d + j) (nI k) v = some (rowI (rowI S (d + j) (upd (S.2.1 (d + j)) k v)) 1 F) := by
  have e : stI (rowI S 1 F) (d + j) (nI k) v = some (rowI (rowI S 1 F) (d + j) (upd ((rowI S 1 F).2.1 (d + j)) k v)) := by
    rcases hj with ⟨rfl | rfl, rfl⟩ | ⟨rfl | rfl, rfl⟩
    · exact st_p1 (by exact h) hd hk v
    · exact st_p2 (by exact h) hd hk v
    · exact st_p3 (by exact h) hd hk v
    · exact st_p4 (by exact h) hd hk v
  rw [e, row_n (by omega), rI_comm (by omega)]
theorem c_addPet {S : Mem} {p d a w : Nat} {F : Nat → Int32} {D : Dft} (hR : rfC S p) (hd : d = 2 ∨ d = 8) (hC : CRd S d D) (hr : pts D.2.1 < 6) :
    ∃ S', f_X2_addPetition d (nI a) (nI w) (rowI S 1 F) = some (rowI S' 1 F) ∧ fr (XD d) S S' ∧ CRd S' d (dPet D a w) := by
  have hS := hR.1
  obtain ⟨c0, c1, c2, c3, c4, c5, c6, c7, c8, c9, c10⟩ := hC
  have hRT : ∀ T : Mem, T.1 = S.1 → T.2.2.2 = S.2.2.2 → rfC (rowI T 1 F) p := fun T e1 e2 => rfC_e hR e1 e2
  refine ⟨rowI (rowI (rowI S (d + 3) (upd (S.2.1 (d + 3)) (pts D.2.1) (nI a))) (d + 4) (upd (S.2.1 (d + 4)) (pts D.2.1) (nI w))) d (upd (S.2.1 d) 4 (nI (pts D.2.1 + 1))), ?_, fr.tr (fr.rowI (xd_t (by omega) (by omega))) (fr.tr (fr.rowI (xd_t (by omega) (by omega))) fr_d), ?_⟩
  · have s3 : stI (rowI S 1 F) (d + 3) (S.2.1 d 4) (nI a) = some (rowI (rowI S (d + 3) (upd (S.2.1 (d + 3)) (pts D.2.1) (nI a))) 1 F) := by
      rw [c4]; exact dl_st hS hd (Or.inr ⟨Or.inl rfl, rfl⟩) hr _
    have s4 : stI (rowI (rowI S (d + 3) (upd (S.2.1 (d + 3)) (pts D.2.1) (nI a))) 1 F) (d + 4) ((rowI S (d + 3) (upd (S.2.1 (d + 3)) (pts D.2.1) (nI a))).2.1 d 4) (nI w) = some (rowI (rowI (rowI S (d + 3) (upd (S.2.1 (d + 3)) (pts D.2.1) (nI a))) (d + 4) (upd (S.2.1 (d + 4)) (pts D.2.1) (nI w))) 1 F) := by
      rw [row_n (by omega), c4, dl_st (by exact hS) hd (Or.inr ⟨Or.inr rfl, rfl⟩) hr _, row_n (by omega)]
    unfold f_X2_addPetition
    refine bs (r_p_9 (hRT S rfl rfl) hd) (bs (dg_g hS hd 4) (bs s3 (bs (r_p_10 (hRT _ rfl rfl) hd) (bs (dg_g (by exact hS) hd 4) (bs s4 (bs (dg_g (by exact hS) hd 4) (bs (dg_p (by exact hS) hd 4 _) ?_)))))))
    rw [row_n (by omega), row_n (by omega), c4, nI_1]
  · unfold CRd
    rw [row_s, row_n (by omega), row_n (by omega), row_n (by omega), row_n (by omega), row_n (by omega), row_n (by omega), row_n (by omega), row_n (by omega), row_s, row_n (by omega), row_s]
    refine ⟨?_, ?_, ?_, ?_, ?_, ?_, ?_, c7, c8, fun i hi => ?_, fun i hi => ?_⟩
    · rw [upd_n (by decide)]; exact c0
    · rw [upd_n (by decide)]; exact c1
    · rw [upd_n (by decide)]; exact c2
    · rw [upd_n (by decide)]; exact c3
    · rw [upd_s]; rfl
    · rw [upd_n (by decide)]; exact c5
    · rw [upd_n (by decide)]; exact c6
    · have hi' : i < pts D.2.1 + 1 := hi
      show _ = nI (va_up D.2.2.2.2 (pts D.2.1) a i)
      rw [up_at]
      by_cases z : i = pts D.2.1
      · rw [if_pos z, z, upd_s]
      · rw [if_neg z, upd_n z]; exact c9 i (by omega)
    · have hi' : i < pts D.2.1 + 1 := hi
      show _ = nI (va_up (wor D.2.1) (pts D.2.1) w i)
      rw [up_at]
      by_cases z : i = pts D.2.1
      · rw [if_pos z, z, upd_s]
      · rw [if_neg z, upd_n z]; exact c10 i (by omega)
theorem c_pet {S : Mem} {p tn q : Nat} {tx : Nat → Nat} {F : Nat → Int32} {D : Dft} (h : RdC S p tx tn) (hq : q < tn) (hF : oF F tn q) (hC : CRd S (10 - p) D) (hD : wfD D) :
    ∃ S' F', f_X6_readPetition 1 (rowI S 1 F) = some (rowI S' 1 F') ∧ fr (XD (10 - p)) S S' ∧ (∀ q' D', aPet tx tn q D = .ok (q', D') → oF F' tn q' ∧ F' 2 = F 2 ∧ CRd S' (10 - p) D') ∧ (∀ e, aPet tx tn q D = .error e → eF F' tn e) := by
  have hR := h.1
  have hS := hR.1
  have hr8 := hD.1.1
  have hp6 := hD.1.2.2.1
  have hd : 10 - p = 2 ∨ 10 - p = 8 := by have := hR.2.1; omega
  have hRT : ∀ F, rfC (rowI S 1 F) p := fun F => rfC_e hR rfl rfl
  obtain ⟨F1, w1, w2, w3⟩ := c_wordS hS (by have := h.2.2.1; omega) hF (decide (6 ≤ pts D.2.1))
  obtain ⟨v, F2, n1, n2, n3, n4⟩ := c_numS (lim := rms D.2.1) h (gS_0 hq) w2 (by omega)
  obtain ⟨c, F3, k1, k2, k3, k4⟩ := c_numS (lim := 100) h (gS_n (gS_0 hq)) n3 (by decide)
  obtain ⟨F4, e1, e2, e3⟩ := c_endS h (gS_n (gS_n (gS_0 hq))) k3
  have l99 : (99 : Int32) = nI 100 - (1 : Int32) := by decide +kernel
  have k2' : f_X6_readNumber 1 (99 : Int32) (rowI S 1 F2) = some (nI c, rowI S 1 F3) := by rw [l99]; exact k2
  have n2' : f_X6_readNumber 1 (S.2.1 (10 - p) 2 - (1 : Int32)) (rowI S 1 F1) = some (nI v, rowI S 1 F2) := by rw [hC.2.2.1]; exact n2
  have pre : ∀ r, ((gI 6 1 (rowI S 1 F4) 1).bind fun v11 => if v11 = (0 : Int32) then (gR 6 3 (rowI S 1 F4) 1).bind fun r12 => (ck 2 (rowI S 1 F4) r12).bind fun c13 => (f_X2_addPetition r12 (nI v) (nI c) (rowI S 1 F4)).bind fun S14 => some S14 else some (rowI S 1 F4)) = r → f_X6_readPetition 1 (rowI S 1 F) = r := by
    intro r hr
    have b18 : ∀ b : Bool, b = decide (6 ≤ pts D.2.1) → f_X6_readPetition_b18 1 (nI (if b then 1 else 0)) 1 (rowI S 1 F) = r := by
      intro b hb
      unfold f_X6_readPetition_b18
      exact bs (t1_c hS) (bs (by rw [hb]; exact w1) (bs (r_1_3 (hRT F1)) (bs (dg_g hS hd 2) (bs (t1_c hS) (bs n2' (bs (t1_c hS) (bs k2' (bs (t1_c hS) (bs e1 hr)))))))))
    unfold f_X6_readPetition
    refine bs (r_1_3 (hRT F)) (bs (dg_g hS hd 4) ?_)
    rw [hC.2.2.2.2.1]
    by_cases z : pts D.2.1 < 6
    · exact bp (nI_lt (b := 6) z (by omega)) (b18 false (by rw [decide_eq_false]; omega))
    · exact bn (nI_nlt (b := 6) (by omega) (by omega)) (b18 true (by rw [decide_eq_true]; omega))
  unfold aPet
  cases er : sEnd tx tn (sNum tx tn (sNum tx tn (s0 q (decide (6 ≤ pts D.2.1))) (rms D.2.1)) 100) with
  | error e =>
    have he := e2.2 e er
    have hg := (gS_e (gS_n (gS_n (gS_0 (b := decide (6 ≤ pts D.2.1)) hq)))).2 e er
    refine ⟨S, F4, pre _ (bs (t1_g hS 1) (bn (by rw [he.2.1]; exact nI_ne0 (by omega) (by omega)) rfl)), fr.rf, fun q' D' h' => absurd h' (by simp [fin]), fun e' h' => ?_⟩
    have := fin_er h'
    injection this with this
    subst this; exact he
  | ok q3 =>
    obtain ⟨q3', x3, -, -⟩ := sEnd_ok er
    obtain ⟨q2, x2, -, l2, -⟩ := sNum_ok x3 (gS_n (gS_0 hq))
    obtain ⟨q1, x1, -, l1, -⟩ := sNum_ok x2 (gS_0 hq)
    obtain ⟨x0, -⟩ := s0_ok x1
    have ho := e2.1 q3 er
    obtain ⟨m1, m2, -⟩ := n4 q2 x2
    obtain ⟨m3, m4, -⟩ := k4 q3' x3
    obtain ⟨S', y1, y2, y3⟩ := c_addPet (a := v) (w := c) (F := F4) hR hd hC (by have := of_decide_eq_false x0; omega)
    refine ⟨S', F4, pre _ (bs (t1_g hS 1) (bp (by rw [ho.2.1]; rfl) (bs (r_1_3 (hRT F4)) (bs (dg_c hS hd) (bs y1 rfl))))), y2, fun q' D' h' => ?_, fun e' h' => absurd (fin_er h') (by simp)⟩
    obtain ⟨z1, z2⟩ := fin_ok h'
    injection z1 with z1
    subst z1; subst z2
    exact ⟨ho, by rw [e3 _ er, m4, m2, w3 x0], by rw [← m1, ← m3]; exact y3⟩
