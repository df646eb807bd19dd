/-- slippers in the state n -/
def slF (P : Pal) (n : Nat → Nat) : Nat → Int32 := fun k => if k = 0 then nI (n 0) else if k = 1 then nI (n 2) else if k = 2 then nI (n 3) else if k = 3 then nI (noiN P n) else if k = 4 then nI (cntN P n) else if k = 5 then nI (n 4) else if k = 6 then nI (n 5) else 0
def ss (S : Mem) (a : Nat) (P : Pal) (n : Nat → Nat) : Mem := rowI S a (slF P n)
/-- a cell that is a pair of slippers, with its row of sets for a palace and its bricks -/
def SLb (S : Mem) (a : Nat) (P : Pal) (br : Nat) : Prop := a + 1 < S.1 ∧ kd a = 4 ∧ kd (a + 1) = 10 ∧ ln (a + 1) = 8 ∧ S.2.2.2 a 7 = some (a + 1) ∧ ∀ w, w < 8 → S.2.1 (a + 1) w = nI (bes P br w)
theorem ss_gI {S : Mem} {a k br : Nat} {P : Pal} {n : Nat → Nat} (h : SLb S a P br) : gI 4 k (ss S a P n) a = some (slF P n k) := by
  rw [gI, if_pos ⟨by show a < S.1; have := h.1; omega, h.2.1⟩]
  show some ((if a = a then slF P n else S.2.1 a) k) = _
  rw [if_pos rfl]
theorem ss_pI {S : Mem} {a k br : Nat} {P : Pal} {n : Nat → Nat} {v : Int32} (h : SLb S a P br) : pI 4 k (ss S a P n) a v = some (rowI S a (upd (slF P n) k v)) := by
  rw [pI, if_pos ⟨by show a < S.1; have := h.1; omega, h.2.1⟩]
  unfold ss
  rw [rII, rI2, if_pos rfl]
theorem ss_gR {S : Mem} {a br : Nat} {P : Pal} {n : Nat → Nat} (h : SLb S a P br) : gR 4 7 (ss S a P n) a = some (a + 1) := by
  rw [gR, if_pos ⟨by show a < S.1; have := h.1; omega, h.2.1⟩]
  exact h.2.2.2.2.1
theorem ss_ck {S : Mem} {a br : Nat} {P : Pal} {n : Nat → Nat} (h : SLb S a P br) : ck 4 (ss S a P n) a = some () := if_pos ⟨by show a < S.1; have := h.1; omega, h.2.1⟩
theorem ss_ld {S : Mem} {a br w : Nat} {P : Pal} {n : Nat → Nat} (h : SLb S a P br) (hw : w < 8) : ldI (ss S a P n) (a + 1) (nI w) = some (nI (bes P br w)) := by
  rw [ldI_n (S := ss S a P n) ⟨h.1, h.2.2.1, by rw [h.2.2.2.1]; decide⟩ (by rw [h.2.2.2.1]; exact hw)]
  show some ((if a + 1 = a then slF P n else S.2.1 (a + 1)) w) = _
  rw [if_neg (by omega), h.2.2.2.2.2 w hw]
theorem slF_congr {P : Pal} {n m : Nat → Nat} (h0 : n 0 = m 0) (h2 : n 2 = m 2) (h3 : n 3 = m 3) (h4 : n 4 = m 4) (h5 : n 5 = m 5) (hn : noiN P n = noiN P m) (hc : cntN P n = cntN P m) : slF P n = slF P m := by
  unfold slF
  rw [h0, h2, h3, h4, h5, hn, hc]
theorem slF_at {P : Pal} {n : Nat → Nat} : slF P n 0 = nI (n 0) ∧ slF P n 1 = nI (n 2) ∧ slF P n 2 = nI (n 3) ∧ slF P n 3 = nI (noiN P n) ∧ slF P n 4 = nI (cntN P n) ∧ slF P n 5 = nI (n 4) ∧ slF P n 6 = nI (n 5) := ⟨rfl, rfl, rfl, rfl, rfl, rfl, rfl⟩
theorem c_isWorn {S : Mem} {a br : Nat} {P : Pal} {n : Nat → Nat} (h : SLb S a P br) (h3 : n 3 < 2 ^ 31) : f_X4_isWorn a (ss S a P n) = some (nI (if wornN n then 1 else 0)) := by
  unfold f_X4_isWorn wornN
  rw [ss_gI h, slF_at.2.2.1]
  simp (disch := omega) only [Option.bind_some, ↓reduceIte, if_true, if_false, zi, zj, nI_ltI]
  by_cases q : 50 ≤ n 3
  · rw [if_neg (by omega)]; simp [q]
  · rw [if_pos (by omega)]; simp [q]
theorem c_roomsAhead {S : Mem} {a br : Nat} {P : Pal} {n : Nat → Nat} (h : SLb S a P br) (h2 : n 2 < 8) (h5 : n 5 < 256) : f_X4_roomsAhead a (ss S a P n) = some (nI (ahd P (n 2) (n 5) br)) := by
  unfold f_X4_roomsAhead
  rw [ss_gR h, Option.bind_some, ss_gI h, Option.bind_some, slF_at.2.1, ss_ld h h2, Option.bind_some, ss_gI h, Option.bind_some, slF_at.2.2.2.2.2.2, c_ahead h5]
theorem gt_bst8 {P : Pal} (hP : wfP P) {r w ca na br no ct : Nat} {wo : Bool} : bst (fun a => (ahd P w na br).testBit a) (plN r ca no ct wo) 8 = bst (opn P w na br) (plN r ca no ct wo) (rms P) := by
  have h1 : bst (fun a => (ahd P w na br).testBit a) (plN r ca no ct wo) 8 = bst (opn P w na br) (plN r ca no ct wo) 8 :=
    bst_congr 8 (fun a ha => by unfold ahd; rw [sto_bit]; simp [ha]) (fun _ _ => rfl)
  have hr := hP.1
  have hz : ∀ a, rms P ≤ a → opn P w na br a = false := by
    intro a ha
    cases ho : opn P w na br a with
    | false => rfl
    | true =>
      rw [opn_opd, Bool.and_eq_true] at ho
      have := (opd_rm hP ho.1).1
      omega
  rw [h1]
  have := bst_more (pl := plN r ca no ct wo) hz (8 - rms P)
  rwa [show rms P + (8 - rms P) = 8 by omega] at this
theorem c_nextBy {S : Mem} {a hh r : Nat} {P : Pal} {n : Nat → Nat} (hP : wfP P) (h : SLb S a P (n 6)) (hw : wfN P hh n) (hr : r < 64) : f_X4_nextBy a (nI r) (ss S a P n) = some (nI (nxN P n r (n 4))) := by
  obtain ⟨w0, w1, w2, w3, w4, w5, w6, w7, w8, w9, wn, wg, wc⟩ := wfb hP hw
  have l1 := noi_lt (n := n) hP.1 (fun a ha => by have := wn a ha; omega)
  have l2 := cnt_lt32 (n := n) hP.1
  have l3 : ahd P (n 2) (n 5) (n 6) < 2 ^ 31 := Nat.lt_trans (sto_lt _ 8) (by decide)
  have e1 := c_roomsAhead h w2 w5
  have e2 := c_isWorn (n := n) h (by omega)
  have e3 : f_X4_liked (nI r) (nI (ahd P (n 2) (n 5) (n 6))) (nI (noiN P n)) (nI (n 4)) (nI (cntN P n)) (nI (if wornN n then 1 else 0)) = some (lki (bst (fun a => (ahd P (n 2) (n 5) (n 6)).testBit a) (plN r (n 4) (noiN P n) (cntN P n) (wornN n)) 8)) := c_liked hr l3 l1 (by omega) l2
  rw [gt_bst8 hP] at e3
  obtain ⟨f0, f1, f2, f3, f4, f5, f6⟩ := slF_at (P := P) (n := n)
  unfold f_X4_nextBy nxN gtN
  simp only [ss_ck h, ss_gI h, e1, e2, e3, f1, f3, f4, f5, Option.bind_some]
  cases hb : bst (opn P (n 2) (n 5) (n 6)) (plN r (n 4) (noiN P n) (cntN P n) (wornN n)) (rms P) with
  | none => simp only [lki, if_true]
  | some q =>
    have := bst_lt hb
    have hne : ¬ nI q.1 = (-1 : Int32) := z_nem1 (a := q.1) (by have := hP.1; omega)
    simp only [lki, hne, if_false]
theorem cnt_eq8 {P : Pal} {hh : Nat} {n : Nat → Nat} (hP : wfP P) (hw : wfN P hh n) : cntN P n = pn (fun a => if a < 8 then min 9 (n (18 + a)) else 0) 8 := by
  have hr := hP.1
  have e : cntN P n = pn (fun a => if a < 8 then min 9 (n (18 + a)) else 0) (rms P) := pn_congr _ (fun a ha => by simp [show a < 8 by omega])
  have := pn_more (f := fun a => if a < 8 then min 9 (n (18 + a)) else 0) (n := rms P) (8 - rms P) (fun a ha => by
    by_cases h8 : a < 8
    · simp only [h8, if_true]; rw [hw.2.2.2.2.2.2.2.2.2.2.2.2.2.1 a ha h8]; rfl
    · simp [h8])
  rw [show rms P + (8 - rms P) = 8 by omega] at this
  rw [e, this]
theorem noi_eq8 {P : Pal} {hh : Nat} {n : Nat → Nat} (hP : wfP P) (hw : wfN P hh n) : noiN P n = pn (fun a => if a < 8 then n (10 + a) else 0) 8 := by
  have hr := hP.1
  have e : noiN P n = pn (fun a => if a < 8 then n (10 + a) else 0) (rms P) := pn_congr _ (fun a ha => by simp [show a < 8 by omega])
  have := pn_more (f := fun a => if a < 8 then n (10 + a) else 0) (n := rms P) (8 - rms P) (fun a ha => by
    by_cases h8 : a < 8
    · simp only [h8, if_true]; rw [hw.2.2.2.2.2.2.2.2.2.2.2.1 a ha h8]
    · simp [h8])
  rw [show rms P + (8 - rms P) = 8 by omega] at this
  rw [e, this]
theorem c_feel {S : Mem} {a hh br : Nat} {P : Pal} {n : Nat → Nat} (hP : wfP P) (h : SLb S a P br) (hw : wfN P hh n) (h0 : 0 < rms P) : f_X4_feelGoverned a (ss S a P n) = some (ss S a P (va_up n (18 + n 2) (n (18 + n 2) + 1))) := by
  obtain ⟨w0, w1, w2, w3, w4, w5, w6, w7, w8, w9, wn, wg, wc⟩ := wfb hP hw
  have h2 := wf_2 hw h0
  have hr := hP.1
  have hw1 : wfN P (hh + 1) (va_up n (18 + n 2) (n (18 + n 2) + 1)) := wu_18 (wf_mono hw (by omega)) h2 hP.1 (by have := wg (n 2) w2; omega)
  have hf : ∀ a, (fun a => if a < 8 then min 9 (n (18 + a)) else 0) a < 16 := by
    intro a; dsimp only; split <;> omega
  have e1 := cnt_eq8 hP hw
  have e2 := cnt_eq8 hP hw1
  have e3 := c_packedAt hf w2
  obtain ⟨f0, f1, f2, f3, f4, f5, f6⟩ := slF_at (P := P) (n := n)
  have key : ∀ v, v ≤ 9 → v = min 9 (n (18 + n 2) + 1) → rowI S a (upd (slF P n) 4 (nI (pn (va_up (fun a => if a < 8 then min 9 (n (18 + a)) else 0) (n 2) v) 8))) = ss S a P (va_up n (18 + n 2) (n (18 + n 2) + 1)) := by
    intro v hv hv2
    unfold ss
    congr 1
    have e4 : pn (va_up (fun a => if a < 8 then min 9 (n (18 + a)) else 0) (n 2) v) 8 = cntN P (va_up n (18 + n 2) (n (18 + n 2) + 1)) := by
      rw [e2]
      apply pn_congr
      intro b hb
      by_cases q : b = n 2
      · subst q; rw [va_up_self, va_up_self]; simp [w2, hv2]
      · rw [va_up_ne _ _ q]; simp only [hb, if_true]; rw [va_up_ne _ _ (by omega)]
    rw [e4]
    have n4 : noiN P (va_up n (18 + n 2) (n (18 + n 2) + 1)) = noiN P n := noi_up hr (by omega)
    funext k
    unfold slF upd
    rw [va_up_ne _ _ (by omega), va_up_ne _ _ (by omega), va_up_ne _ _ (by omega), va_up_ne _ _ (by omega), va_up_ne _ _ (by omega), n4]
    by_cases k4 : k = 4
    · subst k4; simp
    · simp [k4]
  unfold f_X4_feelGoverned
  simp only [ss_gI h, f1, f4, Option.bind_some, ss_pI h]
  rw [e1, e3]
  simp only [w2, if_true]
  rw [zi 9]
  by_cases q : 9 ≤ min 9 (n (18 + n 2))
  · rw [if_pos ((nI_leI (by omega) (by omega)).mpr q)]
    have k := key 9 (by omega) (by omega)
    rw [← k]
    have : va_up (fun a => if a < 8 then min 9 (n (18 + a)) else 0) (n 2) 9 = (fun a => if a < 8 then min 9 (n (18 + a)) else 0) := by
      funext b
      by_cases q2 : b = n 2
      · subst q2; rw [va_up_self]; simp [w2]; omega
      · rw [va_up_ne _ _ q2]
    rw [this, ← e1]
    unfold ss
    congr 2
    funext k
    unfold upd
    by_cases k4 : k = 4
    · subst k4; simp [slF]
    · simp [k4]
  · rw [if_neg (fun z => q ((nI_leI (by omega) (by omega)).mp z)), zi 1, nI_add]
    rw [c_withPacked hf w2 (by omega)]
    rw [key _ (by omega) (by omega)]
