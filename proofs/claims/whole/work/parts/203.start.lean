/-! THE CLAIM OUT OF ONE WALK OF THE LAW'S BODY. Your part is whole_start (and what it stands on); all else here is the same for every law, but numbers. -/
def R_law : String := "SlipperDukeLaw"
def lw_P (b : Addr) (xs : List Int32) (args : Array Value) (s : State) : Prop := args = #[.ref b] ∧ s.IntsAt b xs ∧ xs.length ≤ 192 ∧ (Jvm.Cond.and given_1 narrow_1).before args s = true
def lw_Q (_ : Array Value) (s : State) (o : Outcome) (t : State) : Prop := o = .returned (some (.int 1)) ∧ Framed s o t [] 600000 7302250
def lw_Z (below : List Frame) (a : Array Value) (s : State) : State → Prop := fun t => ∃ o, t.status = .running ∧ Ended t below o ∧ lw_Q a s o t
/-- the law's own end, with 1 on the stack, nothing written that was there before, its room as the claim has it -/
theorem lw_ret {p : Program} {l : Launch} {e : Env} {s : State} {m : MethodId} {below : List Frame} {meth : Method} {c : Code} {b : Nat} (hx : p.tables.exec = Jvm.exec) (hb : c.code = code) (hr : meth.sig.returnType = ret) (hlocks : meth.locks = false) {pc : Nat} {H : Heap} {ls : Array Slot} (hdg : decode code pc = .ok (.ireturn, 1)) : W p l e room_1 s m #[Value.ref b] below meth c H [] 600000 7302250 (lw_Z below #[Value.ref b] s) (F0 m pc ls [.int 1]) := by
  intro T hT X
  obtain ⟨fs, hret, hrun, hended, hW, hframe⟩ := X.leave (v := some (.int 1)) (hlocks := hlocks) (fun h => by rw [hr] at h; cases h)
  have hmeth' : T.vm.method? m = some meth := X.method'
  refine ⟨T.setFrames fs, ?_, .returned (some (.int 1)), hrun, hended, rfl, ⟨_, rfl⟩, hW, hframe⟩
  jvm_step X.here [X.here.top, hx, hb, hdg, hmeth', hr, ret, narrow_b1]
  (try refine ⟨rfl, ?_⟩); (try refine ⟨rfl, ?_⟩)
  first | (intro acts; rw [hret _ acts rfl rfl rfl]) | rw [hret _ _ rfl rfl rfl]
  exact Steps.refl _
/-- what holds at the law's entry: the machine, the code, the tables' words (any of lw_tbl by 'hts w (by decide +kernel)'), the script of L ints xs at the cell b, what the Statement gives of the start (any of its parts by flat_of_before) -/
def lw_At (p : Program) (s : State) (m : MethodId) (meth : Method) (c : Code) (b L : Nat) (xs : Nat → Int32) : Prop :=
  p.tables.exec = Jvm.exec ∧ c.code = code ∧ meth.sig.returnType = ret ∧ c.maxLocals = 4 ∧ s.vm.findClass R_law = some m.cls ∧ (∀ w ∈ lw_tbl, w.before #[Value.ref b] s = true) ∧ va_X b L xs s s.heap ∧ b < s.heap.size ∧ meth.locks = false ∧ (Jvm.Cond.and given_1 narrow_1).before #[Value.ref b] s = true
theorem okw_any {w : Cond} (hk : okw w = true) {s : State} {a a' : Array Value} (h : w.before a s = true) : w.before a' s = true := by
  unfold okw at hk
  split at hk
  · exact va_tabs rfl rfl h
  · exact h
  · unfold goodWord at hk
    split at hk
    · exact h
    · exact va_tabs (by simp only [Bool.and_eq_true] at hk; exact hk.1) rfl h
theorem tb_start {s : State} {a : Array Value} (hts : ∀ w ∈ lw_tbl, w.before a s = true) : TB s :=
  fun w hw a' => okw_any (tb_ok w hw) (hts w (List.mem_filter.mp hw).1)
set_option maxHeartbeats 4000000 in
set_option maxRecDepth 100000 in
theorem law_loop {p : Program} {l : Launch} {e : Env} {s : State} {m : MethodId} {below : List Frame} {meth : Method} {c : Code} {D : va_G} {cy : Nat → ClassId} {b L : Nat} {xs : Nat → Int32} (C0 : Cx p m c cL_law 4 s #[Value.ref b] RL D cy) (hr : meth.sig.returnType = ret) (hlocks : meth.locks = false) (hX : va_X b L xs s s.heap) (hbl : b < s.heap.size) (hL : L ≤ 192)
    (Inv : Mem → Prop) (hstep : ∀ k x y S, Inv S → ∃ S1, stepL k x y S = some S1 ∧ Inv S1) :
    ∀ (n i : Nat), L + 3 - i = n → i ≤ L + 3 → ∀ (S : Mem), Inv S → ∀ (H : Heap) (locs : List Loc) (ls : Array Slot), Wd s.heap.size D cy S s.heap H locs → lv_has ls 4 [(0, .ref b), (1, .ref (s.heap.size + 0)), (2, .ref (s.heap.size + 216)), (3, .int (nI i))] →
      W p l e room_1 s m #[Value.ref b] below meth c H locs 600000 7302250 (lw_Z below #[Value.ref b] s) (F0 m 18 ls []) := by
  have hbA : ¬ s.heap.size ≤ b := Nat.not_le.mpr hbl
  intro n
  induction n using Nat.strongRecOn with
  | _ n ih =>
    intro i hn hi S hI H locs ls hw hl
    refine lv_iload_n C0.hx C0.hb dL_law_18 rfl (lv_at hl 3 rfl) ?_
    refine lv_aload_n C0.hx C0.hb dL_law_19 rfl (lv_at hl 0 rfl) ?_
    refine va_slen C0.hx C0.hb hX hbl hbA hw.2 dL_law_20 ?_
    refine lv_iconst (v := (3 : Int32)) C0.hx C0.hb dL_law_21 (by decide) ?_
    refine lv_isub C0.hx C0.hb dL_law_22 ?_
    have hcmp : (Int32.ofNat L - 3 < nI i) ↔ L < i + 3 := by
      show (nI L - nI 3 < nI i) ↔ _
      rw [Int32.lt_iff_toInt_lt, pk_sub_toInt (by omega) (by omega), nI_toInt (by omega)]
      omega
    refine lv_icmp_gt (tgt := 1121) C0.hx C0.hb dL_law_23 (by decide) (fun hc => ?_) (fun hc => ?_)
    · refine lv_iconst (v := (1 : Int32)) C0.hx C0.hb dL_law_1121 (by decide) ?_
      refine va_forget (fun q hq => hw.2.2.2 q hq) ?_
      exact lw_ret C0.hx C0.hb hr hlocks dL_law_1122
    · have hlt : i + 2 < L := by
        rcases Nat.lt_or_ge (i + 2) L with q | q
        · exact q
        · exact absurd (hcmp.mpr (by omega)) hc
      have e1 : nI i + (1 : Int32) = nI (i + 1) := nI_1 i
      have e2 : nI i + (2 : Int32) = nI (i + 2) := nI_add i 2
      have e3 : nI i + Int32.ofInt 3 = nI (i + 3) := nI_add i 3
      have hi0 : vp_in (nI i) L := vp_in_nI (by omega) (by omega)
      have hi1 : vp_in (nI i + (1 : Int32)) L := by rw [e1]; exact vp_in_nI (by omega) (by omega)
      have hi2 : vp_in (nI i + (2 : Int32)) L := by rw [e2]; exact vp_in_nI (by omega) (by omega)
      refine lv_aload_n C0.hx C0.hb dL_law_26 rfl (lv_at hl 0 rfl) ?_
      refine lv_iload_n C0.hx C0.hb dL_law_27 rfl (lv_at hl 3 rfl) ?_
      refine va_sld C0.hx C0.hb hX hbl hbA hw.2 hi0 dL_law_28 ?_
      refine lv_bipush (v := (63 : Int32)) C0.hx C0.hb dL_law_29 (by decide) ?_
      refine lv_iand C0.hx C0.hb dL_law_31 ?_
      obtain ⟨S1, hS1, hI1⟩ := hstep (xs (nI i).toNatClampNeg &&& (63 : Int32)) (xs (nI i + (1 : Int32)).toNatClampNeg) (xs (nI i + (2 : Int32)).toNatClampNeg) S hI
      refine lc_sw C0 hX hbl hbA hw hl hi1 hi2 hS1 (fun H locs hw => ?_)
      refine lv_iinc (v := nI (i + 3)) (lv' := [(3, .int (nI (i + 3))), (0, .ref b), (1, .ref (s.heap.size + 0)), (2, .ref (s.heap.size + 216))]) C0.hx C0.hb dL_law_1115 hl (k := 3) rfl e3 (by decide) rfl (fun ls hl => ?_)
      refine lv_goto (tgt := 18) C0.hx C0.hb dL_law_1118 (by decide) ?_
      exact ih (L + 3 - (i + 3)) (by omega) (i + 3) rfl (by omega) S1 hI1 _ _ _ hw (lv_sub hl [1, 2, 3, 0] rfl)
def S00 : Mem := (0, fun _ _ => 0, fun _ _ => 0, fun _ _ => none)
set_option maxHeartbeats 4000000 in
set_option maxRecDepth 100000 in
theorem whole_open {p : Program} {e : Env} {s : State} {m : MethodId} {below : List Frame} {meth : Method} {c : Code} (l : Launch) {b L : Nat} {xs : Nat → Int32} (hL : L ≤ 192) (CA : lw_At p s m meth c b L xs)
    (Inv : Mem → Prop) (hstep : ∀ k x y S, Inv S → ∃ S1, stepL k x y S = some S1 ∧ Inv S1) (hinit : ∃ S02 S03 S04, f_X8_init 0 (newC S00) = some S02 ∧ S02.1 = 216 ∧ newO 9 S02 = some S03 ∧ f_X9_init 216 S03 = some S04 ∧ Inv S04) :
    W p l e room_1 s m #[Value.ref b] below meth c s.heap [] 0 0 (lw_Z below #[Value.ref b] s) (entryFrame m ([Value.ref b] : List Value).toArray 4) := by
  obtain ⟨hx, hb, hr, hml, hown, hts, hX, hbl, hlocks, hgv⟩ := id CA
  obtain ⟨S02, S03, S04, hi1, h216, hi2, hi3, hI⟩ := hinit
  have hT : TB s := tb_start hts
  obtain ⟨cl0, is0, kn0⟩ := u_known (C := RX0) (T := TX0) (N := 3) (n := 3) (fun w h => hT w h #[]) in_0 (hT _ kw_314 #[])
  obtain ⟨cl1, is1, kn1⟩ := u_known (C := RX1) (T := TX1) (N := 3) (n := 3) (fun w h => hT w h #[]) in_1 (hT _ kw_332 #[])
  obtain ⟨cl2, is2, kn2⟩ := u_known (C := RX2) (T := TX2) (N := 11) (n := 11) (fun w h => hT w h #[]) in_2 (hT _ kw_93 #[])
  obtain ⟨cl3, is3, kn3⟩ := u_known (C := RX3) (T := TX3) (N := 3) (n := 3) (fun w h => hT w h #[]) in_3 (hT _ kw_292 #[])
  obtain ⟨cl4, is4, kn4⟩ := u_known (C := RX4) (T := TX4) (N := 8) (n := 8) (fun w h => hT w h #[]) in_4 (hT _ kw_189 #[])
  obtain ⟨cl5, is5, kn5⟩ := u_known (C := RX5) (T := TX5) (N := 8) (n := 8) (fun w h => hT w h #[]) in_5 (hT _ kw_183 #[])
  obtain ⟨cl6, is6, kn6⟩ := u_known (C := RX6) (T := TX6) (N := 7) (n := 7) (fun w h => hT w h #[]) in_6 (hT _ kw_87 #[])
  obtain ⟨cl7, is7, kn7⟩ := u_known (C := RX7) (T := TX7) (N := 6) (n := 6) (fun w h => hT w h #[]) in_7 (hT _ kw_233 #[])
  obtain ⟨cl8, is8, kn8⟩ := u_known (C := RX8) (T := TX8) (N := 10) (n := 10) (fun w h => hT w h #[]) in_8 (hT _ kw_79 #[])
  obtain ⟨cl9, is9, kn9⟩ := u_known (C := RX9) (T := TX9) (N := 27) (n := 27) (fun w h => hT w h #[]) in_9 (hT _ kw_857 #[])
  obtain ⟨dC, dI, hKc⟩ : ∃ (dC : Nat → ClassId) (dI : Nat → Nat → Nat), ∀ (k : Nat) (q : vw_C), vwCl[k]? = some q → u_Kn s q.1 q.2.1 q.2.2 (dC k) (dI k) := by
    refine ⟨fun k => if k = 0 then cl0 else if k = 1 then cl1 else if k = 2 then cl2 else if k = 3 then cl3 else if k = 4 then cl4 else if k = 5 then cl5 else if k = 6 then cl6 else if k = 7 then cl7 else if k = 8 then cl8 else cl9, fun k => if k = 0 then is0 else if k = 1 then is1 else if k = 2 then is2 else if k = 3 then is3 else if k = 4 then is4 else if k = 5 then is5 else if k = 6 then is6 else if k = 7 then is7 else if k = 8 then is8 else is9, ?_⟩
    intro k q hq
    match k, hq with
    | 0, hq => cases hq; exact kn0
    | 1, hq => cases hq; exact kn1
    | 2, hq => cases hq; exact kn2
    | 3, hq => cases hq; exact kn3
    | 4, hq => cases hq; exact kn4
    | 5, hq => cases hq; exact kn5
    | 6, hq => cases hq; exact kn6
    | 7, hq => cases hq; exact kn7
    | 8, hq => cases hq; exact kn8
    | 9, hq => cases hq; exact kn9
    | k + 10, hq => simp [vwCl] at hq
  obtain ⟨y0, ka0, co0, a0, b0, d0⟩ := Cond.arrayClass_spec (hT (.arrayClass .int) kw_153 #[])
  obtain ⟨y1, ka1, co1, a1, b1, d1⟩ := Cond.arrayClass_spec (hT (.arrayClass .long) kw_944 #[])
  obtain ⟨y2, ka2, co2, a2, b2, d2⟩ := Cond.arrayClass_spec (hT (.arrayClass .boolean) kw_945 #[])
  obtain ⟨co3, y3, ka3, c3, f3, b3, d3, a3⟩ := Cond.arrayOver_spec (hT (.arrayOver (.object "SlipperDuke$Image")) kw_312 #[])
  obtain ⟨co4, y4, ka4, c4, f4, b4, d4, a4⟩ := Cond.arrayOver_spec (hT (.arrayOver (.object "SlipperDuke$State")) kw_298 #[])
  obtain ⟨cy, hc0, hc1, hc2, hc3, hc4⟩ : ∃ cy : Nat → ClassId, cy 0 = y0 ∧ cy 1 = y1 ∧ cy 2 = y2 ∧ cy 3 = y3 ∧ cy 4 = y4 :=
    ⟨fun k => if k = 0 then y0 else if k = 1 then y1 else if k = 2 then y2 else if k = 3 then y3 else y4, rfl, rfl, rfl, rfl, rfl⟩
  have hK : va_K (dC, dI) vwCl (tyl cy) s := by
    refine ⟨hKc, fun k q hq => ?_⟩
    match k, hq with
    | 0, hq => cases hq; rw [hc0]; exact ⟨fun n z => ⟨fun k h => (by cases h), ka0, b0, co0, d0⟩, a0⟩
    | 1, hq => cases hq; rw [hc1]; exact ⟨fun n z => ⟨fun k h => (by cases h), ka1, b1, co1, d1⟩, a1⟩
    | 2, hq => cases hq; rw [hc2]; exact ⟨fun n z => ⟨fun k h => (by cases h), ka2, b2, co2, d2⟩, a2⟩
    | 3, hq => cases hq; rw [hc3]; exact ⟨fun n z => ⟨fun k h => (by cases h), ka3, b3, co3, d3⟩, ka3, co3, b3, d3, c3, a3⟩
    | 4, hq => cases hq; rw [hc4]; exact ⟨fun n z => ⟨fun k h => (by cases h), ka4, b4, co4, d4⟩, ka4, co4, b4, d4, c4, a4⟩
    | k + 5, hq => simp [tyl] at hq
  have C0 : Cx p m c cL_law 4 s #[Value.ref b] RL (dC, dI) cy := ⟨⟨hx, hb, hml, hown, fun w h => hT w h _⟩, hK, hT⟩
  have hw : Wd s.heap.size (dC, dI) cy S00 s.heap s.heap [] := ⟨fun k q h => by simp [wl, S00] at h, va_S.rf⟩
  have hl := lv_entry ([.ref b]) (n := 4) (Nat.le_of_ble_eq_true rfl)
  rw [lg_entry_eq]
  generalize (lg_sl ([.ref b]) ++ List.replicate (4 - (lg_sl ([.ref b])).length) Slot.unset).toArray = ls at hl ⊢
  have hl : lv_has ls 4 [(0, .ref b)] := hl
  refine q_newO (S := S00) (S1 := newC S00) C0 hw (Nat.le_refl _) (Nat.le_refl _) rfl rfl in_8 tyX8_ok ⟨by decide, rfl⟩ df_8 kw_78 kw_79 kw_63 (Nat.le_of_ble_eq_true rfl) (Nat.le_of_ble_eq_true rfl) dL_law_0 (fun H hw hN => ?_)
  refine lv_dup C0.hx C0.hb dL_law_3 rfl ?_
  refine q_callI (rest := [.ref (s.heap.size + S00.1)]) C0 hw hN (Nat.succ_pos _) (m_X8_init l s.heap.size (dC, dI) cy (newC S00) S00.1 hi1) kw_80 kw_81 kw_63 kw_82 ⟨rfl, rfl⟩ rfl (by decide +kernel) ⟨Nat.le_of_ble_eq_true rfl, Nat.le_of_ble_eq_true rfl⟩ hl.1 (Nat.le_of_ble_eq_true rfl) dL_law_4 ⟨Nat.le_of_ble_eq_true rfl, Nat.le_of_ble_eq_true rfl⟩ (fun H locs hw hN => ?_)
  refine lv_astore_n (lv' := [(1, .ref (s.heap.size + S00.1)), (0, .ref b)]) C0.hx C0.hb dL_law_7 rfl hl (by decide) rfl (fun ls hl => ?_)
  refine q_newO C0 hw hN (Nat.le_refl _) hi2 rfl in_9 tyX9_ok ⟨by decide, rfl⟩ df_9 kw_856 kw_857 kw_72 (Nat.le_of_ble_eq_true rfl) (Nat.le_of_ble_eq_true rfl) dL_law_8 (fun H hw hN => ?_)
  refine lv_dup C0.hx C0.hb dL_law_11 rfl ?_
  have hp : 0 < S03.1 := by rw [newO_1 hi2]; exact Nat.succ_pos _
  refine q_callI (rest := [.ref (s.heap.size + S02.1)]) C0 hw hN hp (m_X9_init l s.heap.size (dC, dI) cy S03 S02.1 (by rw [h216]; exact hi3)) kw_858 kw_859 kw_72 kw_860 ⟨rfl, rfl⟩ rfl (by decide +kernel) ⟨Nat.le_of_ble_eq_true rfl, Nat.le_of_ble_eq_true rfl⟩ hl.1 (Nat.le_of_ble_eq_true rfl) dL_law_12 ⟨Nat.le_of_ble_eq_true rfl, Nat.le_of_ble_eq_true rfl⟩ (fun H locs hw hN => ?_)
  refine lv_astore_n (lv' := [(2, .ref (s.heap.size + S02.1)), (1, .ref (s.heap.size + S00.1)), (0, .ref b)]) C0.hx C0.hb dL_law_15 rfl hl (by decide) rfl (fun ls hl => ?_)
  refine lv_iconst (v := (0 : Int32)) C0.hx C0.hb dL_law_16 (by decide) ?_
  refine lv_istore_n (lv' := [(3, .int (0 : Int32)), (2, .ref (s.heap.size + S02.1)), (1, .ref (s.heap.size + S00.1)), (0, .ref b)]) C0.hx C0.hb dL_law_17 rfl hl (by decide) rfl (fun ls hl => ?_)
  rw [h216] at hl
  refine W.widen (k := 600000) (n := 7302250) (Nat.le_of_ble_eq_true rfl) (Nat.le_of_ble_eq_true rfl) ?_
  exact law_loop C0 hr hlocks hX hbl hL Inv hstep (L + 3 - 0) 0 rfl (Nat.zero_le _) S04 hI _ _ _ hw (lv_sub hl [3, 2, 1, 0] rfl)
