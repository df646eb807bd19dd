theorem df_0 : ∀ j, j < 3 → defaultValue (tyX0 j) = if (ft 0).getD j 0 = 0 then .int 0 else if (ft 0).getD j 0 = 1 then .long 0 else .null := by
  intro j hj
  rcases (show j = 0 ∨ j = 1 ∨ j = 2 by omega) with rfl | rfl | rfl <;> rfl
theorem df_1 : ∀ j, j < 3 → defaultValue (tyX1 j) = if (ft 1).getD j 0 = 0 then .int 0 else if (ft 1).getD j 0 = 1 then .long 0 else .null := by
  intro j hj
  rcases (show j = 0 ∨ j = 1 ∨ j = 2 by omega) with rfl | rfl | rfl <;> rfl
theorem df_2 : ∀ j, j < 11 → defaultValue (tyX2 j) = if (ft 2).getD j 0 = 0 then .int 0 else if (ft 2).getD j 0 = 1 then .long 0 else .null := by
  intro j hj
  rcases (show j = 0 ∨ j = 1 ∨ j = 2 ∨ j = 3 ∨ j = 4 ∨ j = 5 ∨ j = 6 ∨ j = 7 ∨ j = 8 ∨ j = 9 ∨ j = 10 by omega) with rfl | rfl | rfl | rfl | rfl | rfl | rfl | rfl | rfl | rfl | rfl <;> rfl
theorem df_3 : ∀ j, j < 3 → defaultValue (tyX3 j) = if (ft 3).getD j 0 = 0 then .int 0 else if (ft 3).getD j 0 = 1 then .long 0 else .null := by
  intro j hj
  rcases (show j = 0 ∨ j = 1 ∨ j = 2 by omega) with rfl | rfl | rfl <;> rfl
theorem df_4 : ∀ j, j < 8 → defaultValue (tyX4 j) = if (ft 4).getD j 0 = 0 then .int 0 else if (ft 4).getD j 0 = 1 then .long 0 else .null := by
  intro j hj
  rcases (show j = 0 ∨ j = 1 ∨ j = 2 ∨ j = 3 ∨ j = 4 ∨ j = 5 ∨ j = 6 ∨ j = 7 by omega) with rfl | rfl | rfl | rfl | rfl | rfl | rfl | rfl <;> rfl
theorem df_5 : ∀ j, j < 8 → defaultValue (tyX5 j) = if (ft 5).getD j 0 = 0 then .int 0 else if (ft 5).getD j 0 = 1 then .long 0 else .null := by
  intro j hj
  rcases (show j = 0 ∨ j = 1 ∨ j = 2 ∨ j = 3 ∨ j = 4 ∨ j = 5 ∨ j = 6 ∨ j = 7 by omega) with rfl | rfl | rfl | rfl | rfl | rfl | rfl | rfl <;> rfl
theorem df_6 : ∀ j, j < 7 → defaultValue (tyX6 j) = if (ft 6).getD j 0 = 0 then .int 0 else if (ft 6).getD j 0 = 1 then .long 0 else .null := by
  intro j hj
  rcases (show j = 0 ∨ j = 1 ∨ j = 2 ∨ j = 3 ∨ j = 4 ∨ j = 5 ∨ j = 6 by omega) with rfl | rfl | rfl | rfl | rfl | rfl | rfl <;> rfl
theorem df_7 : ∀ j, j < 6 → defaultValue (tyX7 j) = if (ft 7).getD j 0 = 0 then .int 0 else if (ft 7).getD j 0 = 1 then .long 0 else .null := by
  intro j hj
  rcases (show j = 0 ∨ j = 1 ∨ j = 2 ∨ j = 3 ∨ j = 4 ∨ j = 5 by omega) with rfl | rfl | rfl | rfl | rfl | rfl <;> rfl
theorem df_8 : ∀ j, j < 10 → defaultValue (tyX8 j) = if (ft 8).getD j 0 = 0 then .int 0 else if (ft 8).getD j 0 = 1 then .long 0 else .null := by
  intro j hj
  rcases (show j = 0 ∨ j = 1 ∨ j = 2 ∨ j = 3 ∨ j = 4 ∨ j = 5 ∨ j = 6 ∨ j = 7 ∨ j = 8 ∨ j = 9 by omega) with rfl | rfl | rfl | rfl | rfl | rfl | rfl | rfl | rfl | rfl <;> rfl
theorem df_9 : ∀ j, j < 27 → defaultValue (tyX9 j) = if (ft 9).getD j 0 = 0 then .int 0 else if (ft 9).getD j 0 = 1 then .long 0 else .null := by
  intro j hj
  rcases (show j = 0 ∨ j = 1 ∨ j = 2 ∨ j = 3 ∨ j = 4 ∨ j = 5 ∨ j = 6 ∨ j = 7 ∨ j = 8 ∨ j = 9 ∨ j = 10 ∨ j = 11 ∨ j = 12 ∨ j = 13 ∨ j = 14 ∨ j = 15 ∨ j = 16 ∨ j = 17 ∨ j = 18 ∨ j = 19 ∨ j = 20 ∨ j = 21 ∨ j = 22 ∨ j = 23 ∨ j = 24 ∨ j = 25 ∨ j = 26 by omega) with rfl | rfl | rfl | rfl | rfl | rfl | rfl | rfl | rfl | rfl | rfl | rfl | rfl | rfl | rfl | rfl | rfl | rfl | rfl | rfl | rfl | rfl | rfl | rfl | rfl | rfl | rfl <;> rfl

abbrev rm_X0_init : Room := { frames := 1, cells := 2, slots := 30, locals := 20 }
def f_X0_init (a0 : Nat) (S : Mem) : Option Mem :=
    (newA 10 (15 : Int32) S).bind fun S1 =>
      (pR 0 1 S1 a0 S.1).bind fun S2 =>
      (newA 10 (15 : Int32) S2).bind fun S3 =>
      (pR 0 2 S3 a0 S2.1).bind fun S4 =>
      some S4
set_option maxHeartbeats 4000000 in
set_option maxRecDepth 100000 in
theorem m_X0_init (l : Launch) (b0 : Nat) (D : va_G) (cy : Nat → ClassId) (S : Mem) (a0 : Nat) {q : Mem} (h : f_X0_init a0 S = some q) : Met l yX0_init [.code yX0_init cX0_init 1 none] rm_X0_init (PrM b0 D cy S [.ref (b0 + a0)]) (QpN b0 D cy S 2 q) 2 30 (fun q => b0 ≤ q) := by
  refine Met.ofW (cc := cX0_init) (maxL := 1) (ret := none) (by decide) rfl ?_
  intro p e s m args below meth c s₁ B hml hv
  obtain ⟨rfl, hz, h0, hP, hK, hT⟩ := hv
  have hlow := wl_low h0 hP
  have hN : s.heap.size + 0 ≤ b0 + S.1 := hz
  have hb0 : b0 ≤ s.heap.size := by omega
  have hmn : meth.name = "<init>" := (name_of_methodNamed B.named B.method).1
  have C0 : Cx p m c cX0_init 1 s (List.toArray [.ref (b0 + a0)]) RX0 D cy := ⟨⟨B.exec, B.bytes, hml, findClass_of_methodNamed B.named, fun w h => hT w h _⟩, hK, hT⟩
  have hr : meth.sig.returnType = none := B.returns
  have hlocks := B.notSynchronized
  have hw : Wd b0 D cy S s.heap s.heap [] := ⟨hP, va_S.rf⟩
  have hl := lv_entry ([.ref (b0 + a0)]) (n := 1) (Nat.le_of_ble_eq_true rfl)
  rw [lg_entry_eq]
  generalize (lg_sl ([.ref (b0 + a0)]) ++ List.replicate (1 - (lg_sl ([.ref (b0 + a0)])).length) Slot.unset).toArray = ls at hl ⊢
  have hl : lv_has ls 1 [(0, .ref (b0 + a0))] := hl
  rw [f_X0_init] at h
  show W p l e rm_X0_init s m _ below meth c s.heap [] 0 0 _ _
  refine lv_aload_n C0.hx C0.hb dX0_init_0 rfl (lv_at hl 0 rfl) ?_
  refine W.objInit C0.hx C0.hb C0.ho (C0.w kw_318) (C0.w kw_84) (C0.w kw_85) rfl (hl.1.trans C0.1.2.2.1.symm) rfl dX0_init_1 (Nat.le_of_ble_eq_true rfl) (Nat.le_of_ble_eq_true rfl) ?_
  refine W.eq (g2 := F0 m 4 ls []) rfl ?_
  refine lv_aload_n C0.hx C0.hb dX0_init_4 rfl (lv_at hl 0 rfl) ?_
  refine lv_bipush (v := (15 : Int32)) C0.hx C0.hb dX0_init_5 (by decide) ?_
  obtain ⟨S1, hS1, h⟩ := Option.bind_eq_some_iff.mp h
  refine q_newI (N := 15) C0 hw hN hb0 hS1 kw_153 rfl (by decide) (Nat.le_of_ble_eq_true rfl) (Nat.le_of_ble_eq_true rfl) dX0_init_7 (fun H hw hN => ?_)
  obtain ⟨S2, hS2, h⟩ := Option.bind_eq_some_iff.mp h
  refine q_putF C0 hw hmn hS2 rfl in_0 tyX0_ok nmX0 ⟨by decide, by decide, rfl, rfl, rfl⟩ (fun _ => ⟨rfl, rfl⟩) kw_321 dX0_init_9 (fun H locs hw => ?_)
  rw [← pR_1 hS2] at hN
  refine lv_aload_n C0.hx C0.hb dX0_init_12 rfl (lv_at hl 0 rfl) ?_
  refine lv_bipush (v := (15 : Int32)) C0.hx C0.hb dX0_init_13 (by decide) ?_
  obtain ⟨S3, hS3, h⟩ := Option.bind_eq_some_iff.mp h
  refine q_newI (N := 15) C0 hw hN hb0 hS3 kw_153 rfl (by decide) (Nat.le_of_ble_eq_true rfl) (Nat.le_of_ble_eq_true rfl) dX0_init_15 (fun H hw hN => ?_)
  obtain ⟨S4, hS4, h⟩ := Option.bind_eq_some_iff.mp h
  refine q_putF C0 hw hmn hS4 rfl in_0 tyX0_ok nmX0 ⟨by decide, by decide, rfl, rfl, rfl⟩ (fun _ => ⟨rfl, rfl⟩) kw_322 dX0_init_17 (fun H locs hw => ?_)
  rw [← pR_1 hS4] at hN
  refine W.widen (k := 2) (n := 30) (Nat.le_of_ble_eq_true rfl) (Nat.le_of_ble_eq_true rfl) ?_
  obtain rfl := Option.some.inj h
  exact q_retN (S0 := S) C0 hw hlow (by omega) hr hlocks dX0_init_20
abbrev rm_X4_init : Room := { frames := 1, cells := 1, slots := 8, locals := 20 }
def f_X4_init (a0 : Nat) (S : Mem) : Option Mem :=
    (newA 10 (8 : Int32) S).bind fun S1 =>
      (pR 4 7 S1 a0 S.1).bind fun S2 =>
      some S2
set_option maxHeartbeats 4000000 in
set_option maxRecDepth 100000 in
theorem m_X4_init (l : Launch) (b0 : Nat) (D : va_G) (cy : Nat → ClassId) (S : Mem) (a0 : Nat) {q : Mem} (h : f_X4_init a0 S = some q) : Met l yX4_init [.code yX4_init cX4_init 1 none] rm_X4_init (PrM b0 D cy S [.ref (b0 + a0)]) (QpN b0 D cy S 1 q) 1 8 (fun q => b0 ≤ q) := by
  refine Met.ofW (cc := cX4_init) (maxL := 1) (ret := none) (by decide) rfl ?_
  intro p e s m args below meth c s₁ B hml hv
  obtain ⟨rfl, hz, h0, hP, hK, hT⟩ := hv
  have hlow := wl_low h0 hP
  have hN : s.heap.size + 0 ≤ b0 + S.1 := hz
  have hb0 : b0 ≤ s.heap.size := by omega
  have hmn : meth.name = "<init>" := (name_of_methodNamed B.named B.method).1
  have C0 : Cx p m c cX4_init 1 s (List.toArray [.ref (b0 + a0)]) RX4 D cy := ⟨⟨B.exec, B.bytes, hml, findClass_of_methodNamed B.named, fun w h => hT w h _⟩, hK, hT⟩
  have hr : meth.sig.returnType = none := B.returns
  have hlocks := B.notSynchronized
  have hw : Wd b0 D cy S s.heap s.heap [] := ⟨hP, va_S.rf⟩
  have hl := lv_entry ([.ref (b0 + a0)]) (n := 1) (Nat.le_of_ble_eq_true rfl)
  rw [lg_entry_eq]
  generalize (lg_sl ([.ref (b0 + a0)]) ++ List.replicate (1 - (lg_sl ([.ref (b0 + a0)])).length) Slot.unset).toArray = ls at hl ⊢
  have hl : lv_has ls 1 [(0, .ref (b0 + a0))] := hl
  rw [f_X4_init] at h
  show W p l e rm_X4_init s m _ below meth c s.heap [] 0 0 _ _
  refine lv_aload_n C0.hx C0.hb dX4_init_0 rfl (lv_at hl 0 rfl) ?_
  refine W.objInit C0.hx C0.hb C0.ho (C0.w kw_193) (C0.w kw_84) (C0.w kw_85) rfl (hl.1.trans C0.1.2.2.1.symm) rfl dX4_init_1 (Nat.le_of_ble_eq_true rfl) (Nat.le_of_ble_eq_true rfl) ?_
  refine W.eq (g2 := F0 m 4 ls []) rfl ?_
  refine lv_aload_n C0.hx C0.hb dX4_init_4 rfl (lv_at hl 0 rfl) ?_
  refine lv_bipush (v := (8 : Int32)) C0.hx C0.hb dX4_init_5 (by decide) ?_
  obtain ⟨S1, hS1, h⟩ := Option.bind_eq_some_iff.mp h
  refine q_newI (N := 8) C0 hw hN hb0 hS1 kw_153 rfl (by decide) (Nat.le_of_ble_eq_true rfl) (Nat.le_of_ble_eq_true rfl) dX4_init_7 (fun H hw hN => ?_)
  obtain ⟨S2, hS2, h⟩ := Option.bind_eq_some_iff.mp h
  refine q_putF C0 hw hmn hS2 rfl in_4 tyX4_ok nmX4 ⟨by decide, by decide, rfl, rfl, rfl⟩ (fun _ => ⟨rfl, rfl⟩) kw_213 dX4_init_9 (fun H locs hw => ?_)
  rw [← pR_1 hS2] at hN
  refine W.widen (k := 1) (n := 8) (Nat.le_of_ble_eq_true rfl) (Nat.le_of_ble_eq_true rfl) ?_
  obtain rfl := Option.some.inj h
  exact q_retN (S0 := S) C0 hw hlow (by omega) hr hlocks dX4_init_12
abbrev rm_X7_init : Room := { frames := 1, cells := 4, slots := 64, locals := 20 }
def f_X7_init (a0 : Nat) (S : Mem) : Option Mem :=
    (newA 10 (16 : Int32) S).bind fun S1 =>
      (pR 7 2 S1 a0 S.1).bind fun S2 =>
      (newA 10 (16 : Int32) S2).bind fun S3 =>
      (pR 7 3 S3 a0 S2.1).bind fun S4 =>
      (newA 10 (16 : Int32) S4).bind fun S5 =>
      (pR 7 4 S5 a0 S4.1).bind fun S6 =>
      (newA 10 (16 : Int32) S6).bind fun S7 =>
      (pR 7 5 S7 a0 S6.1).bind fun S8 =>
      some S8
set_option maxHeartbeats 4000000 in
set_option maxRecDepth 100000 in
theorem m_X7_init (l : Launch) (b0 : Nat) (D : va_G) (cy : Nat → ClassId) (S : Mem) (a0 : Nat) {q : Mem} (h : f_X7_init a0 S = some q) : Met l yX7_init [.code yX7_init cX7_init 1 none] rm_X7_init (PrM b0 D cy S [.ref (b0 + a0)]) (QpN b0 D cy S 4 q) 4 64 (fun q => b0 ≤ q) := by
  refine Met.ofW (cc := cX7_init) (maxL := 1) (ret := none) (by decide) rfl ?_
  intro p e s m args below meth c s₁ B hml hv
  obtain ⟨rfl, hz, h0, hP, hK, hT⟩ := hv
  have hlow := wl_low h0 hP
  have hN : s.heap.size + 0 ≤ b0 + S.1 := hz
  have hb0 : b0 ≤ s.heap.size := by omega
  have hmn : meth.name = "<init>" := (name_of_methodNamed B.named B.method).1
  have C0 : Cx p m c cX7_init 1 s (List.toArray [.ref (b0 + a0)]) RX7 D cy := ⟨⟨B.exec, B.bytes, hml, findClass_of_methodNamed B.named, fun w h => hT w h _⟩, hK, hT⟩
  have hr : meth.sig.returnType = none := B.returns
  have hlocks := B.notSynchronized
  have hw : Wd b0 D cy S s.heap s.heap [] := ⟨hP, va_S.rf⟩
  have hl := lv_entry ([.ref (b0 + a0)]) (n := 1) (Nat.le_of_ble_eq_true rfl)
  rw [lg_entry_eq]
  generalize (lg_sl ([.ref (b0 + a0)]) ++ List.replicate (1 - (lg_sl ([.ref (b0 + a0)])).length) Slot.unset).toArray = ls at hl ⊢
  have hl : lv_has ls 1 [(0, .ref (b0 + a0))] := hl
  rw [f_X7_init] at h
  show W p l e rm_X7_init s m _ below meth c s.heap [] 0 0 _ _
  refine lv_aload_n C0.hx C0.hb dX7_init_0 rfl (lv_at hl 0 rfl) ?_
  refine W.objInit C0.hx C0.hb C0.ho (C0.w kw_237) (C0.w kw_84) (C0.w kw_85) rfl (hl.1.trans C0.1.2.2.1.symm) rfl dX7_init_1 (Nat.le_of_ble_eq_true rfl) (Nat.le_of_ble_eq_true rfl) ?_
  refine W.eq (g2 := F0 m 4 ls []) rfl ?_
  refine lv_aload_n C0.hx C0.hb dX7_init_4 rfl (lv_at hl 0 rfl) ?_
  refine lv_bipush (v := (16 : Int32)) C0.hx C0.hb dX7_init_5 (by decide) ?_
  obtain ⟨S1, hS1, h⟩ := Option.bind_eq_some_iff.mp h
  refine q_newI (N := 16) C0 hw hN hb0 hS1 kw_153 rfl (by decide) (Nat.le_of_ble_eq_true rfl) (Nat.le_of_ble_eq_true rfl) dX7_init_7 (fun H hw hN => ?_)
  obtain ⟨S2, hS2, h⟩ := Option.bind_eq_some_iff.mp h
  refine q_putF C0 hw hmn hS2 rfl in_7 tyX7_ok nmX7 ⟨by decide, by decide, rfl, rfl, rfl⟩ (fun _ => ⟨rfl, rfl⟩) kw_241 dX7_init_9 (fun H locs hw => ?_)
  rw [← pR_1 hS2] at hN
  refine lv_aload_n C0.hx C0.hb dX7_init_12 rfl (lv_at hl 0 rfl) ?_
  refine lv_bipush (v := (16 : Int32)) C0.hx C0.hb dX7_init_13 (by decide) ?_
  obtain ⟨S3, hS3, h⟩ := Option.bind_eq_some_iff.mp h
  refine q_newI (N := 16) C0 hw hN hb0 hS3 kw_153 rfl (by decide) (Nat.le_of_ble_eq_true rfl) (Nat.le_of_ble_eq_true rfl) dX7_init_15 (fun H hw hN => ?_)
  obtain ⟨S4, hS4, h⟩ := Option.bind_eq_some_iff.mp h
  refine q_putF C0 hw hmn hS4 rfl in_7 tyX7_ok nmX7 ⟨by decide, by decide, rfl, rfl, rfl⟩ (fun _ => ⟨rfl, rfl⟩) kw_242 dX7_init_17 (fun H locs hw => ?_)
  rw [← pR_1 hS4] at hN
  refine lv_aload_n C0.hx C0.hb dX7_init_20 rfl (lv_at hl 0 rfl) ?_
  refine lv_bipush (v := (16 : Int32)) C0.hx C0.hb dX7_init_21 (by decide) ?_
  obtain ⟨S5, hS5, h⟩ := Option.bind_eq_some_iff.mp h
  refine q_newI (N := 16) C0 hw hN hb0 hS5 kw_153 rfl (by decide) (Nat.le_of_ble_eq_true rfl) (Nat.le_of_ble_eq_true rfl) dX7_init_23 (fun H hw hN => ?_)
  obtain ⟨S6, hS6, h⟩ := Option.bind_eq_some_iff.mp h
  refine q_putF C0 hw hmn hS6 rfl in_7 tyX7_ok nmX7 ⟨by decide, by decide, rfl, rfl, rfl⟩ (fun _ => ⟨rfl, rfl⟩) kw_243 dX7_init_25 (fun H locs hw => ?_)
  rw [← pR_1 hS6] at hN
  refine lv_aload_n C0.hx C0.hb dX7_init_28 rfl (lv_at hl 0 rfl) ?_
  refine lv_bipush (v := (16 : Int32)) C0.hx C0.hb dX7_init_29 (by decide) ?_
  obtain ⟨S7, hS7, h⟩ := Option.bind_eq_some_iff.mp h
  refine q_newI (N := 16) C0 hw hN hb0 hS7 kw_153 rfl (by decide) (Nat.le_of_ble_eq_true rfl) (Nat.le_of_ble_eq_true rfl) dX7_init_31 (fun H hw hN => ?_)
  obtain ⟨S8, hS8, h⟩ := Option.bind_eq_some_iff.mp h
  refine q_putF C0 hw hmn hS8 rfl in_7 tyX7_ok nmX7 ⟨by decide, by decide, rfl, rfl, rfl⟩ (fun _ => ⟨rfl, rfl⟩) kw_244 dX7_init_33 (fun H locs hw => ?_)
  rw [← pR_1 hS8] at hN
  refine W.widen (k := 4) (n := 64) (Nat.le_of_ble_eq_true rfl) (Nat.le_of_ble_eq_true rfl) ?_
  obtain rfl := Option.some.inj h
  exact q_retN (S0 := S) C0 hw hlow (by omega) hr hlocks dX7_init_36
abbrev rm_X5_init : Room := { frames := 2, cells := 9, slots := 100, locals := 40 }
def f_X5_init (a0 : Nat) (S : Mem) : Option Mem :=
    (newO 4 S).bind fun S1 =>
      (f_X4_init S.1 S1).bind fun S2 =>
      (pR 5 0 S2 a0 S.1).bind fun S3 =>
      (newO 7 S3).bind fun S4 =>
      (f_X7_init S3.1 S4).bind fun S5 =>
      (pR 5 1 S5 a0 S3.1).bind fun S6 =>
      (newA 10 (8 : Int32) S6).bind fun S7 =>
      (pR 5 6 S7 a0 S6.1).bind fun S8 =>
      (newA 10 (6 : Int32) S8).bind fun S9 =>
      (pR 5 7 S9 a0 S8.1).bind fun S10 =>
      some S10
set_option maxHeartbeats 4000000 in
set_option maxRecDepth 100000 in
theorem m_X5_init (l : Launch) (b0 : Nat) (D : va_G) (cy : Nat → ClassId) (S : Mem) (a0 : Nat) {q : Mem} (h : f_X5_init a0 S = some q) : Met l yX5_init [.code yX5_init cX5_init 1 none] rm_X5_init (PrM b0 D cy S [.ref (b0 + a0)]) (QpN b0 D cy S 9 q) 9 100 (fun q => b0 ≤ q) := by
  refine Met.ofW (cc := cX5_init) (maxL := 1) (ret := none) (by decide) rfl ?_
  intro p e s m args below meth c s₁ B hml hv
  obtain ⟨rfl, hz, h0, hP, hK, hT⟩ := hv
  have hlow := wl_low h0 hP
  have hN : s.heap.size + 0 ≤ b0 + S.1 := hz
  have hb0 : b0 ≤ s.heap.size := by omega
  have hmn : meth.name = "<init>" := (name_of_methodNamed B.named B.method).1
  have C0 : Cx p m c cX5_init 1 s (List.toArray [.ref (b0 + a0)]) RX5 D cy := ⟨⟨B.exec, B.bytes, hml, findClass_of_methodNamed B.named, fun w h => hT w h _⟩, hK, hT⟩
  have hr : meth.sig.returnType = none := B.returns
  have hlocks := B.notSynchronized
  have hw : Wd b0 D cy S s.heap s.heap [] := ⟨hP, va_S.rf⟩
  have hl := lv_entry ([.ref (b0 + a0)]) (n := 1) (Nat.le_of_ble_eq_true rfl)
  rw [lg_entry_eq]
  generalize (lg_sl ([.ref (b0 + a0)]) ++ List.replicate (1 - (lg_sl ([.ref (b0 + a0)])).length) Slot.unset).toArray = ls at hl ⊢
  have hl : lv_has ls 1 [(0, .ref (b0 + a0))] := hl
  rw [f_X5_init] at h
  show W p l e rm_X5_init s m _ below meth c s.heap [] 0 0 _ _
  refine lv_aload_n C0.hx C0.hb dX5_init_0 rfl (lv_at hl 0 rfl) ?_
  refine W.objInit C0.hx C0.hb C0.ho (C0.w kw_187) (C0.w kw_84) (C0.w kw_85) rfl (hl.1.trans C0.1.2.2.1.symm) rfl dX5_init_1 (Nat.le_of_ble_eq_true rfl) (Nat.le_of_ble_eq_true rfl) ?_
  refine W.eq (g2 := F0 m 4 ls []) rfl ?_
  refine lv_aload_n C0.hx C0.hb dX5_init_4 rfl (lv_at hl 0 rfl) ?_
  obtain ⟨S1, hS1, h⟩ := Option.bind_eq_some_iff.mp h
  refine q_newO C0 hw hN hb0 hS1 rfl in_4 tyX4_ok ⟨by decide, rfl⟩ df_4 kw_188 kw_189 kw_67 (Nat.le_of_ble_eq_true rfl) (Nat.le_of_ble_eq_true rfl) dX5_init_5 (fun H hw hN => ?_)
  refine lv_dup C0.hx C0.hb dX5_init_8 rfl ?_
  obtain ⟨S2, hS2, h⟩ := Option.bind_eq_some_iff.mp h
  refine q_callIN C0 hw hN (by omega) (m_X4_init l b0 D cy S1 S.1 hS2) kw_190 kw_191 kw_67 kw_192 ⟨rfl, rfl⟩ rfl (by decide +kernel) ⟨(Nat.le_of_ble_eq_true rfl), (Nat.le_of_ble_eq_true rfl)⟩ hl.1 (Nat.le_of_ble_eq_true rfl) dX5_init_9 ⟨(Nat.le_of_ble_eq_true rfl), (Nat.le_of_ble_eq_true rfl)⟩ (fun H locs hw hN => ?_)
  obtain ⟨S3, hS3, h⟩ := Option.bind_eq_some_iff.mp h
  refine q_putF C0 hw hmn hS3 rfl in_5 tyX5_ok nmX5 ⟨by decide, by decide, rfl, rfl, rfl⟩ (fun _ => ⟨rfl, rfl⟩) kw_258 dX5_init_12 (fun H locs hw => ?_)
  rw [← pR_1 hS3] at hN
  refine lv_aload_n C0.hx C0.hb dX5_init_15 rfl (lv_at hl 0 rfl) ?_
  obtain ⟨S4, hS4, h⟩ := Option.bind_eq_some_iff.mp h
  refine q_newO C0 hw hN hb0 hS4 rfl in_7 tyX7_ok ⟨by decide, rfl⟩ df_7 kw_232 kw_233 kw_68 (Nat.le_of_ble_eq_true rfl) (Nat.le_of_ble_eq_true rfl) dX5_init_16 (fun H hw hN => ?_)
  refine lv_dup C0.hx C0.hb dX5_init_19 rfl ?_
  obtain ⟨S5, hS5, h⟩ := Option.bind_eq_some_iff.mp h
  refine q_callIN C0 hw hN (by omega) (m_X7_init l b0 D cy S4 S3.1 hS5) kw_234 kw_235 kw_68 kw_236 ⟨rfl, rfl⟩ rfl (by decide +kernel) ⟨(Nat.le_of_ble_eq_true rfl), (Nat.le_of_ble_eq_true rfl)⟩ hl.1 (Nat.le_of_ble_eq_true rfl) dX5_init_20 ⟨(Nat.le_of_ble_eq_true rfl), (Nat.le_of_ble_eq_true rfl)⟩ (fun H locs hw hN => ?_)
  obtain ⟨S6, hS6, h⟩ := Option.bind_eq_some_iff.mp h
  refine q_putF C0 hw hmn hS6 rfl in_5 tyX5_ok nmX5 ⟨by decide, by decide, rfl, rfl, rfl⟩ (fun _ => ⟨rfl, rfl⟩) kw_260 dX5_init_23 (fun H locs hw => ?_)
  rw [← pR_1 hS6] at hN
  refine lv_aload_n C0.hx C0.hb dX5_init_26 rfl (lv_at hl 0 rfl) ?_
  refine lv_bipush (v := (8 : Int32)) C0.hx C0.hb dX5_init_27 (by decide) ?_
  obtain ⟨S7, hS7, h⟩ := Option.bind_eq_some_iff.mp h
  refine q_newI (N := 8) C0 hw hN hb0 hS7 kw_153 rfl (by decide) (Nat.le_of_ble_eq_true rfl) (Nat.le_of_ble_eq_true rfl) dX5_init_29 (fun H hw hN => ?_)
  obtain ⟨S8, hS8, h⟩ := Option.bind_eq_some_iff.mp h
  refine q_putF C0 hw hmn hS8 rfl in_5 tyX5_ok nmX5 ⟨by decide, by decide, rfl, rfl, rfl⟩ (fun _ => ⟨rfl, rfl⟩) kw_270 dX5_init_31 (fun H locs hw => ?_)
  rw [← pR_1 hS8] at hN
  refine lv_aload_n C0.hx C0.hb dX5_init_34 rfl (lv_at hl 0 rfl) ?_
  refine lv_bipush (v := (6 : Int32)) C0.hx C0.hb dX5_init_35 (by decide) ?_
  obtain ⟨S9, hS9, h⟩ := Option.bind_eq_some_iff.mp h
  refine q_newI (N := 6) C0 hw hN hb0 hS9 kw_153 rfl (by decide) (Nat.le_of_ble_eq_true rfl) (Nat.le_of_ble_eq_true rfl) dX5_init_37 (fun H hw hN => ?_)
  obtain ⟨S10, hS10, h⟩ := Option.bind_eq_some_iff.mp h
  refine q_putF C0 hw hmn hS10 rfl in_5 tyX5_ok nmX5 ⟨by decide, by decide, rfl, rfl, rfl⟩ (fun _ => ⟨rfl, rfl⟩) kw_272 dX5_init_39 (fun H locs hw => ?_)
  rw [← pR_1 hS10] at hN
  refine W.widen (k := 9) (n := 100) (Nat.le_of_ble_eq_true rfl) (Nat.le_of_ble_eq_true rfl) ?_
  obtain rfl := Option.some.inj h
  exact q_retN (S0 := S) C0 hw hlow (by omega) hr hlocks dX5_init_42
abbrev rm_X1_init : Room := { frames := 3, cells := 10, slots := 108, locals := 60 }
def f_X1_init (a0 : Nat) (S : Mem) : Option Mem :=
    (newO 5 S).bind fun S1 =>
      (f_X5_init S.1 S1).bind fun S2 =>
      (pR 1 2 S2 a0 S.1).bind fun S3 =>
      some S3
set_option maxHeartbeats 4000000 in
set_option maxRecDepth 100000 in
theorem m_X1_init (l : Launch) (b0 : Nat) (D : va_G) (cy : Nat → ClassId) (S : Mem) (a0 : Nat) {q : Mem} (h : f_X1_init a0 S = some q) : Met l yX1_init [.code yX1_init cX1_init 1 none] rm_X1_init (PrM b0 D cy S [.ref (b0 + a0)]) (QpN b0 D cy S 10 q) 10 108 (fun q => b0 ≤ q) := by
  refine Met.ofW (cc := cX1_init) (maxL := 1) (ret := none) (by decide) rfl ?_
  intro p e s m args below meth c s₁ B hml hv
  obtain ⟨rfl, hz, h0, hP, hK, hT⟩ := hv
  have hlow := wl_low h0 hP
  have hN : s.heap.size + 0 ≤ b0 + S.1 := hz
  have hb0 : b0 ≤ s.heap.size := by omega
  have hmn : meth.name = "<init>" := (name_of_methodNamed B.named B.method).1
  have C0 : Cx p m c cX1_init 1 s (List.toArray [.ref (b0 + a0)]) RX1 D cy := ⟨⟨B.exec, B.bytes, hml, findClass_of_methodNamed B.named, fun w h => hT w h _⟩, hK, hT⟩
  have hr : meth.sig.returnType = none := B.returns
  have hlocks := B.notSynchronized
  have hw : Wd b0 D cy S s.heap s.heap [] := ⟨hP, va_S.rf⟩
  have hl := lv_entry ([.ref (b0 + a0)]) (n := 1) (Nat.le_of_ble_eq_true rfl)
  rw [lg_entry_eq]
  generalize (lg_sl ([.ref (b0 + a0)]) ++ List.replicate (1 - (lg_sl ([.ref (b0 + a0)])).length) Slot.unset).toArray = ls at hl ⊢
  have hl : lv_has ls 1 [(0, .ref (b0 + a0))] := hl
  rw [f_X1_init] at h
  show W p l e rm_X1_init s m _ below meth c s.heap [] 0 0 _ _
  refine lv_aload_n C0.hx C0.hb dX1_init_0 rfl (lv_at hl 0 rfl) ?_
  refine W.objInit C0.hx C0.hb C0.ho (C0.w kw_336) (C0.w kw_84) (C0.w kw_85) rfl (hl.1.trans C0.1.2.2.1.symm) rfl dX1_init_1 (Nat.le_of_ble_eq_true rfl) (Nat.le_of_ble_eq_true rfl) ?_
  refine W.eq (g2 := F0 m 4 ls []) rfl ?_
  refine lv_aload_n C0.hx C0.hb dX1_init_4 rfl (lv_at hl 0 rfl) ?_
  obtain ⟨S1, hS1, h⟩ := Option.bind_eq_some_iff.mp h
  refine q_newO C0 hw hN hb0 hS1 rfl in_5 tyX5_ok ⟨by decide, rfl⟩ df_5 kw_337 kw_183 kw_66 (Nat.le_of_ble_eq_true rfl) (Nat.le_of_ble_eq_true rfl) dX1_init_5 (fun H hw hN => ?_)
  refine lv_dup C0.hx C0.hb dX1_init_8 rfl ?_
  obtain ⟨S2, hS2, h⟩ := Option.bind_eq_some_iff.mp h
  refine q_callIN C0 hw hN (by omega) (m_X5_init l b0 D cy S1 S.1 hS2) kw_338 kw_185 kw_66 kw_186 ⟨rfl, rfl⟩ rfl (by decide +kernel) ⟨(Nat.le_of_ble_eq_true rfl), (Nat.le_of_ble_eq_true rfl)⟩ hl.1 (Nat.le_of_ble_eq_true rfl) dX1_init_9 ⟨(Nat.le_of_ble_eq_true rfl), (Nat.le_of_ble_eq_true rfl)⟩ (fun H locs hw hN => ?_)
  obtain ⟨S3, hS3, h⟩ := Option.bind_eq_some_iff.mp h
  refine q_putF C0 hw hmn hS3 rfl in_1 tyX1_ok nmX1 ⟨by decide, by decide, rfl, rfl, rfl⟩ (fun _ => ⟨rfl, rfl⟩) kw_341 dX1_init_12 (fun H locs hw => ?_)
  rw [← pR_1 hS3] at hN
  refine W.widen (k := 10) (n := 108) (Nat.le_of_ble_eq_true rfl) (Nat.le_of_ble_eq_true rfl) ?_
  obtain rfl := Option.some.inj h
  exact q_retN (S0 := S) C0 hw hlow (by omega) hr hlocks dX1_init_15
abbrev rm_X2_init : Room := { frames := 1, cells := 4, slots := 36, locals := 20 }
def f_X2_init (a0 : Nat) (S : Mem) : Option Mem :=
    (newA 10 (12 : Int32) S).bind fun S1 =>
      (pR 2 7 S1 a0 S.1).bind fun S2 =>
      (newA 10 (12 : Int32) S2).bind fun S3 =>
      (pR 2 8 S3 a0 S2.1).bind fun S4 =>
      (newA 10 (6 : Int32) S4).bind fun S5 =>
      (pR 2 9 S5 a0 S4.1).bind fun S6 =>
      (newA 10 (6 : Int32) S6).bind fun S7 =>
      (pR 2 10 S7 a0 S6.1).bind fun S8 =>
      some S8
set_option maxHeartbeats 4000000 in
set_option maxRecDepth 100000 in
theorem m_X2_init (l : Launch) (b0 : Nat) (D : va_G) (cy : Nat → ClassId) (S : Mem) (a0 : Nat) {q : Mem} (h : f_X2_init a0 S = some q) : Met l yX2_init [.code yX2_init cX2_init 1 none] rm_X2_init (PrM b0 D cy S [.ref (b0 + a0)]) (QpN b0 D cy S 4 q) 4 36 (fun q => b0 ≤ q) := by
  refine Met.ofW (cc := cX2_init) (maxL := 1) (ret := none) (by decide) rfl ?_
  intro p e s m args below meth c s₁ B hml hv
  obtain ⟨rfl, hz, h0, hP, hK, hT⟩ := hv
  have hlow := wl_low h0 hP
  have hN : s.heap.size + 0 ≤ b0 + S.1 := hz
  have hb0 : b0 ≤ s.heap.size := by omega
  have hmn : meth.name = "<init>" := (name_of_methodNamed B.named B.method).1
  have C0 : Cx p m c cX2_init 1 s (List.toArray [.ref (b0 + a0)]) RX2 D cy := ⟨⟨B.exec, B.bytes, hml, findClass_of_methodNamed B.named, fun w h => hT w h _⟩, hK, hT⟩
  have hr : meth.sig.returnType = none := B.returns
  have hlocks := B.notSynchronized
  have hw : Wd b0 D cy S s.heap s.heap [] := ⟨hP, va_S.rf⟩
  have hl := lv_entry ([.ref (b0 + a0)]) (n := 1) (Nat.le_of_ble_eq_true rfl)
  rw [lg_entry_eq]
  generalize (lg_sl ([.ref (b0 + a0)]) ++ List.replicate (1 - (lg_sl ([.ref (b0 + a0)])).length) Slot.unset).toArray = ls at hl ⊢
  have hl : lv_has ls 1 [(0, .ref (b0 + a0))] := hl
  rw [f_X2_init] at h
  show W p l e rm_X2_init s m _ below meth c s.heap [] 0 0 _ _
  refine lv_aload_n C0.hx C0.hb dX2_init_0 rfl (lv_at hl 0 rfl) ?_
  refine W.objInit C0.hx C0.hb C0.ho (C0.w kw_97) (C0.w kw_84) (C0.w kw_85) rfl (hl.1.trans C0.1.2.2.1.symm) rfl dX2_init_1 (Nat.le_of_ble_eq_true rfl) (Nat.le_of_ble_eq_true rfl) ?_
  refine W.eq (g2 := F0 m 4 ls []) rfl ?_
  refine lv_aload_n C0.hx C0.hb dX2_init_4 rfl (lv_at hl 0 rfl) ?_
  refine lv_bipush (v := (12 : Int32)) C0.hx C0.hb dX2_init_5 (by decide) ?_
  obtain ⟨S1, hS1, h⟩ := Option.bind_eq_some_iff.mp h
  refine q_newI (N := 12) C0 hw hN hb0 hS1 kw_153 rfl (by decide) (Nat.le_of_ble_eq_true rfl) (Nat.le_of_ble_eq_true rfl) dX2_init_7 (fun H hw hN => ?_)
  obtain ⟨S2, hS2, h⟩ := Option.bind_eq_some_iff.mp h
  refine q_putF C0 hw hmn hS2 rfl in_2 tyX2_ok nmX2 ⟨by decide, by decide, rfl, rfl, rfl⟩ (fun _ => ⟨rfl, rfl⟩) kw_119 dX2_init_9 (fun H locs hw => ?_)
  rw [← pR_1 hS2] at hN
  refine lv_aload_n C0.hx C0.hb dX2_init_12 rfl (lv_at hl 0 rfl) ?_
  refine lv_bipush (v := (12 : Int32)) C0.hx C0.hb dX2_init_13 (by decide) ?_
  obtain ⟨S3, hS3, h⟩ := Option.bind_eq_some_iff.mp h
  refine q_newI (N := 12) C0 hw hN hb0 hS3 kw_153 rfl (by decide) (Nat.le_of_ble_eq_true rfl) (Nat.le_of_ble_eq_true rfl) dX2_init_15 (fun H hw hN => ?_)
  obtain ⟨S4, hS4, h⟩ := Option.bind_eq_some_iff.mp h
  refine q_putF C0 hw hmn hS4 rfl in_2 tyX2_ok nmX2 ⟨by decide, by decide, rfl, rfl, rfl⟩ (fun _ => ⟨rfl, rfl⟩) kw_122 dX2_init_17 (fun H locs hw => ?_)
  rw [← pR_1 hS4] at hN
  refine lv_aload_n C0.hx C0.hb dX2_init_20 rfl (lv_at hl 0 rfl) ?_
  refine lv_bipush (v := (6 : Int32)) C0.hx C0.hb dX2_init_21 (by decide) ?_
  obtain ⟨S5, hS5, h⟩ := Option.bind_eq_some_iff.mp h
  refine q_newI (N := 6) C0 hw hN hb0 hS5 kw_153 rfl (by decide) (Nat.le_of_ble_eq_true rfl) (Nat.le_of_ble_eq_true rfl) dX2_init_23 (fun H hw hN => ?_)
  obtain ⟨S6, hS6, h⟩ := Option.bind_eq_some_iff.mp h
  refine q_putF C0 hw hmn hS6 rfl in_2 tyX2_ok nmX2 ⟨by decide, by decide, rfl, rfl, rfl⟩ (fun _ => ⟨rfl, rfl⟩) kw_125 dX2_init_25 (fun H locs hw => ?_)
  rw [← pR_1 hS6] at hN
  refine lv_aload_n C0.hx C0.hb dX2_init_28 rfl (lv_at hl 0 rfl) ?_
  refine lv_bipush (v := (6 : Int32)) C0.hx C0.hb dX2_init_29 (by decide) ?_
  obtain ⟨S7, hS7, h⟩ := Option.bind_eq_some_iff.mp h
  refine q_newI (N := 6) C0 hw hN hb0 hS7 kw_153 rfl (by decide) (Nat.le_of_ble_eq_true rfl) (Nat.le_of_ble_eq_true rfl) dX2_init_31 (fun H hw hN => ?_)
  obtain ⟨S8, hS8, h⟩ := Option.bind_eq_some_iff.mp h
  refine q_putF C0 hw hmn hS8 rfl in_2 tyX2_ok nmX2 ⟨by decide, by decide, rfl, rfl, rfl⟩ (fun _ => ⟨rfl, rfl⟩) kw_127 dX2_init_33 (fun H locs hw => ?_)
  rw [← pR_1 hS8] at hN
  refine W.widen (k := 4) (n := 36) (Nat.le_of_ble_eq_true rfl) (Nat.le_of_ble_eq_true rfl) ?_
  obtain rfl := Option.some.inj h
  exact q_retN (S0 := S) C0 hw hlow (by omega) hr hlocks dX2_init_36
abbrev rm_X3_init : Room := { frames := 3, cells := 161, slots := 1744, locals := 60 }
def f_X3_init (a0 : Nat) (S : Mem) : Option Mem :=
    (newA 14 (16 : Int32) S).bind fun S1 =>
      (pR 3 2 S1 a0 S.1).bind fun S2 =>
      (gR 3 2 S2 a0).bind fun r3 =>
      (newO 5 S2).bind fun S4 =>
      (f_X5_init S2.1 S4).bind fun S5 =>
      (stR 14 5 S5 r3 (0 : Int32) S2.1).bind fun S6 =>
      (gR 3 2 S6 a0).bind fun r7 =>
      (newO 5 S6).bind fun S8 =>
      (f_X5_init S6.1 S8).bind fun S9 =>
      (stR 14 5 S9 r7 (1 : Int32) S6.1).bind fun S10 =>
      (gR 3 2 S10 a0).bind fun r11 =>
      (newO 5 S10).bind fun S12 =>
      (f_X5_init S10.1 S12).bind fun S13 =>
      (stR 14 5 S13 r11 (2 : Int32) S10.1).bind fun S14 =>
      (gR 3 2 S14 a0).bind fun r15 =>
      (newO 5 S14).bind fun S16 =>
      (f_X5_init S14.1 S16).bind fun S17 =>
      (stR 14 5 S17 r15 (3 : Int32) S14.1).bind fun S18 =>
      (gR 3 2 S18 a0).bind fun r19 =>
      (newO 5 S18).bind fun S20 =>
      (f_X5_init S18.1 S20).bind fun S21 =>
      (stR 14 5 S21 r19 (4 : Int32) S18.1).bind fun S22 =>
      (gR 3 2 S22 a0).bind fun r23 =>
      (newO 5 S22).bind fun S24 =>
      (f_X5_init S22.1 S24).bind fun S25 =>
      (stR 14 5 S25 r23 (5 : Int32) S22.1).bind fun S26 =>
      (gR 3 2 S26 a0).bind fun r27 =>
      (newO 5 S26).bind fun S28 =>
      (f_X5_init S26.1 S28).bind fun S29 =>
      (stR 14 5 S29 r27 (6 : Int32) S26.1).bind fun S30 =>
      (gR 3 2 S30 a0).bind fun r31 =>
      (newO 5 S30).bind fun S32 =>
      (f_X5_init S30.1 S32).bind fun S33 =>
      (stR 14 5 S33 r31 (7 : Int32) S30.1).bind fun S34 =>
      (gR 3 2 S34 a0).bind fun r35 =>
      (newO 5 S34).bind fun S36 =>
      (f_X5_init S34.1 S36).bind fun S37 =>
      (stR 14 5 S37 r35 (8 : Int32) S34.1).bind fun S38 =>
      (gR 3 2 S38 a0).bind fun r39 =>
      (newO 5 S38).bind fun S40 =>
      (f_X5_init S38.1 S40).bind fun S41 =>
      (stR 14 5 S41 r39 (9 : Int32) S38.1).bind fun S42 =>
      (gR 3 2 S42 a0).bind fun r43 =>
      (newO 5 S42).bind fun S44 =>
      (f_X5_init S42.1 S44).bind fun S45 =>
      (stR 14 5 S45 r43 (10 : Int32) S42.1).bind fun S46 =>
      (gR 3 2 S46 a0).bind fun r47 =>
      (newO 5 S46).bind fun S48 =>
      (f_X5_init S46.1 S48).bind fun S49 =>
      (stR 14 5 S49 r47 (11 : Int32) S46.1).bind fun S50 =>
      (gR 3 2 S50 a0).bind fun r51 =>
      (newO 5 S50).bind fun S52 =>
      (f_X5_init S50.1 S52).bind fun S53 =>
      (stR 14 5 S53 r51 (12 : Int32) S50.1).bind fun S54 =>
      (gR 3 2 S54 a0).bind fun r55 =>
      (newO 5 S54).bind fun S56 =>
      (f_X5_init S54.1 S56).bind fun S57 =>
      (stR 14 5 S57 r55 (13 : Int32) S54.1).bind fun S58 =>
      (gR 3 2 S58 a0).bind fun r59 =>
      (newO 5 S58).bind fun S60 =>
      (f_X5_init S58.1 S60).bind fun S61 =>
      (stR 14 5 S61 r59 (14 : Int32) S58.1).bind fun S62 =>
      (gR 3 2 S62 a0).bind fun r63 =>
      (newO 5 S62).bind fun S64 =>
      (f_X5_init S62.1 S64).bind fun S65 =>
      (stR 14 5 S65 r63 (15 : Int32) S62.1).bind fun S66 =>
      some S66
set_option maxHeartbeats 4000000 in
set_option maxRecDepth 100000 in
theorem m_X3_init (l : Launch) (b0 : Nat) (D : va_G) (cy : Nat → ClassId) (S : Mem) (a0 : Nat) {q : Mem} (h : f_X3_init a0 S = some q) : Met l yX3_init [.code yX3_init cX3_init 2 none] rm_X3_init (PrM b0 D cy S [.ref (b0 + a0)]) (QpN b0 D cy S 161 q) 161 1744 (fun q => b0 ≤ q) := by
  refine Met.ofW (cc := cX3_init) (maxL := 2) (ret := none) (by decide) rfl ?_
  intro p e s m args below meth c s₁ B hml hv
  obtain ⟨rfl, hz, h0, hP, hK, hT⟩ := hv
  have hlow := wl_low h0 hP
  have hN : s.heap.size + 0 ≤ b0 + S.1 := hz
  have hb0 : b0 ≤ s.heap.size := by omega
  have hmn : meth.name = "<init>" := (name_of_methodNamed B.named B.method).1
  have C0 : Cx p m c cX3_init 2 s (List.toArray [.ref (b0 + a0)]) RX3 D cy := ⟨⟨B.exec, B.bytes, hml, findClass_of_methodNamed B.named, fun w h => hT w h _⟩, hK, hT⟩
  have hr : meth.sig.returnType = none := B.returns
  have hlocks := B.notSynchronized
  have hw : Wd b0 D cy S s.heap s.heap [] := ⟨hP, va_S.rf⟩
  have hl := lv_entry ([.ref (b0 + a0)]) (n := 2) (Nat.le_of_ble_eq_true rfl)
  rw [lg_entry_eq]
  generalize (lg_sl ([.ref (b0 + a0)]) ++ List.replicate (2 - (lg_sl ([.ref (b0 + a0)])).length) Slot.unset).toArray = ls at hl ⊢
  have hl : lv_has ls 2 [(0, .ref (b0 + a0))] := hl
  rw [f_X3_init] at h
  show W p l e rm_X3_init s m _ below meth c s.heap [] 0 0 _ _
  refine lv_aload_n C0.hx C0.hb dX3_init_0 rfl (lv_at hl 0 rfl) ?_
  refine W.objInit C0.hx C0.hb C0.ho (C0.w kw_296) (C0.w kw_84) (C0.w kw_85) rfl (hl.1.trans C0.1.2.2.1.symm) rfl dX3_init_1 (Nat.le_of_ble_eq_true rfl) (Nat.le_of_ble_eq_true rfl) ?_
  refine W.eq (g2 := F0 m 4 ls []) rfl ?_
  refine lv_aload_n C0.hx C0.hb dX3_init_4 rfl (lv_at hl 0 rfl) ?_
  refine lv_bipush (v := (16 : Int32)) C0.hx C0.hb dX3_init_5 (by decide) ?_
  obtain ⟨S1, hS1, h⟩ := Option.bind_eq_some_iff.mp h
  refine q_new14 (N := 16) C0 hw hN hb0 hS1 kw_297 kw_298 rfl (by decide) (Nat.le_of_ble_eq_true rfl) (Nat.le_of_ble_eq_true rfl) dX3_init_7 (fun H hw hN => ?_)
  obtain ⟨S2, hS2, h⟩ := Option.bind_eq_some_iff.mp h
  refine q_putF C0 hw hmn hS2 rfl in_3 tyX3_ok nmX3 ⟨by decide, by decide, rfl, rfl, rfl⟩ (fun _ => ⟨rfl, rfl⟩) kw_303 dX3_init_10 (fun H locs hw => ?_)
  rw [← pR_1 hS2] at hN
  refine lv_iconst (v := (0 : Int32)) C0.hx C0.hb dX3_init_13 (by decide) ?_
  refine lv_istore_n (lv' := [(1, .int (0 : Int32)), (0, .ref (b0 + a0))]) C0.hx C0.hb dX3_init_14 rfl hl (by decide) rfl (fun ls hl => ?_)
  refine lv_iload_n C0.hx C0.hb dX3_init_15 rfl (lv_at hl 0 rfl) ?_
  refine lv_bipush (v := (16 : Int32)) C0.hx C0.hb dX3_init_16 (by decide) ?_
  refine lv_icmp_ge (tgt := 40) C0.hx C0.hb dX3_init_18 (by decide) (fun hc => absurd hc (by decide)) (fun _ => ?_)
  refine lv_aload_n C0.hx C0.hb dX3_init_21 rfl (lv_at hl 1 rfl) ?_
  obtain ⟨r3, hr3, h⟩ := Option.bind_eq_some_iff.mp h
  refine q_getR C0 hw hr3 rfl in_3 (by decide) kw_303 dX3_init_22 ?_
  refine lv_iload_n C0.hx C0.hb dX3_init_25 rfl (lv_at hl 0 rfl) ?_
  obtain ⟨S4, hS4, h⟩ := Option.bind_eq_some_iff.mp h
  refine q_newO C0 hw hN hb0 hS4 rfl in_5 tyX5_ok ⟨by decide, rfl⟩ df_5 kw_297 kw_183 kw_66 (Nat.le_of_ble_eq_true rfl) (Nat.le_of_ble_eq_true rfl) dX3_init_26 (fun H hw hN => ?_)
  refine lv_dup C0.hx C0.hb dX3_init_29 rfl ?_
  obtain ⟨S5, hS5, h⟩ := Option.bind_eq_some_iff.mp h
  refine q_callIN C0 hw hN (by omega) (m_X5_init l b0 D cy S4 S2.1 hS5) kw_299 kw_185 kw_66 kw_186 ⟨rfl, rfl⟩ rfl (by decide +kernel) ⟨(Nat.le_of_ble_eq_true rfl), (Nat.le_of_ble_eq_true rfl)⟩ hl.1 (Nat.le_of_ble_eq_true rfl) dX3_init_30 ⟨(Nat.le_of_ble_eq_true rfl), (Nat.le_of_ble_eq_true rfl)⟩ (fun H locs hw hN => ?_)
  obtain ⟨S6, hS6, h⟩ := Option.bind_eq_some_iff.mp h
  refine q_stR14 C0 hw hS6 dX3_init_33 (fun H locs hw => ?_)
  rw [← stR_1 hS6] at hN
  refine lv_iinc (v := (1 : Int32)) (lv' := [(1, .int (1 : Int32)), (0, .ref (b0 + a0))]) C0.hx C0.hb dX3_init_34 hl (k := 0) rfl (by decide) (by decide) rfl (fun ls hl => ?_)
  refine lv_goto (tgt := 15) C0.hx C0.hb dX3_init_37 (by decide) ?_
  refine lv_iload_n C0.hx C0.hb dX3_init_15 rfl (lv_at hl 0 rfl) ?_
  refine lv_bipush (v := (16 : Int32)) C0.hx C0.hb dX3_init_16 (by decide) ?_
  refine lv_icmp_ge (tgt := 40) C0.hx C0.hb dX3_init_18 (by decide) (fun hc => absurd hc (by decide)) (fun _ => ?_)
  refine lv_aload_n C0.hx C0.hb dX3_init_21 rfl (lv_at hl 1 rfl) ?_
  obtain ⟨r7, hr7, h⟩ := Option.bind_eq_some_iff.mp h
  refine q_getR C0 hw hr7 rfl in_3 (by decide) kw_303 dX3_init_22 ?_
  refine lv_iload_n C0.hx C0.hb dX3_init_25 rfl (lv_at hl 0 rfl) ?_
  obtain ⟨S8, hS8, h⟩ := Option.bind_eq_some_iff.mp h
  refine q_newO C0 hw hN hb0 hS8 rfl in_5 tyX5_ok ⟨by decide, rfl⟩ df_5 kw_297 kw_183 kw_66 (Nat.le_of_ble_eq_true rfl) (Nat.le_of_ble_eq_true rfl) dX3_init_26 (fun H hw hN => ?_)
  refine lv_dup C0.hx C0.hb dX3_init_29 rfl ?_
  obtain ⟨S9, hS9, h⟩ := Option.bind_eq_some_iff.mp h
  refine q_callIN C0 hw hN (by omega) (m_X5_init l b0 D cy S8 S6.1 hS9) kw_299 kw_185 kw_66 kw_186 ⟨rfl, rfl⟩ rfl (by decide +kernel) ⟨(Nat.le_of_ble_eq_true rfl), (Nat.le_of_ble_eq_true rfl)⟩ hl.1 (Nat.le_of_ble_eq_true rfl) dX3_init_30 ⟨(Nat.le_of_ble_eq_true rfl), (Nat.le_of_ble_eq_true rfl)⟩ (fun H locs hw hN => ?_)
  obtain ⟨S10, hS10, h⟩ := Option.bind_eq_some_iff.mp h
  refine q_stR14 C0 hw hS10 dX3_init_33 (fun H locs hw => ?_)
  rw [← stR_1 hS10] at hN
  refine lv_iinc (v := (2 : Int32)) (lv' := [(1, .int (2 : Int32)), (0, .ref (b0 + a0))]) C0.hx C0.hb dX3_init_34 hl (k := 0) rfl (by decide) (by decide) rfl (fun ls hl => ?_)
  refine lv_goto (tgt := 15) C0.hx C0.hb dX3_init_37 (by decide) ?_
  refine lv_iload_n C0.hx C0.hb dX3_init_15 rfl (lv_at hl 0 rfl) ?_
  refine lv_bipush (v := (16 : Int32)) C0.hx C0.hb dX3_init_16 (by decide) ?_
  refine lv_icmp_ge (tgt := 40) C0.hx C0.hb dX3_init_18 (by decide) (fun hc => absurd hc (by decide)) (fun _ => ?_)
  refine lv_aload_n C0.hx C0.hb dX3_init_21 rfl (lv_at hl 1 rfl) ?_
  obtain ⟨r11, hr11, h⟩ := Option.bind_eq_some_iff.mp h
  refine q_getR C0 hw hr11 rfl in_3 (by decide) kw_303 dX3_init_22 ?_
  refine lv_iload_n C0.hx C0.hb dX3_init_25 rfl (lv_at hl 0 rfl) ?_
  obtain ⟨S12, hS12, h⟩ := Option.bind_eq_some_iff.mp h
  refine q_newO C0 hw hN hb0 hS12 rfl in_5 tyX5_ok ⟨by decide, rfl⟩ df_5 kw_297 kw_183 kw_66 (Nat.le_of_ble_eq_true rfl) (Nat.le_of_ble_eq_true rfl) dX3_init_26 (fun H hw hN => ?_)
  refine lv_dup C0.hx C0.hb dX3_init_29 rfl ?_
  obtain ⟨S13, hS13, h⟩ := Option.bind_eq_some_iff.mp h
  refine q_callIN C0 hw hN (by omega) (m_X5_init l b0 D cy S12 S10.1 hS13) kw_299 kw_185 kw_66 kw_186 ⟨rfl, rfl⟩ rfl (by decide +kernel) ⟨(Nat.le_of_ble_eq_true rfl), (Nat.le_of_ble_eq_true rfl)⟩ hl.1 (Nat.le_of_ble_eq_true rfl) dX3_init_30 ⟨(Nat.le_of_ble_eq_true rfl), (Nat.le_of_ble_eq_true rfl)⟩ (fun H locs hw hN => ?_)
  obtain ⟨S14, hS14, h⟩ := Option.bind_eq_some_iff.mp h
  refine q_stR14 C0 hw hS14 dX3_init_33 (fun H locs hw => ?_)
  rw [← stR_1 hS14] at hN
  refine lv_iinc (v := (3 : Int32)) (lv' := [(1, .int (3 : Int32)), (0, .ref (b0 + a0))]) C0.hx C0.hb dX3_init_34 hl (k := 0) rfl (by decide) (by decide) rfl (fun ls hl => ?_)
  refine lv_goto (tgt := 15) C0.hx C0.hb dX3_init_37 (by decide) ?_
  refine lv_iload_n C0.hx C0.hb dX3_init_15 rfl (lv_at hl 0 rfl) ?_
  refine lv_bipush (v := (16 : Int32)) C0.hx C0.hb dX3_init_16 (by decide) ?_
  refine lv_icmp_ge (tgt := 40) C0.hx C0.hb dX3_init_18 (by decide) (fun hc => absurd hc (by decide)) (fun _ => ?_)
  refine lv_aload_n C0.hx C0.hb dX3_init_21 rfl (lv_at hl 1 rfl) ?_
  obtain ⟨r15, hr15, h⟩ := Option.bind_eq_some_iff.mp h
  refine q_getR C0 hw hr15 rfl in_3 (by decide) kw_303 dX3_init_22 ?_
  refine lv_iload_n C0.hx C0.hb dX3_init_25 rfl (lv_at hl 0 rfl) ?_
  obtain ⟨S16, hS16, h⟩ := Option.bind_eq_some_iff.mp h
  refine q_newO C0 hw hN hb0 hS16 rfl in_5 tyX5_ok ⟨by decide, rfl⟩ df_5 kw_297 kw_183 kw_66 (Nat.le_of_ble_eq_true rfl) (Nat.le_of_ble_eq_true rfl) dX3_init_26 (fun H hw hN => ?_)
  refine lv_dup C0.hx C0.hb dX3_init_29 rfl ?_
  obtain ⟨S17, hS17, h⟩ := Option.bind_eq_some_iff.mp h
  refine q_callIN C0 hw hN (by omega) (m_X5_init l b0 D cy S16 S14.1 hS17) kw_299 kw_185 kw_66 kw_186 ⟨rfl, rfl⟩ rfl (by decide +kernel) ⟨(Nat.le_of_ble_eq_true rfl), (Nat.le_of_ble_eq_true rfl)⟩ hl.1 (Nat.le_of_ble_eq_true rfl) dX3_init_30 ⟨(Nat.le_of_ble_eq_true rfl), (Nat.le_of_ble_eq_true rfl)⟩ (fun H locs hw hN => ?_)
  obtain ⟨S18, hS18, h⟩ := Option.bind_eq_some_iff.mp h
  refine q_stR14 C0 hw hS18 dX3_init_33 (fun H locs hw => ?_)
  rw [← stR_1 hS18] at hN
  refine lv_iinc (v := (4 : Int32)) (lv' := [(1, .int (4 : Int32)), (0, .ref (b0 + a0))]) C0.hx C0.hb dX3_init_34 hl (k := 0) rfl (by decide) (by decide) rfl (fun ls hl => ?_)
  refine lv_goto (tgt := 15) C0.hx C0.hb dX3_init_37 (by decide) ?_
  refine lv_iload_n C0.hx C0.hb dX3_init_15 rfl (lv_at hl 0 rfl) ?_
  refine lv_bipush (v := (16 : Int32)) C0.hx C0.hb dX3_init_16 (by decide) ?_
  refine lv_icmp_ge (tgt := 40) C0.hx C0.hb dX3_init_18 (by decide) (fun hc => absurd hc (by decide)) (fun _ => ?_)
  refine lv_aload_n C0.hx C0.hb dX3_init_21 rfl (lv_at hl 1 rfl) ?_
  obtain ⟨r19, hr19, h⟩ := Option.bind_eq_some_iff.mp h
  refine q_getR C0 hw hr19 rfl in_3 (by decide) kw_303 dX3_init_22 ?_
  refine lv_iload_n C0.hx C0.hb dX3_init_25 rfl (lv_at hl 0 rfl) ?_
  obtain ⟨S20, hS20, h⟩ := Option.bind_eq_some_iff.mp h
  refine q_newO C0 hw hN hb0 hS20 rfl in_5 tyX5_ok ⟨by decide, rfl⟩ df_5 kw_297 kw_183 kw_66 (Nat.le_of_ble_eq_true rfl) (Nat.le_of_ble_eq_true rfl) dX3_init_26 (fun H hw hN => ?_)
  refine lv_dup C0.hx C0.hb dX3_init_29 rfl ?_
  obtain ⟨S21, hS21, h⟩ := Option.bind_eq_some_iff.mp h
  refine q_callIN C0 hw hN (by omega) (m_X5_init l b0 D cy S20 S18.1 hS21) kw_299 kw_185 kw_66 kw_186 ⟨rfl, rfl⟩ rfl (by decide +kernel) ⟨(Nat.le_of_ble_eq_true rfl), (Nat.le_of_ble_eq_true rfl)⟩ hl.1 (Nat.le_of_ble_eq_true rfl) dX3_init_30 ⟨(Nat.le_of_ble_eq_true rfl), (Nat.le_of_ble_eq_true rfl)⟩ (fun H locs hw hN => ?_)
  obtain ⟨S22, hS22, h⟩ := Option.bind_eq_some_iff.mp h
  refine q_stR14 C0 hw hS22 dX3_init_33 (fun H locs hw => ?_)
  rw [← stR_1 hS22] at hN
  refine lv_iinc (v := (5 : Int32)) (lv' := [(1, .int (5 : Int32)), (0, .ref (b0 + a0))]) C0.hx C0.hb dX3_init_34 hl (k := 0) rfl (by decide) (by decide) rfl (fun ls hl => ?_)
  refine lv_goto (tgt := 15) C0.hx C0.hb dX3_init_37 (by decide) ?_
  refine lv_iload_n C0.hx C0.hb dX3_init_15 rfl (lv_at hl 0 rfl) ?_
  refine lv_bipush (v := (16 : Int32)) C0.hx C0.hb dX3_init_16 (by decide) ?_
  refine lv_icmp_ge (tgt := 40) C0.hx C0.hb dX3_init_18 (by decide) (fun hc => absurd hc (by decide)) (fun _ => ?_)
  refine lv_aload_n C0.hx C0.hb dX3_init_21 rfl (lv_at hl 1 rfl) ?_
  obtain ⟨r23, hr23, h⟩ := Option.bind_eq_some_iff.mp h
  refine q_getR C0 hw hr23 rfl in_3 (by decide) kw_303 dX3_init_22 ?_
  refine lv_iload_n C0.hx C0.hb dX3_init_25 rfl (lv_at hl 0 rfl) ?_
  obtain ⟨S24, hS24, h⟩ := Option.bind_eq_some_iff.mp h
  refine q_newO C0 hw hN hb0 hS24 rfl in_5 tyX5_ok ⟨by decide, rfl⟩ df_5 kw_297 kw_183 kw_66 (Nat.le_of_ble_eq_true rfl) (Nat.le_of_ble_eq_true rfl) dX3_init_26 (fun H hw hN => ?_)
  refine lv_dup C0.hx C0.hb dX3_init_29 rfl ?_
  obtain ⟨S25, hS25, h⟩ := Option.bind_eq_some_iff.mp h
  refine q_callIN C0 hw hN (by omega) (m_X5_init l b0 D cy S24 S22.1 hS25) kw_299 kw_185 kw_66 kw_186 ⟨rfl, rfl⟩ rfl (by decide +kernel) ⟨(Nat.le_of_ble_eq_true rfl), (Nat.le_of_ble_eq_true rfl)⟩ hl.1 (Nat.le_of_ble_eq_true rfl) dX3_init_30 ⟨(Nat.le_of_ble_eq_true rfl), (Nat.le_of_ble_eq_true rfl)⟩ (fun H locs hw hN => ?_)
  obtain ⟨S26, hS26, h⟩ := Option.bind_eq_some_iff.mp h
  refine q_stR14 C0 hw hS26 dX3_init_33 (fun H locs hw => ?_)
  rw [← stR_1 hS26] at hN
  refine lv_iinc (v := (6 : Int32)) (lv' := [(1, .int (6 : Int32)), (0, .ref (b0 + a0))]) C0.hx C0.hb dX3_init_34 hl (k := 0) rfl (by decide) (by decide) rfl (fun ls hl => ?_)
  refine lv_goto (tgt := 15) C0.hx C0.hb dX3_init_37 (by decide) ?_
  refine lv_iload_n C0.hx C0.hb dX3_init_15 rfl (lv_at hl 0 rfl) ?_
  refine lv_bipush (v := (16 : Int32)) C0.hx C0.hb dX3_init_16 (by decide) ?_
  refine lv_icmp_ge (tgt := 40) C0.hx C0.hb dX3_init_18 (by decide) (fun hc => absurd hc (by decide)) (fun _ => ?_)
  refine lv_aload_n C0.hx C0.hb dX3_init_21 rfl (lv_at hl 1 rfl) ?_
  obtain ⟨r27, hr27, h⟩ := Option.bind_eq_some_iff.mp h
  refine q_getR C0 hw hr27 rfl in_3 (by decide) kw_303 dX3_init_22 ?_
  refine lv_iload_n C0.hx C0.hb dX3_init_25 rfl (lv_at hl 0 rfl) ?_
  obtain ⟨S28, hS28, h⟩ := Option.bind_eq_some_iff.mp h
  refine q_newO C0 hw hN hb0 hS28 rfl in_5 tyX5_ok ⟨by decide, rfl⟩ df_5 kw_297 kw_183 kw_66 (Nat.le_of_ble_eq_true rfl) (Nat.le_of_ble_eq_true rfl) dX3_init_26 (fun H hw hN => ?_)
  refine lv_dup C0.hx C0.hb dX3_init_29 rfl ?_
  obtain ⟨S29, hS29, h⟩ := Option.bind_eq_some_iff.mp h
  refine q_callIN C0 hw hN (by omega) (m_X5_init l b0 D cy S28 S26.1 hS29) kw_299 kw_185 kw_66 kw_186 ⟨rfl, rfl⟩ rfl (by decide +kernel) ⟨(Nat.le_of_ble_eq_true rfl), (Nat.le_of_ble_eq_true rfl)⟩ hl.1 (Nat.le_of_ble_eq_true rfl) dX3_init_30 ⟨(Nat.le_of_ble_eq_true rfl), (Nat.le_of_ble_eq_true rfl)⟩ (fun H locs hw hN => ?_)
  obtain ⟨S30, hS30, h⟩ := Option.bind_eq_some_iff.mp h
  refine q_stR14 C0 hw hS30 dX3_init_33 (fun H locs hw => ?_)
  rw [← stR_1 hS30] at hN
  refine lv_iinc (v := (7 : Int32)) (lv' := [(1, .int (7 : Int32)), (0, .ref (b0 + a0))]) C0.hx C0.hb dX3_init_34 hl (k := 0) rfl (by decide) (by decide) rfl (fun ls hl => ?_)
  refine lv_goto (tgt := 15) C0.hx C0.hb dX3_init_37 (by decide) ?_
  refine lv_iload_n C0.hx C0.hb dX3_init_15 rfl (lv_at hl 0 rfl) ?_
  refine lv_bipush (v := (16 : Int32)) C0.hx C0.hb dX3_init_16 (by decide) ?_
  refine lv_icmp_ge (tgt := 40) C0.hx C0.hb dX3_init_18 (by decide) (fun hc => absurd hc (by decide)) (fun _ => ?_)
  refine lv_aload_n C0.hx C0.hb dX3_init_21 rfl (lv_at hl 1 rfl) ?_
  obtain ⟨r31, hr31, h⟩ := Option.bind_eq_some_iff.mp h
  refine q_getR C0 hw hr31 rfl in_3 (by decide) kw_303 dX3_init_22 ?_
  refine lv_iload_n C0.hx C0.hb dX3_init_25 rfl (lv_at hl 0 rfl) ?_
  obtain ⟨S32, hS32, h⟩ := Option.bind_eq_some_iff.mp h
  refine q_newO C0 hw hN hb0 hS32 rfl in_5 tyX5_ok ⟨by decide, rfl⟩ df_5 kw_297 kw_183 kw_66 (Nat.le_of_ble_eq_true rfl) (Nat.le_of_ble_eq_true rfl) dX3_init_26 (fun H hw hN => ?_)
  refine lv_dup C0.hx C0.hb dX3_init_29 rfl ?_
  obtain ⟨S33, hS33, h⟩ := Option.bind_eq_some_iff.mp h
  refine q_callIN C0 hw hN (by omega) (m_X5_init l b0 D cy S32 S30.1 hS33) kw_299 kw_185 kw_66 kw_186 ⟨rfl, rfl⟩ rfl (by decide +kernel) ⟨(Nat.le_of_ble_eq_true rfl), (Nat.le_of_ble_eq_true rfl)⟩ hl.1 (Nat.le_of_ble_eq_true rfl) dX3_init_30 ⟨(Nat.le_of_ble_eq_true rfl), (Nat.le_of_ble_eq_true rfl)⟩ (fun H locs hw hN => ?_)
  obtain ⟨S34, hS34, h⟩ := Option.bind_eq_some_iff.mp h
  refine q_stR14 C0 hw hS34 dX3_init_33 (fun H locs hw => ?_)
  rw [← stR_1 hS34] at hN
  refine lv_iinc (v := (8 : Int32)) (lv' := [(1, .int (8 : Int32)), (0, .ref (b0 + a0))]) C0.hx C0.hb dX3_init_34 hl (k := 0) rfl (by decide) (by decide) rfl (fun ls hl => ?_)
  refine lv_goto (tgt := 15) C0.hx C0.hb dX3_init_37 (by decide) ?_
  refine lv_iload_n C0.hx C0.hb dX3_init_15 rfl (lv_at hl 0 rfl) ?_
  refine lv_bipush (v := (16 : Int32)) C0.hx C0.hb dX3_init_16 (by decide) ?_
  refine lv_icmp_ge (tgt := 40) C0.hx C0.hb dX3_init_18 (by decide) (fun hc => absurd hc (by decide)) (fun _ => ?_)
  refine lv_aload_n C0.hx C0.hb dX3_init_21 rfl (lv_at hl 1 rfl) ?_
  obtain ⟨r35, hr35, h⟩ := Option.bind_eq_some_iff.mp h
  refine q_getR C0 hw hr35 rfl in_3 (by decide) kw_303 dX3_init_22 ?_
  refine lv_iload_n C0.hx C0.hb dX3_init_25 rfl (lv_at hl 0 rfl) ?_
  obtain ⟨S36, hS36, h⟩ := Option.bind_eq_some_iff.mp h
  refine q_newO C0 hw hN hb0 hS36 rfl in_5 tyX5_ok ⟨by decide, rfl⟩ df_5 kw_297 kw_183 kw_66 (Nat.le_of_ble_eq_true rfl) (Nat.le_of_ble_eq_true rfl) dX3_init_26 (fun H hw hN => ?_)
  refine lv_dup C0.hx C0.hb dX3_init_29 rfl ?_
  obtain ⟨S37, hS37, h⟩ := Option.bind_eq_some_iff.mp h
  refine q_callIN C0 hw hN (by omega) (m_X5_init l b0 D cy S36 S34.1 hS37) kw_299 kw_185 kw_66 kw_186 ⟨rfl, rfl⟩ rfl (by decide +kernel) ⟨(Nat.le_of_ble_eq_true rfl), (Nat.le_of_ble_eq_true rfl)⟩ hl.1 (Nat.le_of_ble_eq_true rfl) dX3_init_30 ⟨(Nat.le_of_ble_eq_true rfl), (Nat.le_of_ble_eq_true rfl)⟩ (fun H locs hw hN => ?_)
  obtain ⟨S38, hS38, h⟩ := Option.bind_eq_some_iff.mp h
  refine q_stR14 C0 hw hS38 dX3_init_33 (fun H locs hw => ?_)
  rw [← stR_1 hS38] at hN
  refine lv_iinc (v := (9 : Int32)) (lv' := [(1, .int (9 : Int32)), (0, .ref (b0 + a0))]) C0.hx C0.hb dX3_init_34 hl (k := 0) rfl (by decide) (by decide) rfl (fun ls hl => ?_)
  refine lv_goto (tgt := 15) C0.hx C0.hb dX3_init_37 (by decide) ?_
  refine lv_iload_n C0.hx C0.hb dX3_init_15 rfl (lv_at hl 0 rfl) ?_
  refine lv_bipush (v := (16 : Int32)) C0.hx C0.hb dX3_init_16 (by decide) ?_
  refine lv_icmp_ge (tgt := 40) C0.hx C0.hb dX3_init_18 (by decide) (fun hc => absurd hc (by decide)) (fun _ => ?_)
  refine lv_aload_n C0.hx C0.hb dX3_init_21 rfl (lv_at hl 1 rfl) ?_
  obtain ⟨r39, hr39, h⟩ := Option.bind_eq_some_iff.mp h
  refine q_getR C0 hw hr39 rfl in_3 (by decide) kw_303 dX3_init_22 ?_
  refine lv_iload_n C0.hx C0.hb dX3_init_25 rfl (lv_at hl 0 rfl) ?_
  obtain ⟨S40, hS40, h⟩ := Option.bind_eq_some_iff.mp h
  refine q_newO C0 hw hN hb0 hS40 rfl in_5 tyX5_ok ⟨by decide, rfl⟩ df_5 kw_297 kw_183 kw_66 (Nat.le_of_ble_eq_true rfl) (Nat.le_of_ble_eq_true rfl) dX3_init_26 (fun H hw hN => ?_)
  refine lv_dup C0.hx C0.hb dX3_init_29 rfl ?_
  obtain ⟨S41, hS41, h⟩ := Option.bind_eq_some_iff.mp h
  refine q_callIN C0 hw hN (by omega) (m_X5_init l b0 D cy S40 S38.1 hS41) kw_299 kw_185 kw_66 kw_186 ⟨rfl, rfl⟩ rfl (by decide +kernel) ⟨(Nat.le_of_ble_eq_true rfl), (Nat.le_of_ble_eq_true rfl)⟩ hl.1 (Nat.le_of_ble_eq_true rfl) dX3_init_30 ⟨(Nat.le_of_ble_eq_true rfl), (Nat.le_of_ble_eq_true rfl)⟩ (fun H locs hw hN => ?_)
  obtain ⟨S42, hS42, h⟩ := Option.bind_eq_some_iff.mp h
  refine q_stR14 C0 hw hS42 dX3_init_33 (fun H locs hw => ?_)
  rw [← stR_1 hS42] at hN
  refine lv_iinc (v := (10 : Int32)) (lv' := [(1, .int (10 : Int32)), (0, .ref (b0 + a0))]) C0.hx C0.hb dX3_init_34 hl (k := 0) rfl (by decide) (by decide) rfl (fun ls hl => ?_)
  refine lv_goto (tgt := 15) C0.hx C0.hb dX3_init_37 (by decide) ?_
  refine lv_iload_n C0.hx C0.hb dX3_init_15 rfl (lv_at hl 0 rfl) ?_
  refine lv_bipush (v := (16 : Int32)) C0.hx C0.hb dX3_init_16 (by decide) ?_
  refine lv_icmp_ge (tgt := 40) C0.hx C0.hb dX3_init_18 (by decide) (fun hc => absurd hc (by decide)) (fun _ => ?_)
  refine lv_aload_n C0.hx C0.hb dX3_init_21 rfl (lv_at hl 1 rfl) ?_
  obtain ⟨r43, hr43, h⟩ := Option.bind_eq_some_iff.mp h
  refine q_getR C0 hw hr43 rfl in_3 (by decide) kw_303 dX3_init_22 ?_
  refine lv_iload_n C0.hx C0.hb dX3_init_25 rfl (lv_at hl 0 rfl) ?_
  obtain ⟨S44, hS44, h⟩ := Option.bind_eq_some_iff.mp h
  refine q_newO C0 hw hN hb0 hS44 rfl in_5 tyX5_ok ⟨by decide, rfl⟩ df_5 kw_297 kw_183 kw_66 (Nat.le_of_ble_eq_true rfl) (Nat.le_of_ble_eq_true rfl) dX3_init_26 (fun H hw hN => ?_)
  refine lv_dup C0.hx C0.hb dX3_init_29 rfl ?_
  obtain ⟨S45, hS45, h⟩ := Option.bind_eq_some_iff.mp h
  refine q_callIN C0 hw hN (by omega) (m_X5_init l b0 D cy S44 S42.1 hS45) kw_299 kw_185 kw_66 kw_186 ⟨rfl, rfl⟩ rfl (by decide +kernel) ⟨(Nat.le_of_ble_eq_true rfl), (Nat.le_of_ble_eq_true rfl)⟩ hl.1 (Nat.le_of_ble_eq_true rfl) dX3_init_30 ⟨(Nat.le_of_ble_eq_true rfl), (Nat.le_of_ble_eq_true rfl)⟩ (fun H locs hw hN => ?_)
  obtain ⟨S46, hS46, h⟩ := Option.bind_eq_some_iff.mp h
  refine q_stR14 C0 hw hS46 dX3_init_33 (fun H locs hw => ?_)
  rw [← stR_1 hS46] at hN
  refine lv_iinc (v := (11 : Int32)) (lv' := [(1, .int (11 : Int32)), (0, .ref (b0 + a0))]) C0.hx C0.hb dX3_init_34 hl (k := 0) rfl (by decide) (by decide) rfl (fun ls hl => ?_)
  refine lv_goto (tgt := 15) C0.hx C0.hb dX3_init_37 (by decide) ?_
  refine lv_iload_n C0.hx C0.hb dX3_init_15 rfl (lv_at hl 0 rfl) ?_
  refine lv_bipush (v := (16 : Int32)) C0.hx C0.hb dX3_init_16 (by decide) ?_
  refine lv_icmp_ge (tgt := 40) C0.hx C0.hb dX3_init_18 (by decide) (fun hc => absurd hc (by decide)) (fun _ => ?_)
  refine lv_aload_n C0.hx C0.hb dX3_init_21 rfl (lv_at hl 1 rfl) ?_
  obtain ⟨r47, hr47, h⟩ := Option.bind_eq_some_iff.mp h
  refine q_getR C0 hw hr47 rfl in_3 (by decide) kw_303 dX3_init_22 ?_
  refine lv_iload_n C0.hx C0.hb dX3_init_25 rfl (lv_at hl 0 rfl) ?_
  obtain ⟨S48, hS48, h⟩ := Option.bind_eq_some_iff.mp h
  refine q_newO C0 hw hN hb0 hS48 rfl in_5 tyX5_ok ⟨by decide, rfl⟩ df_5 kw_297 kw_183 kw_66 (Nat.le_of_ble_eq_true rfl) (Nat.le_of_ble_eq_true rfl) dX3_init_26 (fun H hw hN => ?_)
  refine lv_dup C0.hx C0.hb dX3_init_29 rfl ?_
  obtain ⟨S49, hS49, h⟩ := Option.bind_eq_some_iff.mp h
  refine q_callIN C0 hw hN (by omega) (m_X5_init l b0 D cy S48 S46.1 hS49) kw_299 kw_185 kw_66 kw_186 ⟨rfl, rfl⟩ rfl (by decide +kernel) ⟨(Nat.le_of_ble_eq_true rfl), (Nat.le_of_ble_eq_true rfl)⟩ hl.1 (Nat.le_of_ble_eq_true rfl) dX3_init_30 ⟨(Nat.le_of_ble_eq_true rfl), (Nat.le_of_ble_eq_true rfl)⟩ (fun H locs hw hN => ?_)
  obtain ⟨S50, hS50, h⟩ := Option.bind_eq_some_iff.mp h
  refine q_stR14 C0 hw hS50 dX3_init_33 (fun H locs hw => ?_)
  rw [← stR_1 hS50] at hN
  refine lv_iinc (v := (12 : Int32)) (lv' := [(1, .int (12 : Int32)), (0, .ref (b0 + a0))]) C0.hx C0.hb dX3_init_34 hl (k := 0) rfl (by decide) (by decide) rfl (fun ls hl => ?_)
  refine lv_goto (tgt := 15) C0.hx C0.hb dX3_init_37 (by decide) ?_
  refine lv_iload_n C0.hx C0.hb dX3_init_15 rfl (lv_at hl 0 rfl) ?_
  refine lv_bipush (v := (16 : Int32)) C0.hx C0.hb dX3_init_16 (by decide) ?_
  refine lv_icmp_ge (tgt := 40) C0.hx C0.hb dX3_init_18 (by decide) (fun hc => absurd hc (by decide)) (fun _ => ?_)
  refine lv_aload_n C0.hx C0.hb dX3_init_21 rfl (lv_at hl 1 rfl) ?_
  obtain ⟨r51, hr51, h⟩ := Option.bind_eq_some_iff.mp h
  refine q_getR C0 hw hr51 rfl in_3 (by decide) kw_303 dX3_init_22 ?_
  refine lv_iload_n C0.hx C0.hb dX3_init_25 rfl (lv_at hl 0 rfl) ?_
  obtain ⟨S52, hS52, h⟩ := Option.bind_eq_some_iff.mp h
  refine q_newO C0 hw hN hb0 hS52 rfl in_5 tyX5_ok ⟨by decide, rfl⟩ df_5 kw_297 kw_183 kw_66 (Nat.le_of_ble_eq_true rfl) (Nat.le_of_ble_eq_true rfl) dX3_init_26 (fun H hw hN => ?_)
  refine lv_dup C0.hx C0.hb dX3_init_29 rfl ?_
  obtain ⟨S53, hS53, h⟩ := Option.bind_eq_some_iff.mp h
  refine q_callIN C0 hw hN (by omega) (m_X5_init l b0 D cy S52 S50.1 hS53) kw_299 kw_185 kw_66 kw_186 ⟨rfl, rfl⟩ rfl (by decide +kernel) ⟨(Nat.le_of_ble_eq_true rfl), (Nat.le_of_ble_eq_true rfl)⟩ hl.1 (Nat.le_of_ble_eq_true rfl) dX3_init_30 ⟨(Nat.le_of_ble_eq_true rfl), (Nat.le_of_ble_eq_true rfl)⟩ (fun H locs hw hN => ?_)
  obtain ⟨S54, hS54, h⟩ := Option.bind_eq_some_iff.mp h
  refine q_stR14 C0 hw hS54 dX3_init_33 (fun H locs hw => ?_)
  rw [← stR_1 hS54] at hN
  refine lv_iinc (v := (13 : Int32)) (lv' := [(1, .int (13 : Int32)), (0, .ref (b0 + a0))]) C0.hx C0.hb dX3_init_34 hl (k := 0) rfl (by decide) (by decide) rfl (fun ls hl => ?_)
  refine lv_goto (tgt := 15) C0.hx C0.hb dX3_init_37 (by decide) ?_
  refine lv_iload_n C0.hx C0.hb dX3_init_15 rfl (lv_at hl 0 rfl) ?_
  refine lv_bipush (v := (16 : Int32)) C0.hx C0.hb dX3_init_16 (by decide) ?_
  refine lv_icmp_ge (tgt := 40) C0.hx C0.hb dX3_init_18 (by decide) (fun hc => absurd hc (by decide)) (fun _ => ?_)
  refine lv_aload_n C0.hx C0.hb dX3_init_21 rfl (lv_at hl 1 rfl) ?_
  obtain ⟨r55, hr55, h⟩ := Option.bind_eq_some_iff.mp h
  refine q_getR C0 hw hr55 rfl in_3 (by decide) kw_303 dX3_init_22 ?_
  refine lv_iload_n C0.hx C0.hb dX3_init_25 rfl (lv_at hl 0 rfl) ?_
  obtain ⟨S56, hS56, h⟩ := Option.bind_eq_some_iff.mp h
  refine q_newO C0 hw hN hb0 hS56 rfl in_5 tyX5_ok ⟨by decide, rfl⟩ df_5 kw_297 kw_183 kw_66 (Nat.le_of_ble_eq_true rfl) (Nat.le_of_ble_eq_true rfl) dX3_init_26 (fun H hw hN => ?_)
  refine lv_dup C0.hx C0.hb dX3_init_29 rfl ?_
  obtain ⟨S57, hS57, h⟩ := Option.bind_eq_some_iff.mp h
  refine q_callIN C0 hw hN (by omega) (m_X5_init l b0 D cy S56 S54.1 hS57) kw_299 kw_185 kw_66 kw_186 ⟨rfl, rfl⟩ rfl (by decide +kernel) ⟨(Nat.le_of_ble_eq_true rfl), (Nat.le_of_ble_eq_true rfl)⟩ hl.1 (Nat.le_of_ble_eq_true rfl) dX3_init_30 ⟨(Nat.le_of_ble_eq_true rfl), (Nat.le_of_ble_eq_true rfl)⟩ (fun H locs hw hN => ?_)
  obtain ⟨S58, hS58, h⟩ := Option.bind_eq_some_iff.mp h
  refine q_stR14 C0 hw hS58 dX3_init_33 (fun H locs hw => ?_)
  rw [← stR_1 hS58] at hN
  refine lv_iinc (v := (14 : Int32)) (lv' := [(1, .int (14 : Int32)), (0, .ref (b0 + a0))]) C0.hx C0.hb dX3_init_34 hl (k := 0) rfl (by decide) (by decide) rfl (fun ls hl => ?_)
  refine lv_goto (tgt := 15) C0.hx C0.hb dX3_init_37 (by decide) ?_
  refine lv_iload_n C0.hx C0.hb dX3_init_15 rfl (lv_at hl 0 rfl) ?_
  refine lv_bipush (v := (16 : Int32)) C0.hx C0.hb dX3_init_16 (by decide) ?_
  refine lv_icmp_ge (tgt := 40) C0.hx C0.hb dX3_init_18 (by decide) (fun hc => absurd hc (by decide)) (fun _ => ?_)
  refine lv_aload_n C0.hx C0.hb dX3_init_21 rfl (lv_at hl 1 rfl) ?_
  obtain ⟨r59, hr59, h⟩ := Option.bind_eq_some_iff.mp h
  refine q_getR C0 hw hr59 rfl in_3 (by decide) kw_303 dX3_init_22 ?_
  refine lv_iload_n C0.hx C0.hb dX3_init_25 rfl (lv_at hl 0 rfl) ?_
  obtain ⟨S60, hS60, h⟩ := Option.bind_eq_some_iff.mp h
  refine q_newO C0 hw hN hb0 hS60 rfl in_5 tyX5_ok ⟨by decide, rfl⟩ df_5 kw_297 kw_183 kw_66 (Nat.le_of_ble_eq_true rfl) (Nat.le_of_ble_eq_true rfl) dX3_init_26 (fun H hw hN => ?_)
  refine lv_dup C0.hx C0.hb dX3_init_29 rfl ?_
  obtain ⟨S61, hS61, h⟩ := Option.bind_eq_some_iff.mp h
  refine q_callIN C0 hw hN (by omega) (m_X5_init l b0 D cy S60 S58.1 hS61) kw_299 kw_185 kw_66 kw_186 ⟨rfl, rfl⟩ rfl (by decide +kernel) ⟨(Nat.le_of_ble_eq_true rfl), (Nat.le_of_ble_eq_true rfl)⟩ hl.1 (Nat.le_of_ble_eq_true rfl) dX3_init_30 ⟨(Nat.le_of_ble_eq_true rfl), (Nat.le_of_ble_eq_true rfl)⟩ (fun H locs hw hN => ?_)
  obtain ⟨S62, hS62, h⟩ := Option.bind_eq_some_iff.mp h
  refine q_stR14 C0 hw hS62 dX3_init_33 (fun H locs hw => ?_)
  rw [← stR_1 hS62] at hN
  refine lv_iinc (v := (15 : Int32)) (lv' := [(1, .int (15 : Int32)), (0, .ref (b0 + a0))]) C0.hx C0.hb dX3_init_34 hl (k := 0) rfl (by decide) (by decide) rfl (fun ls hl => ?_)
  refine lv_goto (tgt := 15) C0.hx C0.hb dX3_init_37 (by decide) ?_
  refine lv_iload_n C0.hx C0.hb dX3_init_15 rfl (lv_at hl 0 rfl) ?_
  refine lv_bipush (v := (16 : Int32)) C0.hx C0.hb dX3_init_16 (by decide) ?_
  refine lv_icmp_ge (tgt := 40) C0.hx C0.hb dX3_init_18 (by decide) (fun hc => absurd hc (by decide)) (fun _ => ?_)
  refine lv_aload_n C0.hx C0.hb dX3_init_21 rfl (lv_at hl 1 rfl) ?_
  obtain ⟨r63, hr63, h⟩ := Option.bind_eq_some_iff.mp h
  refine q_getR C0 hw hr63 rfl in_3 (by decide) kw_303 dX3_init_22 ?_
  refine lv_iload_n C0.hx C0.hb dX3_init_25 rfl (lv_at hl 0 rfl) ?_
  obtain ⟨S64, hS64, h⟩ := Option.bind_eq_some_iff.mp h
  refine q_newO C0 hw hN hb0 hS64 rfl in_5 tyX5_ok ⟨by decide, rfl⟩ df_5 kw_297 kw_183 kw_66 (Nat.le_of_ble_eq_true rfl) (Nat.le_of_ble_eq_true rfl) dX3_init_26 (fun H hw hN => ?_)
  refine lv_dup C0.hx C0.hb dX3_init_29 rfl ?_
  obtain ⟨S65, hS65, h⟩ := Option.bind_eq_some_iff.mp h
  refine q_callIN C0 hw hN (by omega) (m_X5_init l b0 D cy S64 S62.1 hS65) kw_299 kw_185 kw_66 kw_186 ⟨rfl, rfl⟩ rfl (by decide +kernel) ⟨(Nat.le_of_ble_eq_true rfl), (Nat.le_of_ble_eq_true rfl)⟩ hl.1 (Nat.le_of_ble_eq_true rfl) dX3_init_30 ⟨(Nat.le_of_ble_eq_true rfl), (Nat.le_of_ble_eq_true rfl)⟩ (fun H locs hw hN => ?_)
  obtain ⟨S66, hS66, h⟩ := Option.bind_eq_some_iff.mp h
  refine q_stR14 C0 hw hS66 dX3_init_33 (fun H locs hw => ?_)
  rw [← stR_1 hS66] at hN
  refine lv_iinc (v := (16 : Int32)) (lv' := [(1, .int (16 : Int32)), (0, .ref (b0 + a0))]) C0.hx C0.hb dX3_init_34 hl (k := 0) rfl (by decide) (by decide) rfl (fun ls hl => ?_)
  refine lv_goto (tgt := 15) C0.hx C0.hb dX3_init_37 (by decide) ?_
  refine lv_iload_n C0.hx C0.hb dX3_init_15 rfl (lv_at hl 0 rfl) ?_
  refine lv_bipush (v := (16 : Int32)) C0.hx C0.hb dX3_init_16 (by decide) ?_
  refine lv_icmp_ge (tgt := 40) C0.hx C0.hb dX3_init_18 (by decide) (fun _ => ?_) (fun hc => absurd (by decide) hc)
  refine W.widen (k := 161) (n := 1744) (Nat.le_of_ble_eq_true rfl) (Nat.le_of_ble_eq_true rfl) ?_
  obtain rfl := Option.some.inj h
  exact q_retN (S0 := S) C0 hw hlow (by omega) hr hlocks dX3_init_40
abbrev rm_X6_init : Room := { frames := 2, cells := 6, slots := 287, locals := 40 }
def f_X6_init (a0 : Nat) (S : Mem) : Option Mem :=
    (pI 6 2 S a0 (-1 : Int32)).bind fun S1 =>
      (newO 2 S1).bind fun S2 =>
      (f_X2_init S1.1 S2).bind fun S3 =>
      (pR 6 3 S3 a0 S1.1).bind fun S4 =>
      (newA 10 (240 : Int32) S4).bind fun S5 =>
      (pR 6 4 S5 a0 S4.1).bind fun S6 =>
      some S6
set_option maxHeartbeats 4000000 in
set_option maxRecDepth 100000 in
theorem m_X6_init (l : Launch) (b0 : Nat) (D : va_G) (cy : Nat → ClassId) (S : Mem) (a0 : Nat) {q : Mem} (h : f_X6_init a0 S = some q) : Met l yX6_init [.code yX6_init cX6_init 1 none] rm_X6_init (PrM b0 D cy S [.ref (b0 + a0)]) (QpN b0 D cy S 6 q) 6 287 (fun q => b0 ≤ q) := by
  refine Met.ofW (cc := cX6_init) (maxL := 1) (ret := none) (by decide) rfl ?_
  intro p e s m args below meth c s₁ B hml hv
  obtain ⟨rfl, hz, h0, hP, hK, hT⟩ := hv
  have hlow := wl_low h0 hP
  have hN : s.heap.size + 0 ≤ b0 + S.1 := hz
  have hb0 : b0 ≤ s.heap.size := by omega
  have hmn : meth.name = "<init>" := (name_of_methodNamed B.named B.method).1
  have C0 : Cx p m c cX6_init 1 s (List.toArray [.ref (b0 + a0)]) RX6 D cy := ⟨⟨B.exec, B.bytes, hml, findClass_of_methodNamed B.named, fun w h => hT w h _⟩, hK, hT⟩
  have hr : meth.sig.returnType = none := B.returns
  have hlocks := B.notSynchronized
  have hw : Wd b0 D cy S s.heap s.heap [] := ⟨hP, va_S.rf⟩
  have hl := lv_entry ([.ref (b0 + a0)]) (n := 1) (Nat.le_of_ble_eq_true rfl)
  rw [lg_entry_eq]
  generalize (lg_sl ([.ref (b0 + a0)]) ++ List.replicate (1 - (lg_sl ([.ref (b0 + a0)])).length) Slot.unset).toArray = ls at hl ⊢
  have hl : lv_has ls 1 [(0, .ref (b0 + a0))] := hl
  rw [f_X6_init] at h
  show W p l e rm_X6_init s m _ below meth c s.heap [] 0 0 _ _
  refine lv_aload_n C0.hx C0.hb dX6_init_0 rfl (lv_at hl 0 rfl) ?_
  refine W.objInit C0.hx C0.hb C0.ho (C0.w kw_91) (C0.w kw_84) (C0.w kw_85) rfl (hl.1.trans C0.1.2.2.1.symm) rfl dX6_init_1 (Nat.le_of_ble_eq_true rfl) (Nat.le_of_ble_eq_true rfl) ?_
  refine W.eq (g2 := F0 m 4 ls []) rfl ?_
  refine lv_aload_n C0.hx C0.hb dX6_init_4 rfl (lv_at hl 0 rfl) ?_
  refine lv_iconst (v := (-1 : Int32)) C0.hx C0.hb dX6_init_5 (by decide) ?_
  obtain ⟨S1, hS1, h⟩ := Option.bind_eq_some_iff.mp h
  refine q_putI C0 hw hS1 rfl in_6 tyX6_ok nmX6 ⟨by decide, by decide, rfl, rfl⟩ rfl kw_158 dX6_init_6 (fun H locs hw => ?_)
  rw [← pI_1 hS1] at hN
  refine lv_aload_n C0.hx C0.hb dX6_init_9 rfl (lv_at hl 0 rfl) ?_
  obtain ⟨S2, hS2, h⟩ := Option.bind_eq_some_iff.mp h
  refine q_newO C0 hw hN hb0 hS2 rfl in_2 tyX2_ok ⟨by decide, rfl⟩ df_2 kw_92 kw_93 kw_65 (Nat.le_of_ble_eq_true rfl) (Nat.le_of_ble_eq_true rfl) dX6_init_10 (fun H hw hN => ?_)
  refine lv_dup C0.hx C0.hb dX6_init_13 rfl ?_
  obtain ⟨S3, hS3, h⟩ := Option.bind_eq_some_iff.mp h
  refine q_callIN C0 hw hN (by omega) (m_X2_init l b0 D cy S2 S1.1 hS3) kw_94 kw_95 kw_65 kw_96 ⟨rfl, rfl⟩ rfl (by decide +kernel) ⟨(Nat.le_of_ble_eq_true rfl), (Nat.le_of_ble_eq_true rfl)⟩ hl.1 (Nat.le_of_ble_eq_true rfl) dX6_init_14 ⟨(Nat.le_of_ble_eq_true rfl), (Nat.le_of_ble_eq_true rfl)⟩ (fun H locs hw hN => ?_)
  obtain ⟨S4, hS4, h⟩ := Option.bind_eq_some_iff.mp h
  refine q_putR C0 hw hS4 rfl in_6 tyX6_ok nmX6 ⟨by decide, by decide, rfl, rfl⟩ (fun _ => ⟨rfl, rfl⟩) kw_160 dX6_init_17 (fun H locs hw => ?_)
  rw [← pR_1 hS4] at hN
  refine lv_aload_n C0.hx C0.hb dX6_init_20 rfl (lv_at hl 0 rfl) ?_
  refine lv_sipush (v := (240 : Int32)) C0.hx C0.hb dX6_init_21 (by decide) ?_
  obtain ⟨S5, hS5, h⟩ := Option.bind_eq_some_iff.mp h
  refine q_newI (N := 240) C0 hw hN hb0 hS5 kw_153 rfl (by decide) (Nat.le_of_ble_eq_true rfl) (Nat.le_of_ble_eq_true rfl) dX6_init_24 (fun H hw hN => ?_)
  obtain ⟨S6, hS6, h⟩ := Option.bind_eq_some_iff.mp h
  refine q_putF C0 hw hmn hS6 rfl in_6 tyX6_ok nmX6 ⟨by decide, by decide, rfl, rfl, rfl⟩ (fun _ => ⟨rfl, rfl⟩) kw_162 dX6_init_26 (fun H locs hw => ?_)
  rw [← pR_1 hS6] at hN
  refine W.widen (k := 6) (n := 287) (Nat.le_of_ble_eq_true rfl) (Nat.le_of_ble_eq_true rfl) ?_
  obtain rfl := Option.some.inj h
  exact q_retN (S0 := S) C0 hw hlow (by omega) hr hlocks dX6_init_29
abbrev rm_X8_init : Room := { frames := 4, cells := 215, slots := 2493, locals := 81 }
def f_X8_init (a0 : Nat) (S : Mem) : Option Mem :=
    (newO 6 S).bind fun S1 =>
      (f_X6_init S.1 S1).bind fun S2 =>
      (pR 8 0 S2 a0 S.1).bind fun S3 =>
      (newO 2 S3).bind fun S4 =>
      (f_X2_init S3.1 S4).bind fun S5 =>
      (pR 8 1 S5 a0 S3.1).bind fun S6 =>
      (newO 5 S6).bind fun S7 =>
      (f_X5_init S6.1 S7).bind fun S8 =>
      (pR 8 2 S8 a0 S6.1).bind fun S9 =>
      (newO 3 S9).bind fun S10 =>
      (f_X3_init S9.1 S10).bind fun S11 =>
      (pR 8 3 S11 a0 S9.1).bind fun S12 =>
      (newA 13 (2 : Int32) S12).bind fun S13 =>
      (pR 8 4 S13 a0 S12.1).bind fun S14 =>
      (newO 0 S14).bind fun S15 =>
      (f_X0_init S14.1 S15).bind fun S16 =>
      (pR 8 5 S16 a0 S14.1).bind fun S17 =>
      (newO 4 S17).bind fun S18 =>
      (f_X4_init S17.1 S18).bind fun S19 =>
      (pR 8 7 S19 a0 S17.1).bind fun S20 =>
      (newO 4 S20).bind fun S21 =>
      (f_X4_init S20.1 S21).bind fun S22 =>
      (pR 8 8 S22 a0 S20.1).bind fun S23 =>
      (newA 10 (8 : Int32) S23).bind fun S24 =>
      (pR 8 9 S24 a0 S23.1).bind fun S25 =>
      (gR 8 4 S25 a0).bind fun r26 =>
      (newO 1 S25).bind fun S27 =>
      (f_X1_init S25.1 S27).bind fun S28 =>
      (stR 13 1 S28 r26 (0 : Int32) S25.1).bind fun S29 =>
      (gR 8 4 S29 a0).bind fun r30 =>
      (newO 1 S29).bind fun S31 =>
      (f_X1_init S29.1 S31).bind fun S32 =>
      (stR 13 1 S32 r30 (1 : Int32) S29.1).bind fun S33 =>
      some S33
set_option maxHeartbeats 4000000 in
set_option maxRecDepth 100000 in
theorem m_X8_init (l : Launch) (b0 : Nat) (D : va_G) (cy : Nat → ClassId) (S : Mem) (a0 : Nat) {q : Mem} (h : f_X8_init a0 S = some q) : Met l yX8_init [.code yX8_init cX8_init 2 none] rm_X8_init (PrM b0 D cy S [.ref (b0 + a0)]) (QpN b0 D cy S 215 q) 215 2493 (fun q => b0 ≤ q) := by
  refine Met.ofW (cc := cX8_init) (maxL := 2) (ret := none) (by decide) rfl ?_
  intro p e s m args below meth c s₁ B hml hv
  obtain ⟨rfl, hz, h0, hP, hK, hT⟩ := hv
  have hlow := wl_low h0 hP
  have hN : s.heap.size + 0 ≤ b0 + S.1 := hz
  have hb0 : b0 ≤ s.heap.size := by omega
  have hmn : meth.name = "<init>" := (name_of_methodNamed B.named B.method).1
  have C0 : Cx p m c cX8_init 2 s (List.toArray [.ref (b0 + a0)]) RX8 D cy := ⟨⟨B.exec, B.bytes, hml, findClass_of_methodNamed B.named, fun w h => hT w h _⟩, hK, hT⟩
  have hr : meth.sig.returnType = none := B.returns
  have hlocks := B.notSynchronized
  have hw : Wd b0 D cy S s.heap s.heap [] := ⟨hP, va_S.rf⟩
  have hl := lv_entry ([.ref (b0 + a0)]) (n := 2) (Nat.le_of_ble_eq_true rfl)
  rw [lg_entry_eq]
  generalize (lg_sl ([.ref (b0 + a0)]) ++ List.replicate (2 - (lg_sl ([.ref (b0 + a0)])).length) Slot.unset).toArray = ls at hl ⊢
  have hl : lv_has ls 2 [(0, .ref (b0 + a0))] := hl
  rw [f_X8_init] at h
  show W p l e rm_X8_init s m _ below meth c s.heap [] 0 0 _ _
  refine lv_aload_n C0.hx C0.hb dX8_init_0 rfl (lv_at hl 0 rfl) ?_
  refine W.objInit C0.hx C0.hb C0.ho (C0.w kw_83) (C0.w kw_84) (C0.w kw_85) rfl (hl.1.trans C0.1.2.2.1.symm) rfl dX8_init_1 (Nat.le_of_ble_eq_true rfl) (Nat.le_of_ble_eq_true rfl) ?_
  refine W.eq (g2 := F0 m 4 ls []) rfl ?_
  refine lv_aload_n C0.hx C0.hb dX8_init_4 rfl (lv_at hl 0 rfl) ?_
  obtain ⟨S1, hS1, h⟩ := Option.bind_eq_some_iff.mp h
  refine q_newO C0 hw hN hb0 hS1 rfl in_6 tyX6_ok ⟨by decide, rfl⟩ df_6 kw_86 kw_87 kw_64 (Nat.le_of_ble_eq_true rfl) (Nat.le_of_ble_eq_true rfl) dX8_init_5 (fun H hw hN => ?_)
  refine lv_dup C0.hx C0.hb dX8_init_8 rfl ?_
  obtain ⟨S2, hS2, h⟩ := Option.bind_eq_some_iff.mp h
  refine q_callIN C0 hw hN (by omega) (m_X6_init l b0 D cy S1 S.1 hS2) kw_88 kw_89 kw_64 kw_90 ⟨rfl, rfl⟩ rfl (by decide +kernel) ⟨(Nat.le_of_ble_eq_true rfl), (Nat.le_of_ble_eq_true rfl)⟩ hl.1 (Nat.le_of_ble_eq_true rfl) dX8_init_9 ⟨(Nat.le_of_ble_eq_true rfl), (Nat.le_of_ble_eq_true rfl)⟩ (fun H locs hw hN => ?_)
  obtain ⟨S3, hS3, h⟩ := Option.bind_eq_some_iff.mp h
  refine q_putF C0 hw hmn hS3 rfl in_8 tyX8_ok nmX8 ⟨by decide, by decide, rfl, rfl, rfl⟩ (fun _ => ⟨rfl, rfl⟩) kw_350 dX8_init_12 (fun H locs hw => ?_)
  rw [← pR_1 hS3] at hN
  refine lv_aload_n C0.hx C0.hb dX8_init_15 rfl (lv_at hl 0 rfl) ?_
  obtain ⟨S4, hS4, h⟩ := Option.bind_eq_some_iff.mp h
  refine q_newO C0 hw hN hb0 hS4 rfl in_2 tyX2_ok ⟨by decide, rfl⟩ df_2 kw_180 kw_93 kw_65 (Nat.le_of_ble_eq_true rfl) (Nat.le_of_ble_eq_true rfl) dX8_init_16 (fun H hw hN => ?_)
  refine lv_dup C0.hx C0.hb dX8_init_19 rfl ?_
  obtain ⟨S5, hS5, h⟩ := Option.bind_eq_some_iff.mp h
  refine q_callIN C0 hw hN (by omega) (m_X2_init l b0 D cy S4 S3.1 hS5) kw_181 kw_95 kw_65 kw_96 ⟨rfl, rfl⟩ rfl (by decide +kernel) ⟨(Nat.le_of_ble_eq_true rfl), (Nat.le_of_ble_eq_true rfl)⟩ hl.1 (Nat.le_of_ble_eq_true rfl) dX8_init_20 ⟨(Nat.le_of_ble_eq_true rfl), (Nat.le_of_ble_eq_true rfl)⟩ (fun H locs hw hN => ?_)
  obtain ⟨S6, hS6, h⟩ := Option.bind_eq_some_iff.mp h
  refine q_putR C0 hw hS6 rfl in_8 tyX8_ok nmX8 ⟨by decide, by decide, rfl, rfl⟩ (fun _ => ⟨rfl, rfl⟩) kw_351 dX8_init_23 (fun H locs hw => ?_)
  rw [← pR_1 hS6] at hN
  refine lv_aload_n C0.hx C0.hb dX8_init_26 rfl (lv_at hl 0 rfl) ?_
  obtain ⟨S7, hS7, h⟩ := Option.bind_eq_some_iff.mp h
  refine q_newO C0 hw hN hb0 hS7 rfl in_5 tyX5_ok ⟨by decide, rfl⟩ df_5 kw_182 kw_183 kw_66 (Nat.le_of_ble_eq_true rfl) (Nat.le_of_ble_eq_true rfl) dX8_init_27 (fun H hw hN => ?_)
  refine lv_dup C0.hx C0.hb dX8_init_30 rfl ?_
  obtain ⟨S8, hS8, h⟩ := Option.bind_eq_some_iff.mp h
  refine q_callIN C0 hw hN (by omega) (m_X5_init l b0 D cy S7 S6.1 hS8) kw_184 kw_185 kw_66 kw_186 ⟨rfl, rfl⟩ rfl (by decide +kernel) ⟨(Nat.le_of_ble_eq_true rfl), (Nat.le_of_ble_eq_true rfl)⟩ hl.1 (Nat.le_of_ble_eq_true rfl) dX8_init_31 ⟨(Nat.le_of_ble_eq_true rfl), (Nat.le_of_ble_eq_true rfl)⟩ (fun H locs hw hN => ?_)
  obtain ⟨S9, hS9, h⟩ := Option.bind_eq_some_iff.mp h
  refine q_putF C0 hw hmn hS9 rfl in_8 tyX8_ok nmX8 ⟨by decide, by decide, rfl, rfl, rfl⟩ (fun _ => ⟨rfl, rfl⟩) kw_352 dX8_init_34 (fun H locs hw => ?_)
  rw [← pR_1 hS9] at hN
  refine lv_aload_n C0.hx C0.hb dX8_init_37 rfl (lv_at hl 0 rfl) ?_
  obtain ⟨S10, hS10, h⟩ := Option.bind_eq_some_iff.mp h
  refine q_newO C0 hw hN hb0 hS10 rfl in_3 tyX3_ok ⟨by decide, rfl⟩ df_3 kw_291 kw_292 kw_69 (Nat.le_of_ble_eq_true rfl) (Nat.le_of_ble_eq_true rfl) dX8_init_38 (fun H hw hN => ?_)
  refine lv_dup C0.hx C0.hb dX8_init_41 rfl ?_
  obtain ⟨S11, hS11, h⟩ := Option.bind_eq_some_iff.mp h
  refine q_callI C0 hw hN (by omega) (m_X3_init l b0 D cy S10 S9.1 hS11) kw_293 kw_294 kw_69 kw_295 ⟨rfl, rfl⟩ rfl (by decide +kernel) ⟨(Nat.le_of_ble_eq_true rfl), (Nat.le_of_ble_eq_true rfl)⟩ hl.1 (Nat.le_of_ble_eq_true rfl) dX8_init_42 ⟨(Nat.le_of_ble_eq_true rfl), (Nat.le_of_ble_eq_true rfl)⟩ (fun H locs hw hN => ?_)
  obtain ⟨S12, hS12, h⟩ := Option.bind_eq_some_iff.mp h
  refine q_putF C0 hw hmn hS12 rfl in_8 tyX8_ok nmX8 ⟨by decide, by decide, rfl, rfl, rfl⟩ (fun _ => ⟨rfl, rfl⟩) kw_353 dX8_init_45 (fun H locs hw => ?_)
  rw [← pR_1 hS12] at hN
  refine lv_aload_n C0.hx C0.hb dX8_init_48 rfl (lv_at hl 0 rfl) ?_
  refine lv_iconst (v := (2 : Int32)) C0.hx C0.hb dX8_init_49 (by decide) ?_
  obtain ⟨S13, hS13, h⟩ := Option.bind_eq_some_iff.mp h
  refine q_new13 (N := 2) C0 hw hN hb0 hS13 kw_311 kw_312 rfl (by decide) (Nat.le_of_ble_eq_true rfl) (Nat.le_of_ble_eq_true rfl) dX8_init_50 (fun H hw hN => ?_)
  obtain ⟨S14, hS14, h⟩ := Option.bind_eq_some_iff.mp h
  refine q_putF C0 hw hmn hS14 rfl in_8 tyX8_ok nmX8 ⟨by decide, by decide, rfl, rfl, rfl⟩ (fun _ => ⟨rfl, rfl⟩) kw_354 dX8_init_53 (fun H locs hw => ?_)
  rw [← pR_1 hS14] at hN
  refine lv_aload_n C0.hx C0.hb dX8_init_56 rfl (lv_at hl 0 rfl) ?_
  obtain ⟨S15, hS15, h⟩ := Option.bind_eq_some_iff.mp h
  refine q_newO C0 hw hN hb0 hS15 rfl in_0 tyX0_ok ⟨by decide, rfl⟩ df_0 kw_313 kw_314 kw_70 (Nat.le_of_ble_eq_true rfl) (Nat.le_of_ble_eq_true rfl) dX8_init_57 (fun H hw hN => ?_)
  refine lv_dup C0.hx C0.hb dX8_init_60 rfl ?_
  obtain ⟨S16, hS16, h⟩ := Option.bind_eq_some_iff.mp h
  refine q_callIN C0 hw hN (by omega) (m_X0_init l b0 D cy S15 S14.1 hS16) kw_315 kw_316 kw_70 kw_317 ⟨rfl, rfl⟩ rfl (by decide +kernel) ⟨(Nat.le_of_ble_eq_true rfl), (Nat.le_of_ble_eq_true rfl)⟩ hl.1 (Nat.le_of_ble_eq_true rfl) dX8_init_61 ⟨(Nat.le_of_ble_eq_true rfl), (Nat.le_of_ble_eq_true rfl)⟩ (fun H locs hw hN => ?_)
  obtain ⟨S17, hS17, h⟩ := Option.bind_eq_some_iff.mp h
  refine q_putF C0 hw hmn hS17 rfl in_8 tyX8_ok nmX8 ⟨by decide, by decide, rfl, rfl, rfl⟩ (fun _ => ⟨rfl, rfl⟩) kw_355 dX8_init_64 (fun H locs hw => ?_)
  rw [← pR_1 hS17] at hN
  refine lv_aload_n C0.hx C0.hb dX8_init_67 rfl (lv_at hl 0 rfl) ?_
  obtain ⟨S18, hS18, h⟩ := Option.bind_eq_some_iff.mp h
  refine q_newO C0 hw hN hb0 hS18 rfl in_4 tyX4_ok ⟨by decide, rfl⟩ df_4 kw_330 kw_189 kw_67 (Nat.le_of_ble_eq_true rfl) (Nat.le_of_ble_eq_true rfl) dX8_init_68 (fun H hw hN => ?_)
  refine lv_dup C0.hx C0.hb dX8_init_71 rfl ?_
  obtain ⟨S19, hS19, h⟩ := Option.bind_eq_some_iff.mp h
  refine q_callIN C0 hw hN (by omega) (m_X4_init l b0 D cy S18 S17.1 hS19) kw_331 kw_191 kw_67 kw_192 ⟨rfl, rfl⟩ rfl (by decide +kernel) ⟨(Nat.le_of_ble_eq_true rfl), (Nat.le_of_ble_eq_true rfl)⟩ hl.1 (Nat.le_of_ble_eq_true rfl) dX8_init_72 ⟨(Nat.le_of_ble_eq_true rfl), (Nat.le_of_ble_eq_true rfl)⟩ (fun H locs hw hN => ?_)
  obtain ⟨S20, hS20, h⟩ := Option.bind_eq_some_iff.mp h
  refine q_putF C0 hw hmn hS20 rfl in_8 tyX8_ok nmX8 ⟨by decide, by decide, rfl, rfl, rfl⟩ (fun _ => ⟨rfl, rfl⟩) kw_357 dX8_init_75 (fun H locs hw => ?_)
  rw [← pR_1 hS20] at hN
  refine lv_aload_n C0.hx C0.hb dX8_init_78 rfl (lv_at hl 0 rfl) ?_
  obtain ⟨S21, hS21, h⟩ := Option.bind_eq_some_iff.mp h
  refine q_newO C0 hw hN hb0 hS21 rfl in_4 tyX4_ok ⟨by decide, rfl⟩ df_4 kw_330 kw_189 kw_67 (Nat.le_of_ble_eq_true rfl) (Nat.le_of_ble_eq_true rfl) dX8_init_79 (fun H hw hN => ?_)
  refine lv_dup C0.hx C0.hb dX8_init_82 rfl ?_
  obtain ⟨S22, hS22, h⟩ := Option.bind_eq_some_iff.mp h
  refine q_callIN C0 hw hN (by omega) (m_X4_init l b0 D cy S21 S20.1 hS22) kw_331 kw_191 kw_67 kw_192 ⟨rfl, rfl⟩ rfl (by decide +kernel) ⟨(Nat.le_of_ble_eq_true rfl), (Nat.le_of_ble_eq_true rfl)⟩ hl.1 (Nat.le_of_ble_eq_true rfl) dX8_init_83 ⟨(Nat.le_of_ble_eq_true rfl), (Nat.le_of_ble_eq_true rfl)⟩ (fun H locs hw hN => ?_)
  obtain ⟨S23, hS23, h⟩ := Option.bind_eq_some_iff.mp h
  refine q_putF C0 hw hmn hS23 rfl in_8 tyX8_ok nmX8 ⟨by decide, by decide, rfl, rfl, rfl⟩ (fun _ => ⟨rfl, rfl⟩) kw_358 dX8_init_86 (fun H locs hw => ?_)
  rw [← pR_1 hS23] at hN
  refine lv_aload_n C0.hx C0.hb dX8_init_89 rfl (lv_at hl 0 rfl) ?_
  refine lv_bipush (v := (8 : Int32)) C0.hx C0.hb dX8_init_90 (by decide) ?_
  obtain ⟨S24, hS24, h⟩ := Option.bind_eq_some_iff.mp h
  refine q_newI (N := 8) C0 hw hN hb0 hS24 kw_153 rfl (by decide) (Nat.le_of_ble_eq_true rfl) (Nat.le_of_ble_eq_true rfl) dX8_init_92 (fun H hw hN => ?_)
  obtain ⟨S25, hS25, h⟩ := Option.bind_eq_some_iff.mp h
  refine q_putF C0 hw hmn hS25 rfl in_8 tyX8_ok nmX8 ⟨by decide, by decide, rfl, rfl, rfl⟩ (fun _ => ⟨rfl, rfl⟩) kw_359 dX8_init_94 (fun H locs hw => ?_)
  rw [← pR_1 hS25] at hN
  refine lv_iconst (v := (0 : Int32)) C0.hx C0.hb dX8_init_97 (by decide) ?_
  refine lv_istore_n (lv' := [(1, .int (0 : Int32)), (0, .ref (b0 + a0))]) C0.hx C0.hb dX8_init_98 rfl hl (by decide) rfl (fun ls hl => ?_)
  refine lv_iload_n C0.hx C0.hb dX8_init_99 rfl (lv_at hl 0 rfl) ?_
  refine lv_iconst (v := (2 : Int32)) C0.hx C0.hb dX8_init_100 (by decide) ?_
  refine lv_icmp_ge (tgt := 123) C0.hx C0.hb dX8_init_101 (by decide) (fun hc => absurd hc (by decide)) (fun _ => ?_)
  refine lv_aload_n C0.hx C0.hb dX8_init_104 rfl (lv_at hl 1 rfl) ?_
  obtain ⟨r26, hr26, h⟩ := Option.bind_eq_some_iff.mp h
  refine q_getR C0 hw hr26 rfl in_8 (by decide) kw_354 dX8_init_105 ?_
  refine lv_iload_n C0.hx C0.hb dX8_init_108 rfl (lv_at hl 0 rfl) ?_
  obtain ⟨S27, hS27, h⟩ := Option.bind_eq_some_iff.mp h
  refine q_newO C0 hw hN hb0 hS27 rfl in_1 tyX1_ok ⟨by decide, rfl⟩ df_1 kw_311 kw_332 kw_71 (Nat.le_of_ble_eq_true rfl) (Nat.le_of_ble_eq_true rfl) dX8_init_109 (fun H hw hN => ?_)
  refine lv_dup C0.hx C0.hb dX8_init_112 rfl ?_
  obtain ⟨S28, hS28, h⟩ := Option.bind_eq_some_iff.mp h
  refine q_callIN C0 hw hN (by omega) (m_X1_init l b0 D cy S27 S25.1 hS28) kw_333 kw_334 kw_71 kw_335 ⟨rfl, rfl⟩ rfl (by decide +kernel) ⟨(Nat.le_of_ble_eq_true rfl), (Nat.le_of_ble_eq_true rfl)⟩ hl.1 (Nat.le_of_ble_eq_true rfl) dX8_init_113 ⟨(Nat.le_of_ble_eq_true rfl), (Nat.le_of_ble_eq_true rfl)⟩ (fun H locs hw hN => ?_)
  obtain ⟨S29, hS29, h⟩ := Option.bind_eq_some_iff.mp h
  refine q_stR13 C0 hw hS29 dX8_init_116 (fun H locs hw => ?_)
  rw [← stR_1 hS29] at hN
  refine lv_iinc (v := (1 : Int32)) (lv' := [(1, .int (1 : Int32)), (0, .ref (b0 + a0))]) C0.hx C0.hb dX8_init_117 hl (k := 0) rfl (by decide) (by decide) rfl (fun ls hl => ?_)
  refine lv_goto (tgt := 99) C0.hx C0.hb dX8_init_120 (by decide) ?_
  refine lv_iload_n C0.hx C0.hb dX8_init_99 rfl (lv_at hl 0 rfl) ?_
  refine lv_iconst (v := (2 : Int32)) C0.hx C0.hb dX8_init_100 (by decide) ?_
  refine lv_icmp_ge (tgt := 123) C0.hx C0.hb dX8_init_101 (by decide) (fun hc => absurd hc (by decide)) (fun _ => ?_)
  refine lv_aload_n C0.hx C0.hb dX8_init_104 rfl (lv_at hl 1 rfl) ?_
  obtain ⟨r30, hr30, h⟩ := Option.bind_eq_some_iff.mp h
  refine q_getR C0 hw hr30 rfl in_8 (by decide) kw_354 dX8_init_105 ?_
  refine lv_iload_n C0.hx C0.hb dX8_init_108 rfl (lv_at hl 0 rfl) ?_
  obtain ⟨S31, hS31, h⟩ := Option.bind_eq_some_iff.mp h
  refine q_newO C0 hw hN hb0 hS31 rfl in_1 tyX1_ok ⟨by decide, rfl⟩ df_1 kw_311 kw_332 kw_71 (Nat.le_of_ble_eq_true rfl) (Nat.le_of_ble_eq_true rfl) dX8_init_109 (fun H hw hN => ?_)
  refine lv_dup C0.hx C0.hb dX8_init_112 rfl ?_
  obtain ⟨S32, hS32, h⟩ := Option.bind_eq_some_iff.mp h
  refine q_callIN C0 hw hN (by omega) (m_X1_init l b0 D cy S31 S29.1 hS32) kw_333 kw_334 kw_71 kw_335 ⟨rfl, rfl⟩ rfl (by decide +kernel) ⟨(Nat.le_of_ble_eq_true rfl), (Nat.le_of_ble_eq_true rfl)⟩ hl.1 (Nat.le_of_ble_eq_true rfl) dX8_init_113 ⟨(Nat.le_of_ble_eq_true rfl), (Nat.le_of_ble_eq_true rfl)⟩ (fun H locs hw hN => ?_)
  obtain ⟨S33, hS33, h⟩ := Option.bind_eq_some_iff.mp h
  refine q_stR13 C0 hw hS33 dX8_init_116 (fun H locs hw => ?_)
  rw [← stR_1 hS33] at hN
  refine lv_iinc (v := (2 : Int32)) (lv' := [(1, .int (2 : Int32)), (0, .ref (b0 + a0))]) C0.hx C0.hb dX8_init_117 hl (k := 0) rfl (by decide) (by decide) rfl (fun ls hl => ?_)
  refine lv_goto (tgt := 99) C0.hx C0.hb dX8_init_120 (by decide) ?_
  refine lv_iload_n C0.hx C0.hb dX8_init_99 rfl (lv_at hl 0 rfl) ?_
  refine lv_iconst (v := (2 : Int32)) C0.hx C0.hb dX8_init_100 (by decide) ?_
  refine lv_icmp_ge (tgt := 123) C0.hx C0.hb dX8_init_101 (by decide) (fun _ => ?_) (fun hc => absurd (by decide) hc)
  refine W.widen (k := 215) (n := 2493) (Nat.le_of_ble_eq_true rfl) (Nat.le_of_ble_eq_true rfl) ?_
  obtain rfl := Option.some.inj h
  exact q_retN (S0 := S) C0 hw hlow (by omega) hr hlocks dX8_init_123
abbrev rm_X9_init : Room := { frames := 1, cells := 16, slots := 2149, locals := 20 }
def f_X9_init (a0 : Nat) (S : Mem) : Option Mem :=
    (newA 10 (12 : Int32) S).bind fun S1 =>
      (pR 9 4 S1 a0 S.1).bind fun S2 =>
      (newA 10 (12 : Int32) S2).bind fun S3 =>
      (pR 9 5 S3 a0 S2.1).bind fun S4 =>
      (newA 10 (6 : Int32) S4).bind fun S5 =>
      (pR 9 6 S5 a0 S4.1).bind fun S6 =>
      (newA 11 (80 : Int32) S6).bind fun S7 =>
      (pR 9 7 S7 a0 S6.1).bind fun S8 =>
      (newA 10 (240 : Int32) S8).bind fun S9 =>
      (pR 9 9 S9 a0 S8.1).bind fun S10 =>
      (newA 10 (56 : Int32) S10).bind fun S11 =>
      (pR 9 14 S11 a0 S10.1).bind fun S12 =>
      (newA 11 (1280 : Int32) S12).bind fun S13 =>
      (pR 9 15 S13 a0 S12.1).bind fun S14 =>
      (newA 11 (80 : Int32) S14).bind fun S15 =>
      (pR 9 17 S15 a0 S14.1).bind fun S16 =>
      (newA 10 (8 : Int32) S16).bind fun S17 =>
      (pR 9 18 S17 a0 S16.1).bind fun S18 =>
      (newA 12 (64 : Int32) S18).bind fun S19 =>
      (pR 9 19 S19 a0 S18.1).bind fun S20 =>
      (newA 10 (8 : Int32) S20).bind fun S21 =>
      (pR 9 20 S21 a0 S20.1).bind fun S22 =>
      (newA 10 (8 : Int32) S22).bind fun S23 =>
      (pR 9 21 S23 a0 S22.1).bind fun S24 =>
      (newA 10 (101 : Int32) S24).bind fun S25 =>
      (pR 9 22 S25 a0 S24.1).bind fun S26 =>
      (newA 10 (30 : Int32) S26).bind fun S27 =>
      (pR 9 23 S27 a0 S26.1).bind fun S28 =>
      (newA 11 (162 : Int32) S28).bind fun S29 =>
      (pR 9 25 S29 a0 S28.1).bind fun S30 =>
      (newA 12 (2 : Int32) S30).bind fun S31 =>
      (pR 9 26 S31 a0 S30.1).bind fun S32 =>
      (pI 9 13 S32 a0 (-1 : Int32)).bind fun S33 =>
      some S33
set_option maxHeartbeats 4000000 in
set_option maxRecDepth 100000 in
theorem m_X9_init (l : Launch) (b0 : Nat) (D : va_G) (cy : Nat → ClassId) (S : Mem) (a0 : Nat) {q : Mem} (h : f_X9_init a0 S = some q) : Met l yX9_init [.code yX9_init cX9_init 1 none] rm_X9_init (PrM b0 D cy S [.ref (b0 + a0)]) (QpN b0 D cy S 16 q) 16 2149 (fun q => b0 ≤ q) := by
  refine Met.ofW (cc := cX9_init) (maxL := 1) (ret := none) (by decide) rfl ?_
  intro p e s m args below meth c s₁ B hml hv
  obtain ⟨rfl, hz, h0, hP, hK, hT⟩ := hv
  have hlow := wl_low h0 hP
  have hN : s.heap.size + 0 ≤ b0 + S.1 := hz
  have hb0 : b0 ≤ s.heap.size := by omega
  have hmn : meth.name = "<init>" := (name_of_methodNamed B.named B.method).1
  have C0 : Cx p m c cX9_init 1 s (List.toArray [.ref (b0 + a0)]) RX9 D cy := ⟨⟨B.exec, B.bytes, hml, findClass_of_methodNamed B.named, fun w h => hT w h _⟩, hK, hT⟩
  have hr : meth.sig.returnType = none := B.returns
  have hlocks := B.notSynchronized
  have hw : Wd b0 D cy S s.heap s.heap [] := ⟨hP, va_S.rf⟩
  have hl := lv_entry ([.ref (b0 + a0)]) (n := 1) (Nat.le_of_ble_eq_true rfl)
  rw [lg_entry_eq]
  generalize (lg_sl ([.ref (b0 + a0)]) ++ List.replicate (1 - (lg_sl ([.ref (b0 + a0)])).length) Slot.unset).toArray = ls at hl ⊢
  have hl : lv_has ls 1 [(0, .ref (b0 + a0))] := hl
  rw [f_X9_init] at h
  show W p l e rm_X9_init s m _ below meth c s.heap [] 0 0 _ _
  refine lv_aload_n C0.hx C0.hb dX9_init_0 rfl (lv_at hl 0 rfl) ?_
  refine W.objInit C0.hx C0.hb C0.ho (C0.w kw_861) (C0.w kw_84) (C0.w kw_85) rfl (hl.1.trans C0.1.2.2.1.symm) rfl dX9_init_1 (Nat.le_of_ble_eq_true rfl) (Nat.le_of_ble_eq_true rfl) ?_
  refine W.eq (g2 := F0 m 4 ls []) rfl ?_
  refine lv_aload_n C0.hx C0.hb dX9_init_4 rfl (lv_at hl 0 rfl) ?_
  refine lv_bipush (v := (12 : Int32)) C0.hx C0.hb dX9_init_5 (by decide) ?_
  obtain ⟨S1, hS1, h⟩ := Option.bind_eq_some_iff.mp h
  refine q_newI (N := 12) C0 hw hN hb0 hS1 kw_153 rfl (by decide) (Nat.le_of_ble_eq_true rfl) (Nat.le_of_ble_eq_true rfl) dX9_init_7 (fun H hw hN => ?_)
  obtain ⟨S2, hS2, h⟩ := Option.bind_eq_some_iff.mp h
  refine q_putF C0 hw hmn hS2 rfl in_9 tyX9_ok nmX9 ⟨by decide, by decide, rfl, rfl, rfl⟩ (fun _ => ⟨rfl, rfl⟩) kw_866 dX9_init_9 (fun H locs hw => ?_)
  rw [← pR_1 hS2] at hN
  refine lv_aload_n C0.hx C0.hb dX9_init_12 rfl (lv_at hl 0 rfl) ?_
  refine lv_bipush (v := (12 : Int32)) C0.hx C0.hb dX9_init_13 (by decide) ?_
  obtain ⟨S3, hS3, h⟩ := Option.bind_eq_some_iff.mp h
  refine q_newI (N := 12) C0 hw hN hb0 hS3 kw_153 rfl (by decide) (Nat.le_of_ble_eq_true rfl) (Nat.le_of_ble_eq_true rfl) dX9_init_15 (fun H hw hN => ?_)
  obtain ⟨S4, hS4, h⟩ := Option.bind_eq_some_iff.mp h
  refine q_putF C0 hw hmn hS4 rfl in_9 tyX9_ok nmX9 ⟨by decide, by decide, rfl, rfl, rfl⟩ (fun _ => ⟨rfl, rfl⟩) kw_867 dX9_init_17 (fun H locs hw => ?_)
  rw [← pR_1 hS4] at hN
  refine lv_aload_n C0.hx C0.hb dX9_init_20 rfl (lv_at hl 0 rfl) ?_
  refine lv_bipush (v := (6 : Int32)) C0.hx C0.hb dX9_init_21 (by decide) ?_
  obtain ⟨S5, hS5, h⟩ := Option.bind_eq_some_iff.mp h
  refine q_newI (N := 6) C0 hw hN hb0 hS5 kw_153 rfl (by decide) (Nat.le_of_ble_eq_true rfl) (Nat.le_of_ble_eq_true rfl) dX9_init_23 (fun H hw hN => ?_)
  obtain ⟨S6, hS6, h⟩ := Option.bind_eq_some_iff.mp h
  refine q_putF C0 hw hmn hS6 rfl in_9 tyX9_ok nmX9 ⟨by decide, by decide, rfl, rfl, rfl⟩ (fun _ => ⟨rfl, rfl⟩) kw_868 dX9_init_25 (fun H locs hw => ?_)
  rw [← pR_1 hS6] at hN
  refine lv_aload_n C0.hx C0.hb dX9_init_28 rfl (lv_at hl 0 rfl) ?_
  refine lv_bipush (v := (80 : Int32)) C0.hx C0.hb dX9_init_29 (by decide) ?_
  obtain ⟨S7, hS7, h⟩ := Option.bind_eq_some_iff.mp h
  refine q_newJ (N := 80) C0 hw hN hb0 hS7 kw_944 rfl (by decide) (Nat.le_of_ble_eq_true rfl) (Nat.le_of_ble_eq_true rfl) dX9_init_31 (fun H hw hN => ?_)
  obtain ⟨S8, hS8, h⟩ := Option.bind_eq_some_iff.mp h
  refine q_putF C0 hw hmn hS8 rfl in_9 tyX9_ok nmX9 ⟨by decide, by decide, rfl, rfl, rfl⟩ (fun _ => ⟨rfl, rfl⟩) kw_869 dX9_init_33 (fun H locs hw => ?_)
  rw [← pR_1 hS8] at hN
  refine lv_aload_n C0.hx C0.hb dX9_init_36 rfl (lv_at hl 0 rfl) ?_
  refine lv_sipush (v := (240 : Int32)) C0.hx C0.hb dX9_init_37 (by decide) ?_
  obtain ⟨S9, hS9, h⟩ := Option.bind_eq_some_iff.mp h
  refine q_newI (N := 240) C0 hw hN hb0 hS9 kw_153 rfl (by decide) (Nat.le_of_ble_eq_true rfl) (Nat.le_of_ble_eq_true rfl) dX9_init_40 (fun H hw hN => ?_)
  obtain ⟨S10, hS10, h⟩ := Option.bind_eq_some_iff.mp h
  refine q_putF C0 hw hmn hS10 rfl in_9 tyX9_ok nmX9 ⟨by decide, by decide, rfl, rfl, rfl⟩ (fun _ => ⟨rfl, rfl⟩) kw_871 dX9_init_42 (fun H locs hw => ?_)
  rw [← pR_1 hS10] at hN
  refine lv_aload_n C0.hx C0.hb dX9_init_45 rfl (lv_at hl 0 rfl) ?_
  refine lv_bipush (v := (56 : Int32)) C0.hx C0.hb dX9_init_46 (by decide) ?_
  obtain ⟨S11, hS11, h⟩ := Option.bind_eq_some_iff.mp h
  refine q_newI (N := 56) C0 hw hN hb0 hS11 kw_153 rfl (by decide) (Nat.le_of_ble_eq_true rfl) (Nat.le_of_ble_eq_true rfl) dX9_init_48 (fun H hw hN => ?_)
  obtain ⟨S12, hS12, h⟩ := Option.bind_eq_some_iff.mp h
  refine q_putF C0 hw hmn hS12 rfl in_9 tyX9_ok nmX9 ⟨by decide, by decide, rfl, rfl, rfl⟩ (fun _ => ⟨rfl, rfl⟩) kw_876 dX9_init_50 (fun H locs hw => ?_)
  rw [← pR_1 hS12] at hN
  refine lv_aload_n C0.hx C0.hb dX9_init_53 rfl (lv_at hl 0 rfl) ?_
  refine lv_sipush (v := (1280 : Int32)) C0.hx C0.hb dX9_init_54 (by decide) ?_
  obtain ⟨S13, hS13, h⟩ := Option.bind_eq_some_iff.mp h
  refine q_newJ (N := 1280) C0 hw hN hb0 hS13 kw_944 rfl (by decide) (Nat.le_of_ble_eq_true rfl) (Nat.le_of_ble_eq_true rfl) dX9_init_57 (fun H hw hN => ?_)
  obtain ⟨S14, hS14, h⟩ := Option.bind_eq_some_iff.mp h
  refine q_putF C0 hw hmn hS14 rfl in_9 tyX9_ok nmX9 ⟨by decide, by decide, rfl, rfl, rfl⟩ (fun _ => ⟨rfl, rfl⟩) kw_877 dX9_init_59 (fun H locs hw => ?_)
  rw [← pR_1 hS14] at hN
  refine lv_aload_n C0.hx C0.hb dX9_init_62 rfl (lv_at hl 0 rfl) ?_
  refine lv_bipush (v := (80 : Int32)) C0.hx C0.hb dX9_init_63 (by decide) ?_
  obtain ⟨S15, hS15, h⟩ := Option.bind_eq_some_iff.mp h
  refine q_newJ (N := 80) C0 hw hN hb0 hS15 kw_944 rfl (by decide) (Nat.le_of_ble_eq_true rfl) (Nat.le_of_ble_eq_true rfl) dX9_init_65 (fun H hw hN => ?_)
  obtain ⟨S16, hS16, h⟩ := Option.bind_eq_some_iff.mp h
  refine q_putF C0 hw hmn hS16 rfl in_9 tyX9_ok nmX9 ⟨by decide, by decide, rfl, rfl, rfl⟩ (fun _ => ⟨rfl, rfl⟩) kw_879 dX9_init_67 (fun H locs hw => ?_)
  rw [← pR_1 hS16] at hN
  refine lv_aload_n C0.hx C0.hb dX9_init_70 rfl (lv_at hl 0 rfl) ?_
  refine lv_bipush (v := (8 : Int32)) C0.hx C0.hb dX9_init_71 (by decide) ?_
  obtain ⟨S17, hS17, h⟩ := Option.bind_eq_some_iff.mp h
  refine q_newI (N := 8) C0 hw hN hb0 hS17 kw_153 rfl (by decide) (Nat.le_of_ble_eq_true rfl) (Nat.le_of_ble_eq_true rfl) dX9_init_73 (fun H hw hN => ?_)
  obtain ⟨S18, hS18, h⟩ := Option.bind_eq_some_iff.mp h
  refine q_putF C0 hw hmn hS18 rfl in_9 tyX9_ok nmX9 ⟨by decide, by decide, rfl, rfl, rfl⟩ (fun _ => ⟨rfl, rfl⟩) kw_880 dX9_init_75 (fun H locs hw => ?_)
  rw [← pR_1 hS18] at hN
  refine lv_aload_n C0.hx C0.hb dX9_init_78 rfl (lv_at hl 0 rfl) ?_
  refine lv_bipush (v := (64 : Int32)) C0.hx C0.hb dX9_init_79 (by decide) ?_
  obtain ⟨S19, hS19, h⟩ := Option.bind_eq_some_iff.mp h
  refine q_newZ (N := 64) C0 hw hN hb0 hS19 kw_945 rfl (by decide) (Nat.le_of_ble_eq_true rfl) (Nat.le_of_ble_eq_true rfl) dX9_init_81 (fun H hw hN => ?_)
  obtain ⟨S20, hS20, h⟩ := Option.bind_eq_some_iff.mp h
  refine q_putF C0 hw hmn hS20 rfl in_9 tyX9_ok nmX9 ⟨by decide, by decide, rfl, rfl, rfl⟩ (fun _ => ⟨rfl, rfl⟩) kw_881 dX9_init_83 (fun H locs hw => ?_)
  rw [← pR_1 hS20] at hN
  refine lv_aload_n C0.hx C0.hb dX9_init_86 rfl (lv_at hl 0 rfl) ?_
  refine lv_bipush (v := (8 : Int32)) C0.hx C0.hb dX9_init_87 (by decide) ?_
  obtain ⟨S21, hS21, h⟩ := Option.bind_eq_some_iff.mp h
  refine q_newI (N := 8) C0 hw hN hb0 hS21 kw_153 rfl (by decide) (Nat.le_of_ble_eq_true rfl) (Nat.le_of_ble_eq_true rfl) dX9_init_89 (fun H hw hN => ?_)
  obtain ⟨S22, hS22, h⟩ := Option.bind_eq_some_iff.mp h
  refine q_putF C0 hw hmn hS22 rfl in_9 tyX9_ok nmX9 ⟨by decide, by decide, rfl, rfl, rfl⟩ (fun _ => ⟨rfl, rfl⟩) kw_882 dX9_init_91 (fun H locs hw => ?_)
  rw [← pR_1 hS22] at hN
  refine lv_aload_n C0.hx C0.hb dX9_init_94 rfl (lv_at hl 0 rfl) ?_
  refine lv_bipush (v := (8 : Int32)) C0.hx C0.hb dX9_init_95 (by decide) ?_
  obtain ⟨S23, hS23, h⟩ := Option.bind_eq_some_iff.mp h
  refine q_newI (N := 8) C0 hw hN hb0 hS23 kw_153 rfl (by decide) (Nat.le_of_ble_eq_true rfl) (Nat.le_of_ble_eq_true rfl) dX9_init_97 (fun H hw hN => ?_)
  obtain ⟨S24, hS24, h⟩ := Option.bind_eq_some_iff.mp h
  refine q_putF C0 hw hmn hS24 rfl in_9 tyX9_ok nmX9 ⟨by decide, by decide, rfl, rfl, rfl⟩ (fun _ => ⟨rfl, rfl⟩) kw_883 dX9_init_99 (fun H locs hw => ?_)
  rw [← pR_1 hS24] at hN
  refine lv_aload_n C0.hx C0.hb dX9_init_102 rfl (lv_at hl 0 rfl) ?_
  refine lv_bipush (v := (101 : Int32)) C0.hx C0.hb dX9_init_103 (by decide) ?_
  obtain ⟨S25, hS25, h⟩ := Option.bind_eq_some_iff.mp h
  refine q_newI (N := 101) C0 hw hN hb0 hS25 kw_153 rfl (by decide) (Nat.le_of_ble_eq_true rfl) (Nat.le_of_ble_eq_true rfl) dX9_init_105 (fun H hw hN => ?_)
  obtain ⟨S26, hS26, h⟩ := Option.bind_eq_some_iff.mp h
  refine q_putF C0 hw hmn hS26 rfl in_9 tyX9_ok nmX9 ⟨by decide, by decide, rfl, rfl, rfl⟩ (fun _ => ⟨rfl, rfl⟩) kw_884 dX9_init_107 (fun H locs hw => ?_)
  rw [← pR_1 hS26] at hN
  refine lv_aload_n C0.hx C0.hb dX9_init_110 rfl (lv_at hl 0 rfl) ?_
  refine lv_bipush (v := (30 : Int32)) C0.hx C0.hb dX9_init_111 (by decide) ?_
  obtain ⟨S27, hS27, h⟩ := Option.bind_eq_some_iff.mp h
  refine q_newI (N := 30) C0 hw hN hb0 hS27 kw_153 rfl (by decide) (Nat.le_of_ble_eq_true rfl) (Nat.le_of_ble_eq_true rfl) dX9_init_113 (fun H hw hN => ?_)
  obtain ⟨S28, hS28, h⟩ := Option.bind_eq_some_iff.mp h
  refine q_putF C0 hw hmn hS28 rfl in_9 tyX9_ok nmX9 ⟨by decide, by decide, rfl, rfl, rfl⟩ (fun _ => ⟨rfl, rfl⟩) kw_885 dX9_init_115 (fun H locs hw => ?_)
  rw [← pR_1 hS28] at hN
  refine lv_aload_n C0.hx C0.hb dX9_init_118 rfl (lv_at hl 0 rfl) ?_
  refine lv_sipush (v := (162 : Int32)) C0.hx C0.hb dX9_init_119 (by decide) ?_
  obtain ⟨S29, hS29, h⟩ := Option.bind_eq_some_iff.mp h
  refine q_newJ (N := 162) C0 hw hN hb0 hS29 kw_944 rfl (by decide) (Nat.le_of_ble_eq_true rfl) (Nat.le_of_ble_eq_true rfl) dX9_init_122 (fun H hw hN => ?_)
  obtain ⟨S30, hS30, h⟩ := Option.bind_eq_some_iff.mp h
  refine q_putF C0 hw hmn hS30 rfl in_9 tyX9_ok nmX9 ⟨by decide, by decide, rfl, rfl, rfl⟩ (fun _ => ⟨rfl, rfl⟩) kw_887 dX9_init_124 (fun H locs hw => ?_)
  rw [← pR_1 hS30] at hN
  refine lv_aload_n C0.hx C0.hb dX9_init_127 rfl (lv_at hl 0 rfl) ?_
  refine lv_iconst (v := (2 : Int32)) C0.hx C0.hb dX9_init_128 (by decide) ?_
  obtain ⟨S31, hS31, h⟩ := Option.bind_eq_some_iff.mp h
  refine q_newZ (N := 2) C0 hw hN hb0 hS31 kw_945 rfl (by decide) (Nat.le_of_ble_eq_true rfl) (Nat.le_of_ble_eq_true rfl) dX9_init_129 (fun H hw hN => ?_)
  obtain ⟨S32, hS32, h⟩ := Option.bind_eq_some_iff.mp h
  refine q_putF C0 hw hmn hS32 rfl in_9 tyX9_ok nmX9 ⟨by decide, by decide, rfl, rfl, rfl⟩ (fun _ => ⟨rfl, rfl⟩) kw_888 dX9_init_131 (fun H locs hw => ?_)
  rw [← pR_1 hS32] at hN
  refine lv_aload_n C0.hx C0.hb dX9_init_134 rfl (lv_at hl 0 rfl) ?_
  refine lv_iconst (v := (-1 : Int32)) C0.hx C0.hb dX9_init_135 (by decide) ?_
  obtain ⟨S33, hS33, h⟩ := Option.bind_eq_some_iff.mp h
  refine q_putI C0 hw hS33 rfl in_9 tyX9_ok nmX9 ⟨by decide, by decide, rfl, rfl⟩ rfl kw_875 dX9_init_136 (fun H locs hw => ?_)
  rw [← pI_1 hS33] at hN
  refine W.widen (k := 16) (n := 2149) (Nat.le_of_ble_eq_true rfl) (Nat.le_of_ble_eq_true rfl) ?_
  obtain rfl := Option.some.inj h
  exact q_retN (S0 := S) C0 hw hlow (by omega) hr hlocks dX9_init_139
