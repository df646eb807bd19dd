abbrev rm_X8_told : Room := { frames := 0, cells := 0, slots := 0, locals := 0 }
def f_X8_told (a0 : Nat) (x1 : Int32) (S : Mem) : Option Int32 :=
    (if x1 = (0 : Int32) then
      (gR 8 1 S a0).bind fun r1 =>
      (gI 2 2 S r1).bind fun v2 =>
      some v2
      else
      if x1 = (1 : Int32) then
      (gR 8 1 S a0).bind fun r3 =>
      (gI 2 3 S r3).bind fun v4 =>
      some v4
      else
      if x1 = (2 : Int32) then
      (gR 8 1 S a0).bind fun r5 =>
      (gI 2 4 S r5).bind fun v6 =>
      some v6
      else
      if x1 = (3 : Int32) then
      (gR 8 0 S a0).bind fun r7 =>
      (gI 6 0 S r7).bind fun v8 =>
      some v8
      else
      if x1 = (4 : Int32) then
      (gR 8 1 S a0).bind fun r9 =>
      (gI 2 0 S r9).bind fun v10 =>
      (if v10 = (0 : Int32) then
      some (-1 : Int32)
      else
      (gR 8 2 S a0).bind fun r11 =>
      (gR 5 0 S r11).bind fun r12 =>
      (gI 4 0 S r12).bind fun v13 =>
      some v13)
      else
      if x1 = (5 : Int32) then
      (gR 8 2 S a0).bind fun r14 =>
      (gI 5 2 S r14).bind fun v15 =>
      some v15
      else
      if x1 = (6 : Int32) then
      (gR 8 1 S a0).bind fun r16 =>
      (gI 2 2 S r16).bind fun v17 =>
      (if v17 ≤ (0 : Int32) then
      some (-1 : Int32)
      else
      (gR 8 2 S a0).bind fun r18 =>
      (gR 5 0 S r18).bind fun r19 =>
      (gI 4 1 S r19).bind fun v20 =>
      some v20)
      else
      if x1 = (7 : Int32) then
      (gR 8 2 S a0).bind fun r21 =>
      (gR 5 0 S r21).bind fun r22 =>
      (gI 4 2 S r22).bind fun v23 =>
      some v23
      else
      if x1 = (8 : Int32) then
      (gR 8 2 S a0).bind fun r24 =>
      (gR 5 0 S r24).bind fun r25 =>
      (gI 4 5 S r25).bind fun v26 =>
      some v26
      else
      if x1 = (9 : Int32) then
      (gR 8 2 S a0).bind fun r27 =>
      (gR 5 0 S r27).bind fun r28 =>
      (gI 4 6 S r28).bind fun v29 =>
      some v29
      else
      if x1 = (10 : Int32) then
      (gR 8 2 S a0).bind fun r30 =>
      (gI 5 3 S r30).bind fun v31 =>
      some v31
      else
      if x1 = (11 : Int32) then
      (gR 8 2 S a0).bind fun r32 =>
      (gI 5 4 S r32).bind fun v33 =>
      some v33
      else
      if x1 = (12 : Int32) then
      (gR 8 2 S a0).bind fun r34 =>
      (gI 5 5 S r34).bind fun v35 =>
      some v35
      else
      if x1 = (13 : Int32) then
      (gR 8 2 S a0).bind fun r36 =>
      (gR 5 1 S r36).bind fun r37 =>
      (gI 7 0 S r37).bind fun v38 =>
      some v38
      else
      if x1 = (14 : Int32) then
      (gR 8 5 S a0).bind fun r39 =>
      (gI 0 0 S r39).bind fun v40 =>
      some v40
      else
      if x1 = (15 : Int32) then
      (gR 8 3 S a0).bind fun r41 =>
      (gI 3 0 S r41).bind fun v42 =>
      some v42
      else
      (some (-1000000002 : Int32)))
set_option maxHeartbeats 4000000 in
set_option maxRecDepth 100000 in
theorem m_X8_told (l : Launch) (b0 : Nat) (D : va_G) (cy : Nat → ClassId) (S : Mem) (a0 : Nat) (x1 : Int32) {q : Int32} (h : f_X8_told a0 x1 S = some q) : Met l yX8_told [.code yX8_told cX8_told 2 (some .int)] rm_X8_told (Pr b0 D cy S [.ref (b0 + a0), .int x1]) (Qp b0 D cy (some (.int q)) S) 0 0 (fun q => b0 ≤ q) := by
  refine Met.ofW (cc := cX8_told) (maxL := 2) (ret := some .int) (by decide) rfl ?_
  intro p e s m args below meth c s₁ B hml hv
  obtain ⟨rfl, hP, hK, hT⟩ := hv
  have C0 : Cx p m c cX8_told 2 s (List.toArray [.ref (b0 + a0), .int x1]) RX8 D cy := ⟨⟨B.exec, B.bytes, hml, findClass_of_methodNamed B.named, fun w h => hT w h _⟩, hK, hT⟩
  have hr : meth.sig.returnType = some .int := B.returns
  have hlocks := B.notSynchronized
  have hw : Wd b0 D cy S s.heap s.heap [] := ⟨hP, va_S.rf⟩
  have hl := lv_entry ([.ref (b0 + a0), .int x1]) (n := 2) (Nat.le_of_ble_eq_true rfl)
  rw [lg_entry_eq]
  generalize (lg_sl ([.ref (b0 + a0), .int x1]) ++ List.replicate (2 - (lg_sl ([.ref (b0 + a0), .int x1])).length) Slot.unset).toArray = ls at hl ⊢
  have hl : lv_has ls 2 [(0, .ref (b0 + a0)), (1, .int x1)] := hl
  rw [f_X8_told] at h
  show W p l e rm_X8_told s m _ below meth c s.heap [] 0 0 _ _
  refine lv_iload_n C0.hx C0.hb dX8_told_0 rfl (lv_at hl 1 rfl) ?_
  by_cases hc0 : x1 = (0 : Int32)
  · have h := (if_pos hc0).symm.trans h
    refine lv_tableIn (off := 79) (tgt := 80) C0.hx C0.hb dX8_told_1 (by rw [hc0]; decide) (by rw [hc0]; decide) (by rw [hc0]; rfl) (by decide) ?_
    refine lv_aload_n C0.hx C0.hb dX8_told_80 rfl (lv_at hl 0 rfl) ?_
    obtain ⟨r1, hr1, h⟩ := Option.bind_eq_some_iff.mp h
    refine q_getR C0 hw hr1 rfl in_8 (by decide) kw_351 dX8_told_81 ?_
    obtain ⟨v2, hv2, h⟩ := Option.bind_eq_some_iff.mp h
    refine q_getI C0 hw hv2 rfl in_2 (by decide) kw_105 dX8_told_84 ?_
    obtain rfl := Option.some.inj h
    exact q_reti C0 hw hr hlocks dX8_told_87
  · have h := (if_neg hc0).symm.trans h
    by_cases hc1 : x1 = (1 : Int32)
    · have h := (if_pos hc1).symm.trans h
      refine lv_tableIn (off := 87) (tgt := 88) C0.hx C0.hb dX8_told_1 (by rw [hc1]; decide) (by rw [hc1]; decide) (by rw [hc1]; rfl) (by decide) ?_
      refine lv_aload_n C0.hx C0.hb dX8_told_88 rfl (lv_at hl 0 rfl) ?_
      obtain ⟨r3, hr3, h⟩ := Option.bind_eq_some_iff.mp h
      refine q_getR C0 hw hr3 rfl in_8 (by decide) kw_351 dX8_told_89 ?_
      obtain ⟨v4, hv4, h⟩ := Option.bind_eq_some_iff.mp h
      refine q_getI C0 hw hv4 rfl in_2 (by decide) kw_109 dX8_told_92 ?_
      obtain rfl := Option.some.inj h
      exact q_reti C0 hw hr hlocks dX8_told_95
    · have h := (if_neg hc1).symm.trans h
      by_cases hc2 : x1 = (2 : Int32)
      · have h := (if_pos hc2).symm.trans h
        refine lv_tableIn (off := 95) (tgt := 96) C0.hx C0.hb dX8_told_1 (by rw [hc2]; decide) (by rw [hc2]; decide) (by rw [hc2]; rfl) (by decide) ?_
        refine lv_aload_n C0.hx C0.hb dX8_told_96 rfl (lv_at hl 0 rfl) ?_
        obtain ⟨r5, hr5, h⟩ := Option.bind_eq_some_iff.mp h
        refine q_getR C0 hw hr5 rfl in_8 (by decide) kw_351 dX8_told_97 ?_
        obtain ⟨v6, hv6, h⟩ := Option.bind_eq_some_iff.mp h
        refine q_getI C0 hw hv6 rfl in_2 (by decide) kw_113 dX8_told_100 ?_
        obtain rfl := Option.some.inj h
        exact q_reti C0 hw hr hlocks dX8_told_103
      · have h := (if_neg hc2).symm.trans h
        by_cases hc3 : x1 = (3 : Int32)
        · have h := (if_pos hc3).symm.trans h
          refine lv_tableIn (off := 103) (tgt := 104) C0.hx C0.hb dX8_told_1 (by rw [hc3]; decide) (by rw [hc3]; decide) (by rw [hc3]; rfl) (by decide) ?_
          refine lv_aload_n C0.hx C0.hb dX8_told_104 rfl (lv_at hl 0 rfl) ?_
          obtain ⟨r7, hr7, h⟩ := Option.bind_eq_some_iff.mp h
          refine q_getR C0 hw hr7 rfl in_8 (by decide) kw_350 dX8_told_105 ?_
          obtain ⟨v8, hv8, h⟩ := Option.bind_eq_some_iff.mp h
          refine q_getI C0 hw hv8 rfl in_6 (by decide) kw_155 dX8_told_108 ?_
          obtain rfl := Option.some.inj h
          exact q_reti C0 hw hr hlocks dX8_told_111
        · have h := (if_neg hc3).symm.trans h
          by_cases hc4 : x1 = (4 : Int32)
          · have h := (if_pos hc4).symm.trans h
            refine lv_tableIn (off := 111) (tgt := 112) C0.hx C0.hb dX8_told_1 (by rw [hc4]; decide) (by rw [hc4]; decide) (by rw [hc4]; rfl) (by decide) ?_
            refine lv_aload_n C0.hx C0.hb dX8_told_112 rfl (lv_at hl 0 rfl) ?_
            obtain ⟨r9, hr9, h⟩ := Option.bind_eq_some_iff.mp h
            refine q_getR C0 hw hr9 rfl in_8 (by decide) kw_351 dX8_told_113 ?_
            obtain ⟨v10, hv10, h⟩ := Option.bind_eq_some_iff.mp h
            refine q_getI C0 hw hv10 rfl in_2 (by decide) kw_100 dX8_told_116 ?_
            refine lv_if_eq (tgt := 135) C0.hx C0.hb dX8_told_119 (by decide) (fun hc => ?_) (fun hc => ?_)
            · have h := (if_pos hc).symm.trans h
              refine lv_iconst (v := (-1 : Int32)) C0.hx C0.hb dX8_told_135 (by decide) ?_
              obtain rfl := Option.some.inj h
              exact q_reti C0 hw hr hlocks dX8_told_136
            · have h := (if_neg hc).symm.trans h
              refine lv_aload_n C0.hx C0.hb dX8_told_122 rfl (lv_at hl 0 rfl) ?_
              obtain ⟨r11, hr11, h⟩ := Option.bind_eq_some_iff.mp h
              refine q_getR C0 hw hr11 rfl in_8 (by decide) kw_352 dX8_told_123 ?_
              obtain ⟨r12, hr12, h⟩ := Option.bind_eq_some_iff.mp h
              refine q_getR C0 hw hr12 rfl in_5 (by decide) kw_259 dX8_told_126 ?_
              obtain ⟨v13, hv13, h⟩ := Option.bind_eq_some_iff.mp h
              refine q_getI C0 hw hv13 rfl in_4 (by decide) kw_196 dX8_told_129 ?_
              refine lv_goto (tgt := 136) C0.hx C0.hb dX8_told_132 (by decide) ?_
              obtain rfl := Option.some.inj h
              exact q_reti C0 hw hr hlocks dX8_told_136
          · have h := (if_neg hc4).symm.trans h
            by_cases hc5 : x1 = (5 : Int32)
            · have h := (if_pos hc5).symm.trans h
              refine lv_tableIn (off := 136) (tgt := 137) C0.hx C0.hb dX8_told_1 (by rw [hc5]; decide) (by rw [hc5]; decide) (by rw [hc5]; rfl) (by decide) ?_
              refine lv_aload_n C0.hx C0.hb dX8_told_137 rfl (lv_at hl 0 rfl) ?_
              obtain ⟨r14, hr14, h⟩ := Option.bind_eq_some_iff.mp h
              refine q_getR C0 hw hr14 rfl in_8 (by decide) kw_352 dX8_told_138 ?_
              obtain ⟨v15, hv15, h⟩ := Option.bind_eq_some_iff.mp h
              refine q_getI C0 hw hv15 rfl in_5 (by decide) kw_263 dX8_told_141 ?_
              obtain rfl := Option.some.inj h
              exact q_reti C0 hw hr hlocks dX8_told_144
            · have h := (if_neg hc5).symm.trans h
              by_cases hc6 : x1 = (6 : Int32)
              · have h := (if_pos hc6).symm.trans h
                refine lv_tableIn (off := 144) (tgt := 145) C0.hx C0.hb dX8_told_1 (by rw [hc6]; decide) (by rw [hc6]; decide) (by rw [hc6]; rfl) (by decide) ?_
                refine lv_aload_n C0.hx C0.hb dX8_told_145 rfl (lv_at hl 0 rfl) ?_
                obtain ⟨r16, hr16, h⟩ := Option.bind_eq_some_iff.mp h
                refine q_getR C0 hw hr16 rfl in_8 (by decide) kw_351 dX8_told_146 ?_
                obtain ⟨v17, hv17, h⟩ := Option.bind_eq_some_iff.mp h
                refine q_getI C0 hw hv17 rfl in_2 (by decide) kw_105 dX8_told_149 ?_
                refine lv_if_le (tgt := 168) C0.hx C0.hb dX8_told_152 (by decide) (fun hc => ?_) (fun hc => ?_)
                · have h := (if_pos hc).symm.trans h
                  refine lv_iconst (v := (-1 : Int32)) C0.hx C0.hb dX8_told_168 (by decide) ?_
                  obtain rfl := Option.some.inj h
                  exact q_reti C0 hw hr hlocks dX8_told_169
                · have h := (if_neg hc).symm.trans h
                  refine lv_aload_n C0.hx C0.hb dX8_told_155 rfl (lv_at hl 0 rfl) ?_
                  obtain ⟨r18, hr18, h⟩ := Option.bind_eq_some_iff.mp h
                  refine q_getR C0 hw hr18 rfl in_8 (by decide) kw_352 dX8_told_156 ?_
                  obtain ⟨r19, hr19, h⟩ := Option.bind_eq_some_iff.mp h
                  refine q_getR C0 hw hr19 rfl in_5 (by decide) kw_259 dX8_told_159 ?_
                  obtain ⟨v20, hv20, h⟩ := Option.bind_eq_some_iff.mp h
                  refine q_getI C0 hw hv20 rfl in_4 (by decide) kw_200 dX8_told_162 ?_
                  refine lv_goto (tgt := 169) C0.hx C0.hb dX8_told_165 (by decide) ?_
                  obtain rfl := Option.some.inj h
                  exact q_reti C0 hw hr hlocks dX8_told_169
              · have h := (if_neg hc6).symm.trans h
                by_cases hc7 : x1 = (7 : Int32)
                · have h := (if_pos hc7).symm.trans h
                  refine lv_tableIn (off := 169) (tgt := 170) C0.hx C0.hb dX8_told_1 (by rw [hc7]; decide) (by rw [hc7]; decide) (by rw [hc7]; rfl) (by decide) ?_
                  refine lv_aload_n C0.hx C0.hb dX8_told_170 rfl (lv_at hl 0 rfl) ?_
                  obtain ⟨r21, hr21, h⟩ := Option.bind_eq_some_iff.mp h
                  refine q_getR C0 hw hr21 rfl in_8 (by decide) kw_352 dX8_told_171 ?_
                  obtain ⟨r22, hr22, h⟩ := Option.bind_eq_some_iff.mp h
                  refine q_getR C0 hw hr22 rfl in_5 (by decide) kw_259 dX8_told_174 ?_
                  obtain ⟨v23, hv23, h⟩ := Option.bind_eq_some_iff.mp h
                  refine q_getI C0 hw hv23 rfl in_4 (by decide) kw_202 dX8_told_177 ?_
                  obtain rfl := Option.some.inj h
                  exact q_reti C0 hw hr hlocks dX8_told_180
                · have h := (if_neg hc7).symm.trans h
                  by_cases hc8 : x1 = (8 : Int32)
                  · have h := (if_pos hc8).symm.trans h
                    refine lv_tableIn (off := 180) (tgt := 181) C0.hx C0.hb dX8_told_1 (by rw [hc8]; decide) (by rw [hc8]; decide) (by rw [hc8]; rfl) (by decide) ?_
                    refine lv_aload_n C0.hx C0.hb dX8_told_181 rfl (lv_at hl 0 rfl) ?_
                    obtain ⟨r24, hr24, h⟩ := Option.bind_eq_some_iff.mp h
                    refine q_getR C0 hw hr24 rfl in_8 (by decide) kw_352 dX8_told_182 ?_
                    obtain ⟨r25, hr25, h⟩ := Option.bind_eq_some_iff.mp h
                    refine q_getR C0 hw hr25 rfl in_5 (by decide) kw_259 dX8_told_185 ?_
                    obtain ⟨v26, hv26, h⟩ := Option.bind_eq_some_iff.mp h
                    refine q_getI C0 hw hv26 rfl in_4 (by decide) kw_210 dX8_told_188 ?_
                    obtain rfl := Option.some.inj h
                    exact q_reti C0 hw hr hlocks dX8_told_191
                  · have h := (if_neg hc8).symm.trans h
                    by_cases hc9 : x1 = (9 : Int32)
                    · have h := (if_pos hc9).symm.trans h
                      refine lv_tableIn (off := 191) (tgt := 192) C0.hx C0.hb dX8_told_1 (by rw [hc9]; decide) (by rw [hc9]; decide) (by rw [hc9]; rfl) (by decide) ?_
                      refine lv_aload_n C0.hx C0.hb dX8_told_192 rfl (lv_at hl 0 rfl) ?_
                      obtain ⟨r27, hr27, h⟩ := Option.bind_eq_some_iff.mp h
                      refine q_getR C0 hw hr27 rfl in_8 (by decide) kw_352 dX8_told_193 ?_
                      obtain ⟨r28, hr28, h⟩ := Option.bind_eq_some_iff.mp h
                      refine q_getR C0 hw hr28 rfl in_5 (by decide) kw_259 dX8_told_196 ?_
                      obtain ⟨v29, hv29, h⟩ := Option.bind_eq_some_iff.mp h
                      refine q_getI C0 hw hv29 rfl in_4 (by decide) kw_212 dX8_told_199 ?_
                      obtain rfl := Option.some.inj h
                      exact q_reti C0 hw hr hlocks dX8_told_202
                    · have h := (if_neg hc9).symm.trans h
                      by_cases hc10 : x1 = (10 : Int32)
                      · have h := (if_pos hc10).symm.trans h
                        refine lv_tableIn (off := 202) (tgt := 203) C0.hx C0.hb dX8_told_1 (by rw [hc10]; decide) (by rw [hc10]; decide) (by rw [hc10]; rfl) (by decide) ?_
                        refine lv_aload_n C0.hx C0.hb dX8_told_203 rfl (lv_at hl 0 rfl) ?_
                        obtain ⟨r30, hr30, h⟩ := Option.bind_eq_some_iff.mp h
                        refine q_getR C0 hw hr30 rfl in_8 (by decide) kw_352 dX8_told_204 ?_
                        obtain ⟨v31, hv31, h⟩ := Option.bind_eq_some_iff.mp h
                        refine q_getI C0 hw hv31 rfl in_5 (by decide) kw_265 dX8_told_207 ?_
                        obtain rfl := Option.some.inj h
                        exact q_reti C0 hw hr hlocks dX8_told_210
                      · have h := (if_neg hc10).symm.trans h
                        by_cases hc11 : x1 = (11 : Int32)
                        · have h := (if_pos hc11).symm.trans h
                          refine lv_tableIn (off := 210) (tgt := 211) C0.hx C0.hb dX8_told_1 (by rw [hc11]; decide) (by rw [hc11]; decide) (by rw [hc11]; rfl) (by decide) ?_
                          refine lv_aload_n C0.hx C0.hb dX8_told_211 rfl (lv_at hl 0 rfl) ?_
                          obtain ⟨r32, hr32, h⟩ := Option.bind_eq_some_iff.mp h
                          refine q_getR C0 hw hr32 rfl in_8 (by decide) kw_352 dX8_told_212 ?_
                          obtain ⟨v33, hv33, h⟩ := Option.bind_eq_some_iff.mp h
                          refine q_getI C0 hw hv33 rfl in_5 (by decide) kw_267 dX8_told_215 ?_
                          obtain rfl := Option.some.inj h
                          exact q_reti C0 hw hr hlocks dX8_told_218
                        · have h := (if_neg hc11).symm.trans h
                          by_cases hc12 : x1 = (12 : Int32)
                          · have h := (if_pos hc12).symm.trans h
                            refine lv_tableIn (off := 218) (tgt := 219) C0.hx C0.hb dX8_told_1 (by rw [hc12]; decide) (by rw [hc12]; decide) (by rw [hc12]; rfl) (by decide) ?_
                            refine lv_aload_n C0.hx C0.hb dX8_told_219 rfl (lv_at hl 0 rfl) ?_
                            obtain ⟨r34, hr34, h⟩ := Option.bind_eq_some_iff.mp h
                            refine q_getR C0 hw hr34 rfl in_8 (by decide) kw_352 dX8_told_220 ?_
                            obtain ⟨v35, hv35, h⟩ := Option.bind_eq_some_iff.mp h
                            refine q_getI C0 hw hv35 rfl in_5 (by decide) kw_269 dX8_told_223 ?_
                            obtain rfl := Option.some.inj h
                            exact q_reti C0 hw hr hlocks dX8_told_226
                          · have h := (if_neg hc12).symm.trans h
                            by_cases hc13 : x1 = (13 : Int32)
                            · have h := (if_pos hc13).symm.trans h
                              refine lv_tableIn (off := 226) (tgt := 227) C0.hx C0.hb dX8_told_1 (by rw [hc13]; decide) (by rw [hc13]; decide) (by rw [hc13]; rfl) (by decide) ?_
                              refine lv_aload_n C0.hx C0.hb dX8_told_227 rfl (lv_at hl 0 rfl) ?_
                              obtain ⟨r36, hr36, h⟩ := Option.bind_eq_some_iff.mp h
                              refine q_getR C0 hw hr36 rfl in_8 (by decide) kw_352 dX8_told_228 ?_
                              obtain ⟨r37, hr37, h⟩ := Option.bind_eq_some_iff.mp h
                              refine q_getR C0 hw hr37 rfl in_5 (by decide) kw_261 dX8_told_231 ?_
                              obtain ⟨v38, hv38, h⟩ := Option.bind_eq_some_iff.mp h
                              refine q_getI C0 hw hv38 rfl in_7 (by decide) kw_239 dX8_told_234 ?_
                              obtain rfl := Option.some.inj h
                              exact q_reti C0 hw hr hlocks dX8_told_237
                            · have h := (if_neg hc13).symm.trans h
                              by_cases hc14 : x1 = (14 : Int32)
                              · have h := (if_pos hc14).symm.trans h
                                refine lv_tableIn (off := 237) (tgt := 238) C0.hx C0.hb dX8_told_1 (by rw [hc14]; decide) (by rw [hc14]; decide) (by rw [hc14]; rfl) (by decide) ?_
                                refine lv_aload_n C0.hx C0.hb dX8_told_238 rfl (lv_at hl 0 rfl) ?_
                                obtain ⟨r39, hr39, h⟩ := Option.bind_eq_some_iff.mp h
                                refine q_getR C0 hw hr39 rfl in_8 (by decide) kw_355 dX8_told_239 ?_
                                obtain ⟨v40, hv40, h⟩ := Option.bind_eq_some_iff.mp h
                                refine q_getI C0 hw hv40 rfl in_0 (by decide) kw_320 dX8_told_242 ?_
                                obtain rfl := Option.some.inj h
                                exact q_reti C0 hw hr hlocks dX8_told_245
                              · have h := (if_neg hc14).symm.trans h
                                by_cases hc15 : x1 = (15 : Int32)
                                · have h := (if_pos hc15).symm.trans h
                                  refine lv_tableIn (off := 245) (tgt := 246) C0.hx C0.hb dX8_told_1 (by rw [hc15]; decide) (by rw [hc15]; decide) (by rw [hc15]; rfl) (by decide) ?_
                                  refine lv_aload_n C0.hx C0.hb dX8_told_246 rfl (lv_at hl 0 rfl) ?_
                                  obtain ⟨r41, hr41, h⟩ := Option.bind_eq_some_iff.mp h
                                  refine q_getR C0 hw hr41 rfl in_8 (by decide) kw_353 dX8_told_247 ?_
                                  obtain ⟨v42, hv42, h⟩ := Option.bind_eq_some_iff.mp h
                                  refine q_getI C0 hw hv42 rfl in_3 (by decide) kw_301 dX8_told_250 ?_
                                  obtain rfl := Option.some.inj h
                                  exact q_reti C0 hw hr hlocks dX8_told_253
                                · have h := (if_neg hc15).symm.trans h
                                  refine lv_tableOut (tgt := 254) C0.hx C0.hb dX8_told_1 (by have n0 := lv_neT (a := 0) hc0 (by decide); have n1 := lv_neT (a := 1) hc1 (by decide); have n2 := lv_neT (a := 2) hc2 (by decide); have n3 := lv_neT (a := 3) hc3 (by decide); have n4 := lv_neT (a := 4) hc4 (by decide); have n5 := lv_neT (a := 5) hc5 (by decide); have n6 := lv_neT (a := 6) hc6 (by decide); have n7 := lv_neT (a := 7) hc7 (by decide); have n8 := lv_neT (a := 8) hc8 (by decide); have n9 := lv_neT (a := 9) hc9 (by decide); have n10 := lv_neT (a := 10) hc10 (by decide); have n11 := lv_neT (a := 11) hc11 (by decide); have n12 := lv_neT (a := 12) hc12 (by decide); have n13 := lv_neT (a := 13) hc13 (by decide); have n14 := lv_neT (a := 14) hc14 (by decide); have n15 := lv_neT (a := 15) hc15 (by decide); omega) (by decide) ?_
                                  refine lv_ldc C0.hx C0.hb C0.ho (C0.w kw_385) dX8_told_254 ?_
                                  obtain rfl := Option.some.inj h
                                  exact q_reti C0 hw hr hlocks dX8_told_256
abbrev rm_X8_isNoRoom : Room := { frames := 0, cells := 0, slots := 0, locals := 0 }
def f_X8_isNoRoom_b15 (S : Mem) : Option Int32 :=
    some (1 : Int32)
def f_X8_isNoRoom (a0 : Nat) (x1 : Int32) (S : Mem) : Option Int32 :=
    (if x1 < (0 : Int32) then
      f_X8_isNoRoom_b15 S 
      else
      (gR 8 1 S a0).bind fun r1 =>
      (gI 2 2 S r1).bind fun v2 =>
      (if x1 < v2 then
      some (0 : Int32)
      else
      f_X8_isNoRoom_b15 S ))
set_option maxHeartbeats 4000000 in
set_option maxRecDepth 100000 in
theorem w_X8_isNoRoom_b15 {p : Program} {l : Launch} {e : Env} {s : State} {m : MethodId} {args : Array Value} {below : List Frame} {meth : Method} {c : Code} {b0 : Nat} {D : va_G} {cy : Nat → ClassId} {S : Mem} {q : Int32} (C0 : Cx p m c cX8_isNoRoom 2 s args RX8 D cy) (hr : meth.sig.returnType = some .boolean) (hlocks : meth.locks = false) : ∀  (H : Heap) (locs : List Loc) (ls : Array Slot), Wd b0 D cy S s.heap H locs → lv_has ls 2 [] → f_X8_isNoRoom_b15 S   = some q → W p l e rm_X8_isNoRoom s m args below meth c H locs 0 0 (MQ below (Qp b0 D cy (some (.int q)) S) args s 0 0 (fun q => b0 ≤ q)) (F0 m 15 ls []) := by
  intro  H locs ls hw hl h
  rw [f_X8_isNoRoom_b15] at h
  refine lv_iconst (v := (1 : Int32)) C0.hx C0.hb dX8_isNoRoom_15 (by decide) ?_
  refine lv_goto (tgt := 20) C0.hx C0.hb dX8_isNoRoom_16 (by decide) ?_
  obtain rfl := Option.some.inj h
  exact q_retz C0 hw (Or.inr rfl) hr hlocks dX8_isNoRoom_20
set_option maxHeartbeats 4000000 in
set_option maxRecDepth 100000 in
theorem m_X8_isNoRoom (l : Launch) (b0 : Nat) (D : va_G) (cy : Nat → ClassId) (S : Mem) (a0 : Nat) (x1 : Int32) {q : Int32} (h : f_X8_isNoRoom a0 x1 S = some q) : Met l yX8_isNoRoom [.code yX8_isNoRoom cX8_isNoRoom 2 (some .boolean)] rm_X8_isNoRoom (Pr b0 D cy S [.ref (b0 + a0), .int x1]) (Qp b0 D cy (some (.int q)) S) 0 0 (fun q => b0 ≤ q) := by
  refine Met.ofW (cc := cX8_isNoRoom) (maxL := 2) (ret := some .boolean) (by decide) rfl ?_
  intro p e s m args below meth c s₁ B hml hv
  obtain ⟨rfl, hP, hK, hT⟩ := hv
  have C0 : Cx p m c cX8_isNoRoom 2 s (List.toArray [.ref (b0 + a0), .int x1]) RX8 D cy := ⟨⟨B.exec, B.bytes, hml, findClass_of_methodNamed B.named, fun w h => hT w h _⟩, hK, hT⟩
  have hr : meth.sig.returnType = some .boolean := B.returns
  have hlocks := B.notSynchronized
  have hw : Wd b0 D cy S s.heap s.heap [] := ⟨hP, va_S.rf⟩
  have hl := lv_entry ([.ref (b0 + a0), .int x1]) (n := 2) (Nat.le_of_ble_eq_true rfl)
  rw [lg_entry_eq]
  generalize (lg_sl ([.ref (b0 + a0), .int x1]) ++ List.replicate (2 - (lg_sl ([.ref (b0 + a0), .int x1])).length) Slot.unset).toArray = ls at hl ⊢
  have hl : lv_has ls 2 [(0, .ref (b0 + a0)), (1, .int x1)] := hl
  rw [f_X8_isNoRoom] at h
  show W p l e rm_X8_isNoRoom s m _ below meth c s.heap [] 0 0 _ _
  refine lv_iload_n C0.hx C0.hb dX8_isNoRoom_0 rfl (lv_at hl 1 rfl) ?_
  refine lv_if_lt (tgt := 15) C0.hx C0.hb dX8_isNoRoom_1 (by decide) (fun hc => ?_) (fun hc => ?_)
  · have h := (if_pos hc).symm.trans h
    exact w_X8_isNoRoom_b15 C0 hr hlocks  _ _ _ hw (lv_sub hl [] rfl) h
  · have h := (if_neg hc).symm.trans h
    refine lv_iload_n C0.hx C0.hb dX8_isNoRoom_4 rfl (lv_at hl 1 rfl) ?_
    refine lv_aload_n C0.hx C0.hb dX8_isNoRoom_5 rfl (lv_at hl 0 rfl) ?_
    obtain ⟨r1, hr1, h⟩ := Option.bind_eq_some_iff.mp h
    refine q_getR C0 hw hr1 rfl in_8 (by decide) kw_351 dX8_isNoRoom_6 ?_
    obtain ⟨v2, hv2, h⟩ := Option.bind_eq_some_iff.mp h
    refine q_getI C0 hw hv2 rfl in_2 (by decide) kw_105 dX8_isNoRoom_9 ?_
    refine lv_icmp_lt (tgt := 19) C0.hx C0.hb dX8_isNoRoom_12 (by decide) (fun hc => ?_) (fun hc => ?_)
    · have h := (if_pos hc).symm.trans h
      refine lv_iconst (v := (0 : Int32)) C0.hx C0.hb dX8_isNoRoom_19 (by decide) ?_
      obtain rfl := Option.some.inj h
      exact q_retz C0 hw (Or.inl rfl) hr hlocks dX8_isNoRoom_20
    · have h := (if_neg hc).symm.trans h
      exact w_X8_isNoRoom_b15 C0 hr hlocks  _ _ _ hw (lv_sub hl [] rfl) h
abbrev rm_X8_room : Room := { frames := 3, cells := 0, slots := 0, locals := 70 }
def f_X8_room (a0 : Nat) (x1 : Int32) (x2 : Int32) (S : Mem) : Option Int32 :=
    (ck 8 S a0).bind fun c1 =>
      (f_X8_isNoRoom a0 x1 S).bind fun v2 =>
      (if v2 = (0 : Int32) then
      (if x2 = (0 : Int32) then
      (gR 8 2 S a0).bind fun r3 =>
      (gR 5 0 S r3).bind fun r4 =>
      (gI 4 3 S r4).bind fun v5 =>
      some (f_X8_packedAt v5 x1)
      else
      if x2 = (1 : Int32) then
      (gR 8 2 S a0).bind fun r6 =>
      (gR 5 6 S r6).bind fun r7 =>
      (ldI S r7 x1).bind fun v8 =>
      some v8
      else
      if x2 = (2 : Int32) then
      (gR 8 2 S a0).bind fun r9 =>
      (gR 5 0 S r9).bind fun r10 =>
      (ck 4 S r10).bind fun c11 =>
      (f_X4_pullNow r10 x1 S).bind fun v12 =>
      some v12
      else
      if x2 = (3 : Int32) then
      (gR 8 2 S a0).bind fun r13 =>
      (gR 5 0 S r13).bind fun r14 =>
      (gR 4 7 S r14).bind fun r15 =>
      (ldI S r15 x1).bind fun v16 =>
      some v16
      else
      if x2 = (4 : Int32) then
      (gR 8 2 S a0).bind fun r17 =>
      (gR 5 0 S r17).bind fun r18 =>
      (gI 4 6 S r18).bind fun v19 =>
      some (f_X8_bit v19 x1)
      else
      (some (-1000000002 : Int32)))
      else
      some (-1000000001 : Int32))
set_option maxHeartbeats 4000000 in
set_option maxRecDepth 100000 in
theorem m_X8_room (l : Launch) (b0 : Nat) (D : va_G) (cy : Nat → ClassId) (S : Mem) (a0 : Nat) (x1 : Int32) (x2 : Int32) {q : Int32} (h : f_X8_room a0 x1 x2 S = some q) : Met l yX8_room [.code yX8_room cX8_room 3 (some .int)] rm_X8_room (Pr b0 D cy S [.ref (b0 + a0), .int x1, .int x2]) (Qp b0 D cy (some (.int q)) S) 0 0 (fun q => b0 ≤ q) := by
  refine Met.ofW (cc := cX8_room) (maxL := 3) (ret := some .int) (by decide) rfl ?_
  intro p e s m args below meth c s₁ B hml hv
  obtain ⟨rfl, hP, hK, hT⟩ := hv
  have C0 : Cx p m c cX8_room 3 s (List.toArray [.ref (b0 + a0), .int x1, .int x2]) RX8 D cy := ⟨⟨B.exec, B.bytes, hml, findClass_of_methodNamed B.named, fun w h => hT w h _⟩, hK, hT⟩
  have hr : meth.sig.returnType = some .int := B.returns
  have hlocks := B.notSynchronized
  have hw : Wd b0 D cy S s.heap s.heap [] := ⟨hP, va_S.rf⟩
  have hl := lv_entry ([.ref (b0 + a0), .int x1, .int x2]) (n := 3) (Nat.le_of_ble_eq_true rfl)
  rw [lg_entry_eq]
  generalize (lg_sl ([.ref (b0 + a0), .int x1, .int x2]) ++ List.replicate (3 - (lg_sl ([.ref (b0 + a0), .int x1, .int x2])).length) Slot.unset).toArray = ls at hl ⊢
  have hl : lv_has ls 3 [(0, .ref (b0 + a0)), (1, .int x1), (2, .int x2)] := hl
  rw [f_X8_room] at h
  show W p l e rm_X8_room s m _ below meth c s.heap [] 0 0 _ _
  refine lv_aload_n C0.hx C0.hb dX8_room_0 rfl (lv_at hl 0 rfl) ?_
  refine lv_iload_n C0.hx C0.hb dX8_room_1 rfl (lv_at hl 1 rfl) ?_
  obtain ⟨c1, hc1, h⟩ := Option.bind_eq_some_iff.mp h
  obtain ⟨v2, hv2, h⟩ := Option.bind_eq_some_iff.mp h
  refine q_callV (n := 1) (av := [.int x1]) (rest := []) (st1 := [.int v2]) C0 hw (m_X8_isNoRoom l b0 D cy S a0 x1 hv2) hc1 rfl (by decide) (goodV kw_505 kw_507 kw_10 kw_63 kw_508) ⟨rfl, rfl⟩ (by decide +kernel) ⟨(Nat.le_of_ble_eq_true rfl), (Nat.le_of_ble_eq_true rfl)⟩ rfl hl.1 rfl (Nat.le_of_ble_eq_true rfl) dX8_room_2 ⟨Nat.zero_le _, Nat.zero_le _⟩ rfl (fun H locs hw => ?_)
  refine lv_if_eq (tgt := 11) C0.hx C0.hb dX8_room_5 (by decide) (fun hc => ?_) (fun hc => ?_)
  · have h := (if_pos hc).symm.trans h
    refine lv_iload_n C0.hx C0.hb dX8_room_11 rfl (lv_at hl 2 rfl) ?_
    by_cases hc0 : x2 = (0 : Int32)
    · have h := (if_pos hc0).symm.trans h
      refine lv_tableIn (off := 36) (tgt := 48) C0.hx C0.hb dX8_room_12 (by rw [hc0]; decide) (by rw [hc0]; decide) (by rw [hc0]; rfl) (by decide) ?_
      refine lv_aload_n C0.hx C0.hb dX8_room_48 rfl (lv_at hl 0 rfl) ?_
      obtain ⟨r3, hr3, h⟩ := Option.bind_eq_some_iff.mp h
      refine q_getR C0 hw hr3 rfl in_8 (by decide) kw_352 dX8_room_49 ?_
      obtain ⟨r4, hr4, h⟩ := Option.bind_eq_some_iff.mp h
      refine q_getR C0 hw hr4 rfl in_5 (by decide) kw_259 dX8_room_52 ?_
      obtain ⟨v5, hv5, h⟩ := Option.bind_eq_some_iff.mp h
      refine q_getI C0 hw hv5 rfl in_4 (by decide) kw_205 dX8_room_55 ?_
      refine lv_iload_n C0.hx C0.hb dX8_room_58 rfl (lv_at hl 1 rfl) ?_
      refine q_callS (n := 2) (av := [.int v5, .int x1]) (rest := []) (st1 := [.int (f_X8_packedAt v5 x1)]) C0 hw (m_X8_packedAt l b0 D cy S v5 x1) (goodS kw_510 kw_511 kw_63 kw_512) ⟨rfl, rfl⟩ (by decide +kernel) ⟨(Nat.le_of_ble_eq_true rfl), (Nat.le_of_ble_eq_true rfl)⟩ rfl hl.1 rfl (Nat.le_of_ble_eq_true rfl) dX8_room_59 ⟨Nat.zero_le _, Nat.zero_le _⟩ rfl (fun H locs hw => ?_)
      obtain rfl := Option.some.inj h
      exact q_reti C0 hw hr hlocks dX8_room_62
    · have h := (if_neg hc0).symm.trans h
      by_cases hc1 : x2 = (1 : Int32)
      · have h := (if_pos hc1).symm.trans h
        refine lv_tableIn (off := 51) (tgt := 63) C0.hx C0.hb dX8_room_12 (by rw [hc1]; decide) (by rw [hc1]; decide) (by rw [hc1]; rfl) (by decide) ?_
        refine lv_aload_n C0.hx C0.hb dX8_room_63 rfl (lv_at hl 0 rfl) ?_
        obtain ⟨r6, hr6, h⟩ := Option.bind_eq_some_iff.mp h
        refine q_getR C0 hw hr6 rfl in_8 (by decide) kw_352 dX8_room_64 ?_
        obtain ⟨r7, hr7, h⟩ := Option.bind_eq_some_iff.mp h
        refine q_getR C0 hw hr7 rfl in_5 (by decide) kw_271 dX8_room_67 ?_
        refine lv_iload_n C0.hx C0.hb dX8_room_70 rfl (lv_at hl 1 rfl) ?_
        obtain ⟨v8, hv8, h⟩ := Option.bind_eq_some_iff.mp h
        refine q_ldI C0 hw hv8 dX8_room_71 ?_
        obtain rfl := Option.some.inj h
        exact q_reti C0 hw hr hlocks dX8_room_72
      · have h := (if_neg hc1).symm.trans h
        by_cases hc2 : x2 = (2 : Int32)
        · have h := (if_pos hc2).symm.trans h
          refine lv_tableIn (off := 61) (tgt := 73) C0.hx C0.hb dX8_room_12 (by rw [hc2]; decide) (by rw [hc2]; decide) (by rw [hc2]; rfl) (by decide) ?_
          refine lv_aload_n C0.hx C0.hb dX8_room_73 rfl (lv_at hl 0 rfl) ?_
          obtain ⟨r9, hr9, h⟩ := Option.bind_eq_some_iff.mp h
          refine q_getR C0 hw hr9 rfl in_8 (by decide) kw_352 dX8_room_74 ?_
          obtain ⟨r10, hr10, h⟩ := Option.bind_eq_some_iff.mp h
          refine q_getR C0 hw hr10 rfl in_5 (by decide) kw_259 dX8_room_77 ?_
          refine lv_iload_n C0.hx C0.hb dX8_room_80 rfl (lv_at hl 1 rfl) ?_
          obtain ⟨c11, hc11, h⟩ := Option.bind_eq_some_iff.mp h
          obtain ⟨v12, hv12, h⟩ := Option.bind_eq_some_iff.mp h
          refine q_callV (n := 1) (av := [.int x1]) (rest := []) (st1 := [.int v12]) C0 hw (m_X4_pullNow l b0 D cy S r10 x1 hv12) hc11 rfl (by decide) (goodV kw_513 kw_514 kw_515 kw_67 kw_516) ⟨rfl, rfl⟩ (by decide +kernel) ⟨(Nat.le_of_ble_eq_true rfl), (Nat.le_of_ble_eq_true rfl)⟩ rfl hl.1 rfl (Nat.le_of_ble_eq_true rfl) dX8_room_81 ⟨Nat.zero_le _, Nat.zero_le _⟩ rfl (fun H locs hw => ?_)
          obtain rfl := Option.some.inj h
          exact q_reti C0 hw hr hlocks dX8_room_84
        · have h := (if_neg hc2).symm.trans h
          by_cases hc3 : x2 = (3 : Int32)
          · have h := (if_pos hc3).symm.trans h
            refine lv_tableIn (off := 73) (tgt := 85) C0.hx C0.hb dX8_room_12 (by rw [hc3]; decide) (by rw [hc3]; decide) (by rw [hc3]; rfl) (by decide) ?_
            refine lv_aload_n C0.hx C0.hb dX8_room_85 rfl (lv_at hl 0 rfl) ?_
            obtain ⟨r13, hr13, h⟩ := Option.bind_eq_some_iff.mp h
            refine q_getR C0 hw hr13 rfl in_8 (by decide) kw_352 dX8_room_86 ?_
            obtain ⟨r14, hr14, h⟩ := Option.bind_eq_some_iff.mp h
            refine q_getR C0 hw hr14 rfl in_5 (by decide) kw_259 dX8_room_89 ?_
            obtain ⟨r15, hr15, h⟩ := Option.bind_eq_some_iff.mp h
            refine q_getR C0 hw hr15 rfl in_4 (by decide) kw_214 dX8_room_92 ?_
            refine lv_iload_n C0.hx C0.hb dX8_room_95 rfl (lv_at hl 1 rfl) ?_
            obtain ⟨v16, hv16, h⟩ := Option.bind_eq_some_iff.mp h
            refine q_ldI C0 hw hv16 dX8_room_96 ?_
            obtain rfl := Option.some.inj h
            exact q_reti C0 hw hr hlocks dX8_room_97
          · have h := (if_neg hc3).symm.trans h
            by_cases hc4 : x2 = (4 : Int32)
            · have h := (if_pos hc4).symm.trans h
              refine lv_tableIn (off := 86) (tgt := 98) C0.hx C0.hb dX8_room_12 (by rw [hc4]; decide) (by rw [hc4]; decide) (by rw [hc4]; rfl) (by decide) ?_
              refine lv_aload_n C0.hx C0.hb dX8_room_98 rfl (lv_at hl 0 rfl) ?_
              obtain ⟨r17, hr17, h⟩ := Option.bind_eq_some_iff.mp h
              refine q_getR C0 hw hr17 rfl in_8 (by decide) kw_352 dX8_room_99 ?_
              obtain ⟨r18, hr18, h⟩ := Option.bind_eq_some_iff.mp h
              refine q_getR C0 hw hr18 rfl in_5 (by decide) kw_259 dX8_room_102 ?_
              obtain ⟨v19, hv19, h⟩ := Option.bind_eq_some_iff.mp h
              refine q_getI C0 hw hv19 rfl in_4 (by decide) kw_212 dX8_room_105 ?_
              refine lv_iload_n C0.hx C0.hb dX8_room_108 rfl (lv_at hl 1 rfl) ?_
              refine q_callS (n := 2) (av := [.int v19, .int x1]) (rest := []) (st1 := [.int (f_X8_bit v19 x1)]) C0 hw (m_X8_bit l b0 D cy S v19 x1) (goodS kw_537 kw_529 kw_63 kw_530) ⟨rfl, rfl⟩ (by decide +kernel) ⟨(Nat.le_of_ble_eq_true rfl), (Nat.le_of_ble_eq_true rfl)⟩ rfl hl.1 rfl (Nat.le_of_ble_eq_true rfl) dX8_room_109 ⟨Nat.zero_le _, Nat.zero_le _⟩ rfl (fun H locs hw => ?_)
              obtain rfl := Option.some.inj h
              exact q_reti C0 hw hr hlocks dX8_room_112
            · have h := (if_neg hc4).symm.trans h
              refine lv_tableOut (tgt := 113) C0.hx C0.hb dX8_room_12 (by have n0 := lv_neT (a := 0) hc0 (by decide); have n1 := lv_neT (a := 1) hc1 (by decide); have n2 := lv_neT (a := 2) hc2 (by decide); have n3 := lv_neT (a := 3) hc3 (by decide); have n4 := lv_neT (a := 4) hc4 (by decide); omega) (by decide) ?_
              refine lv_ldc C0.hx C0.hb C0.ho (C0.w kw_385) dX8_room_113 ?_
              obtain rfl := Option.some.inj h
              exact q_reti C0 hw hr hlocks dX8_room_115
  · have h := (if_neg hc).symm.trans h
    refine lv_ldc C0.hx C0.hb C0.ho (C0.w kw_509) dX8_room_8 ?_
    obtain rfl := Option.some.inj h
    exact q_reti C0 hw hr hlocks dX8_room_10
abbrev rm_X8_isNoPetition : Room := { frames := 0, cells := 0, slots := 0, locals := 0 }
def f_X8_isNoPetition_b15 (S : Mem) : Option Int32 :=
    some (1 : Int32)
def f_X8_isNoPetition (a0 : Nat) (x1 : Int32) (S : Mem) : Option Int32 :=
    (if x1 < (0 : Int32) then
      f_X8_isNoPetition_b15 S 
      else
      (gR 8 1 S a0).bind fun r1 =>
      (gI 2 4 S r1).bind fun v2 =>
      (if x1 < v2 then
      some (0 : Int32)
      else
      f_X8_isNoPetition_b15 S ))
set_option maxHeartbeats 4000000 in
set_option maxRecDepth 100000 in
theorem w_X8_isNoPetition_b15 {p : Program} {l : Launch} {e : Env} {s : State} {m : MethodId} {args : Array Value} {below : List Frame} {meth : Method} {c : Code} {b0 : Nat} {D : va_G} {cy : Nat → ClassId} {S : Mem} {q : Int32} (C0 : Cx p m c cX8_isNoPetition 2 s args RX8 D cy) (hr : meth.sig.returnType = some .boolean) (hlocks : meth.locks = false) : ∀  (H : Heap) (locs : List Loc) (ls : Array Slot), Wd b0 D cy S s.heap H locs → lv_has ls 2 [] → f_X8_isNoPetition_b15 S   = some q → W p l e rm_X8_isNoPetition s m args below meth c H locs 0 0 (MQ below (Qp b0 D cy (some (.int q)) S) args s 0 0 (fun q => b0 ≤ q)) (F0 m 15 ls []) := by
  intro  H locs ls hw hl h
  rw [f_X8_isNoPetition_b15] at h
  refine lv_iconst (v := (1 : Int32)) C0.hx C0.hb dX8_isNoPetition_15 (by decide) ?_
  refine lv_goto (tgt := 20) C0.hx C0.hb dX8_isNoPetition_16 (by decide) ?_
  obtain rfl := Option.some.inj h
  exact q_retz C0 hw (Or.inr rfl) hr hlocks dX8_isNoPetition_20
set_option maxHeartbeats 4000000 in
set_option maxRecDepth 100000 in
theorem m_X8_isNoPetition (l : Launch) (b0 : Nat) (D : va_G) (cy : Nat → ClassId) (S : Mem) (a0 : Nat) (x1 : Int32) {q : Int32} (h : f_X8_isNoPetition a0 x1 S = some q) : Met l yX8_isNoPetition [.code yX8_isNoPetition cX8_isNoPetition 2 (some .boolean)] rm_X8_isNoPetition (Pr b0 D cy S [.ref (b0 + a0), .int x1]) (Qp b0 D cy (some (.int q)) S) 0 0 (fun q => b0 ≤ q) := by
  refine Met.ofW (cc := cX8_isNoPetition) (maxL := 2) (ret := some .boolean) (by decide) rfl ?_
  intro p e s m args below meth c s₁ B hml hv
  obtain ⟨rfl, hP, hK, hT⟩ := hv
  have C0 : Cx p m c cX8_isNoPetition 2 s (List.toArray [.ref (b0 + a0), .int x1]) RX8 D cy := ⟨⟨B.exec, B.bytes, hml, findClass_of_methodNamed B.named, fun w h => hT w h _⟩, hK, hT⟩
  have hr : meth.sig.returnType = some .boolean := B.returns
  have hlocks := B.notSynchronized
  have hw : Wd b0 D cy S s.heap s.heap [] := ⟨hP, va_S.rf⟩
  have hl := lv_entry ([.ref (b0 + a0), .int x1]) (n := 2) (Nat.le_of_ble_eq_true rfl)
  rw [lg_entry_eq]
  generalize (lg_sl ([.ref (b0 + a0), .int x1]) ++ List.replicate (2 - (lg_sl ([.ref (b0 + a0), .int x1])).length) Slot.unset).toArray = ls at hl ⊢
  have hl : lv_has ls 2 [(0, .ref (b0 + a0)), (1, .int x1)] := hl
  rw [f_X8_isNoPetition] at h
  show W p l e rm_X8_isNoPetition s m _ below meth c s.heap [] 0 0 _ _
  refine lv_iload_n C0.hx C0.hb dX8_isNoPetition_0 rfl (lv_at hl 1 rfl) ?_
  refine lv_if_lt (tgt := 15) C0.hx C0.hb dX8_isNoPetition_1 (by decide) (fun hc => ?_) (fun hc => ?_)
  · have h := (if_pos hc).symm.trans h
    exact w_X8_isNoPetition_b15 C0 hr hlocks  _ _ _ hw (lv_sub hl [] rfl) h
  · have h := (if_neg hc).symm.trans h
    refine lv_iload_n C0.hx C0.hb dX8_isNoPetition_4 rfl (lv_at hl 1 rfl) ?_
    refine lv_aload_n C0.hx C0.hb dX8_isNoPetition_5 rfl (lv_at hl 0 rfl) ?_
    obtain ⟨r1, hr1, h⟩ := Option.bind_eq_some_iff.mp h
    refine q_getR C0 hw hr1 rfl in_8 (by decide) kw_351 dX8_isNoPetition_6 ?_
    obtain ⟨v2, hv2, h⟩ := Option.bind_eq_some_iff.mp h
    refine q_getI C0 hw hv2 rfl in_2 (by decide) kw_113 dX8_isNoPetition_9 ?_
    refine lv_icmp_lt (tgt := 19) C0.hx C0.hb dX8_isNoPetition_12 (by decide) (fun hc => ?_) (fun hc => ?_)
    · have h := (if_pos hc).symm.trans h
      refine lv_iconst (v := (0 : Int32)) C0.hx C0.hb dX8_isNoPetition_19 (by decide) ?_
      obtain rfl := Option.some.inj h
      exact q_retz C0 hw (Or.inl rfl) hr hlocks dX8_isNoPetition_20
    · have h := (if_neg hc).symm.trans h
      exact w_X8_isNoPetition_b15 C0 hr hlocks  _ _ _ hw (lv_sub hl [] rfl) h
abbrev rm_X8_petition : Room := { frames := 1, cells := 0, slots := 0, locals := 21 }
def f_X8_petition (a0 : Nat) (x1 : Int32) (x2 : Int32) (S : Mem) : Option Int32 :=
    (ck 8 S a0).bind fun c1 =>
      (f_X8_isNoPetition a0 x1 S).bind fun v2 =>
      (if v2 = (0 : Int32) then
      (if x2 = (0 : Int32) then
      (gR 8 2 S a0).bind fun r3 =>
      (gR 5 7 S r3).bind fun r4 =>
      (ldI S r4 x1).bind fun v5 =>
      some v5
      else
      if x2 = (1 : Int32) then
      (gR 8 1 S a0).bind fun r6 =>
      (gR 2 10 S r6).bind fun r7 =>
      (ldI S r7 x1).bind fun v8 =>
      some v8
      else
      if x2 = (2 : Int32) then
      (gR 8 2 S a0).bind fun r9 =>
      (gI 5 4 S r9).bind fun v10 =>
      some (f_X8_bit v10 x1)
      else
      (some (-1000000002 : Int32)))
      else
      some (-1000000001 : Int32))
set_option maxHeartbeats 4000000 in
set_option maxRecDepth 100000 in
theorem m_X8_petition (l : Launch) (b0 : Nat) (D : va_G) (cy : Nat → ClassId) (S : Mem) (a0 : Nat) (x1 : Int32) (x2 : Int32) {q : Int32} (h : f_X8_petition a0 x1 x2 S = some q) : Met l yX8_petition [.code yX8_petition cX8_petition 3 (some .int)] rm_X8_petition (Pr b0 D cy S [.ref (b0 + a0), .int x1, .int x2]) (Qp b0 D cy (some (.int q)) S) 0 0 (fun q => b0 ≤ q) := by
  refine Met.ofW (cc := cX8_petition) (maxL := 3) (ret := some .int) (by decide) rfl ?_
  intro p e s m args below meth c s₁ B hml hv
  obtain ⟨rfl, hP, hK, hT⟩ := hv
  have C0 : Cx p m c cX8_petition 3 s (List.toArray [.ref (b0 + a0), .int x1, .int x2]) RX8 D cy := ⟨⟨B.exec, B.bytes, hml, findClass_of_methodNamed B.named, fun w h => hT w h _⟩, hK, hT⟩
  have hr : meth.sig.returnType = some .int := B.returns
  have hlocks := B.notSynchronized
  have hw : Wd b0 D cy S s.heap s.heap [] := ⟨hP, va_S.rf⟩
  have hl := lv_entry ([.ref (b0 + a0), .int x1, .int x2]) (n := 3) (Nat.le_of_ble_eq_true rfl)
  rw [lg_entry_eq]
  generalize (lg_sl ([.ref (b0 + a0), .int x1, .int x2]) ++ List.replicate (3 - (lg_sl ([.ref (b0 + a0), .int x1, .int x2])).length) Slot.unset).toArray = ls at hl ⊢
  have hl : lv_has ls 3 [(0, .ref (b0 + a0)), (1, .int x1), (2, .int x2)] := hl
  rw [f_X8_petition] at h
  show W p l e rm_X8_petition s m _ below meth c s.heap [] 0 0 _ _
  refine lv_aload_n C0.hx C0.hb dX8_petition_0 rfl (lv_at hl 0 rfl) ?_
  refine lv_iload_n C0.hx C0.hb dX8_petition_1 rfl (lv_at hl 1 rfl) ?_
  obtain ⟨c1, hc1, h⟩ := Option.bind_eq_some_iff.mp h
  obtain ⟨v2, hv2, h⟩ := Option.bind_eq_some_iff.mp h
  refine q_callV (n := 1) (av := [.int x1]) (rest := []) (st1 := [.int v2]) C0 hw (m_X8_isNoPetition l b0 D cy S a0 x1 hv2) hc1 rfl (by decide) (goodV kw_542 kw_544 kw_11 kw_63 kw_545) ⟨rfl, rfl⟩ (by decide +kernel) ⟨(Nat.le_of_ble_eq_true rfl), (Nat.le_of_ble_eq_true rfl)⟩ rfl hl.1 rfl (Nat.le_of_ble_eq_true rfl) dX8_petition_2 ⟨Nat.zero_le _, Nat.zero_le _⟩ rfl (fun H locs hw => ?_)
  refine lv_if_eq (tgt := 11) C0.hx C0.hb dX8_petition_5 (by decide) (fun hc => ?_) (fun hc => ?_)
  · have h := (if_pos hc).symm.trans h
    refine lv_iload_n C0.hx C0.hb dX8_petition_11 rfl (lv_at hl 2 rfl) ?_
    by_cases hc0 : x2 = (0 : Int32)
    · have h := (if_pos hc0).symm.trans h
      refine lv_tableIn (off := 28) (tgt := 40) C0.hx C0.hb dX8_petition_12 (by rw [hc0]; decide) (by rw [hc0]; decide) (by rw [hc0]; rfl) (by decide) ?_
      refine lv_aload_n C0.hx C0.hb dX8_petition_40 rfl (lv_at hl 0 rfl) ?_
      obtain ⟨r3, hr3, h⟩ := Option.bind_eq_some_iff.mp h
      refine q_getR C0 hw hr3 rfl in_8 (by decide) kw_352 dX8_petition_41 ?_
      obtain ⟨r4, hr4, h⟩ := Option.bind_eq_some_iff.mp h
      refine q_getR C0 hw hr4 rfl in_5 (by decide) kw_273 dX8_petition_44 ?_
      refine lv_iload_n C0.hx C0.hb dX8_petition_47 rfl (lv_at hl 1 rfl) ?_
      obtain ⟨v5, hv5, h⟩ := Option.bind_eq_some_iff.mp h
      refine q_ldI C0 hw hv5 dX8_petition_48 ?_
      obtain rfl := Option.some.inj h
      exact q_reti C0 hw hr hlocks dX8_petition_49
    · have h := (if_neg hc0).symm.trans h
      by_cases hc1 : x2 = (1 : Int32)
      · have h := (if_pos hc1).symm.trans h
        refine lv_tableIn (off := 38) (tgt := 50) C0.hx C0.hb dX8_petition_12 (by rw [hc1]; decide) (by rw [hc1]; decide) (by rw [hc1]; rfl) (by decide) ?_
        refine lv_aload_n C0.hx C0.hb dX8_petition_50 rfl (lv_at hl 0 rfl) ?_
        obtain ⟨r6, hr6, h⟩ := Option.bind_eq_some_iff.mp h
        refine q_getR C0 hw hr6 rfl in_8 (by decide) kw_351 dX8_petition_51 ?_
        obtain ⟨r7, hr7, h⟩ := Option.bind_eq_some_iff.mp h
        refine q_getR C0 hw hr7 rfl in_2 (by decide) kw_129 dX8_petition_54 ?_
        refine lv_iload_n C0.hx C0.hb dX8_petition_57 rfl (lv_at hl 1 rfl) ?_
        obtain ⟨v8, hv8, h⟩ := Option.bind_eq_some_iff.mp h
        refine q_ldI C0 hw hv8 dX8_petition_58 ?_
        obtain rfl := Option.some.inj h
        exact q_reti C0 hw hr hlocks dX8_petition_59
      · have h := (if_neg hc1).symm.trans h
        by_cases hc2 : x2 = (2 : Int32)
        · have h := (if_pos hc2).symm.trans h
          refine lv_tableIn (off := 48) (tgt := 60) C0.hx C0.hb dX8_petition_12 (by rw [hc2]; decide) (by rw [hc2]; decide) (by rw [hc2]; rfl) (by decide) ?_
          refine lv_aload_n C0.hx C0.hb dX8_petition_60 rfl (lv_at hl 0 rfl) ?_
          obtain ⟨r9, hr9, h⟩ := Option.bind_eq_some_iff.mp h
          refine q_getR C0 hw hr9 rfl in_8 (by decide) kw_352 dX8_petition_61 ?_
          obtain ⟨v10, hv10, h⟩ := Option.bind_eq_some_iff.mp h
          refine q_getI C0 hw hv10 rfl in_5 (by decide) kw_267 dX8_petition_64 ?_
          refine lv_iload_n C0.hx C0.hb dX8_petition_67 rfl (lv_at hl 1 rfl) ?_
          refine q_callS (n := 2) (av := [.int v10, .int x1]) (rest := []) (st1 := [.int (f_X8_bit v10 x1)]) C0 hw (m_X8_bit l b0 D cy S v10 x1) (goodS kw_537 kw_529 kw_63 kw_530) ⟨rfl, rfl⟩ (by decide +kernel) ⟨(Nat.le_of_ble_eq_true rfl), (Nat.le_of_ble_eq_true rfl)⟩ rfl hl.1 rfl (Nat.le_of_ble_eq_true rfl) dX8_petition_68 ⟨Nat.zero_le _, Nat.zero_le _⟩ rfl (fun H locs hw => ?_)
          obtain rfl := Option.some.inj h
          exact q_reti C0 hw hr hlocks dX8_petition_71
        · have h := (if_neg hc2).symm.trans h
          refine lv_tableOut (tgt := 72) C0.hx C0.hb dX8_petition_12 (by have n0 := lv_neT (a := 0) hc0 (by decide); have n1 := lv_neT (a := 1) hc1 (by decide); have n2 := lv_neT (a := 2) hc2 (by decide); omega) (by decide) ?_
          refine lv_ldc C0.hx C0.hb C0.ho (C0.w kw_385) dX8_petition_72 ?_
          obtain rfl := Option.some.inj h
          exact q_reti C0 hw hr hlocks dX8_petition_74
  · have h := (if_neg hc).symm.trans h
    refine lv_ldc C0.hx C0.hb C0.ho (C0.w kw_509) dX8_petition_8 ?_
    obtain rfl := Option.some.inj h
    exact q_reti C0 hw hr hlocks dX8_petition_10
abbrev rm_X8_went : Room := { frames := 1, cells := 0, slots := 0, locals := 21 }
def f_X8_went (a0 : Nat) (x1 : Int32) (S : Mem) : Option Int32 :=
    (if x1 < (0 : Int32) then
      some (-1 : Int32)
      else
      (gR 8 2 S a0).bind fun r1 =>
      (gR 5 1 S r1).bind fun r2 =>
      (gI 7 0 S r2).bind fun v3 =>
      (if x1 < v3 then
      (gR 8 2 S a0).bind fun r4 =>
      (gR 5 1 S r4).bind fun r5 =>
      (ck 7 S r5).bind fun c6 =>
      (f_X7_fromAndTo r5 x1 S).bind fun v7 =>
      some v7
      else
      some (-1 : Int32)))
set_option maxHeartbeats 4000000 in
set_option maxRecDepth 100000 in
theorem m_X8_went (l : Launch) (b0 : Nat) (D : va_G) (cy : Nat → ClassId) (S : Mem) (a0 : Nat) (x1 : Int32) {q : Int32} (h : f_X8_went a0 x1 S = some q) : Met l yX8_went [.code yX8_went cX8_went 2 (some .int)] rm_X8_went (Pr b0 D cy S [.ref (b0 + a0), .int x1]) (Qp b0 D cy (some (.int q)) S) 0 0 (fun q => b0 ≤ q) := by
  refine Met.ofW (cc := cX8_went) (maxL := 2) (ret := some .int) (by decide) rfl ?_
  intro p e s m args below meth c s₁ B hml hv
  obtain ⟨rfl, hP, hK, hT⟩ := hv
  have C0 : Cx p m c cX8_went 2 s (List.toArray [.ref (b0 + a0), .int x1]) RX8 D cy := ⟨⟨B.exec, B.bytes, hml, findClass_of_methodNamed B.named, fun w h => hT w h _⟩, hK, hT⟩
  have hr : meth.sig.returnType = some .int := B.returns
  have hlocks := B.notSynchronized
  have hw : Wd b0 D cy S s.heap s.heap [] := ⟨hP, va_S.rf⟩
  have hl := lv_entry ([.ref (b0 + a0), .int x1]) (n := 2) (Nat.le_of_ble_eq_true rfl)
  rw [lg_entry_eq]
  generalize (lg_sl ([.ref (b0 + a0), .int x1]) ++ List.replicate (2 - (lg_sl ([.ref (b0 + a0), .int x1])).length) Slot.unset).toArray = ls at hl ⊢
  have hl : lv_has ls 2 [(0, .ref (b0 + a0)), (1, .int x1)] := hl
  rw [f_X8_went] at h
  show W p l e rm_X8_went s m _ below meth c s.heap [] 0 0 _ _
  refine lv_iload_n C0.hx C0.hb dX8_went_0 rfl (lv_at hl 1 rfl) ?_
  refine lv_if_lt (tgt := 18) C0.hx C0.hb dX8_went_1 (by decide) (fun hc => ?_) (fun hc => ?_)
  · have h := (if_pos hc).symm.trans h
    refine lv_iconst (v := (-1 : Int32)) C0.hx C0.hb dX8_went_18 (by decide) ?_
    obtain rfl := Option.some.inj h
    exact q_reti C0 hw hr hlocks dX8_went_19
  · have h := (if_neg hc).symm.trans h
    refine lv_iload_n C0.hx C0.hb dX8_went_4 rfl (lv_at hl 1 rfl) ?_
    refine lv_aload_n C0.hx C0.hb dX8_went_5 rfl (lv_at hl 0 rfl) ?_
    obtain ⟨r1, hr1, h⟩ := Option.bind_eq_some_iff.mp h
    refine q_getR C0 hw hr1 rfl in_8 (by decide) kw_352 dX8_went_6 ?_
    obtain ⟨r2, hr2, h⟩ := Option.bind_eq_some_iff.mp h
    refine q_getR C0 hw hr2 rfl in_5 (by decide) kw_261 dX8_went_9 ?_
    obtain ⟨v3, hv3, h⟩ := Option.bind_eq_some_iff.mp h
    refine q_getI C0 hw hv3 rfl in_7 (by decide) kw_239 dX8_went_12 ?_
    refine lv_icmp_lt (tgt := 20) C0.hx C0.hb dX8_went_15 (by decide) (fun hc => ?_) (fun hc => ?_)
    · have h := (if_pos hc).symm.trans h
      refine lv_aload_n C0.hx C0.hb dX8_went_20 rfl (lv_at hl 0 rfl) ?_
      obtain ⟨r4, hr4, h⟩ := Option.bind_eq_some_iff.mp h
      refine q_getR C0 hw hr4 rfl in_8 (by decide) kw_352 dX8_went_21 ?_
      obtain ⟨r5, hr5, h⟩ := Option.bind_eq_some_iff.mp h
      refine q_getR C0 hw hr5 rfl in_5 (by decide) kw_261 dX8_went_24 ?_
      refine lv_iload_n C0.hx C0.hb dX8_went_27 rfl (lv_at hl 1 rfl) ?_
      obtain ⟨c6, hc6, h⟩ := Option.bind_eq_some_iff.mp h
      obtain ⟨v7, hv7, h⟩ := Option.bind_eq_some_iff.mp h
      refine q_callV (n := 1) (av := [.int x1]) (rest := []) (st1 := [.int v7]) C0 hw (m_X7_fromAndTo l b0 D cy S r5 x1 hv7) hc6 rfl (by decide) (goodV kw_550 kw_551 kw_552 kw_68 kw_553) ⟨rfl, rfl⟩ (by decide +kernel) ⟨(Nat.le_of_ble_eq_true rfl), (Nat.le_of_ble_eq_true rfl)⟩ rfl hl.1 rfl (Nat.le_of_ble_eq_true rfl) dX8_went_28 ⟨Nat.zero_le _, Nat.zero_le _⟩ rfl (fun H locs hw => ?_)
      obtain rfl := Option.some.inj h
      exact q_reti C0 hw hr hlocks dX8_went_31
    · have h := (if_neg hc).symm.trans h
      refine lv_iconst (v := (-1 : Int32)) C0.hx C0.hb dX8_went_18 (by decide) ?_
      obtain rfl := Option.some.inj h
      exact q_reti C0 hw hr hlocks dX8_went_19
abbrev rm_X8_refusalOfHours : Room := { frames := 0, cells := 0, slots := 0, locals := 0 }
def f_X8_refusalOfHours (a0 : Nat) (x1 : Int32) (S : Mem) : Option Int32 :=
    (if x1 < (1 : Int32) then
      some (-1000000002 : Int32)
      else
      (if x1 ≤ (60 : Int32) then
      (gR 8 1 S a0).bind fun r1 =>
      (gI 2 2 S r1).bind fun v2 =>
      (if v2 = (0 : Int32) then
      some (-1000000003 : Int32)
      else
      (gR 8 2 S a0).bind fun r3 =>
      (gI 5 2 S r3).bind fun v4 =>
      (if v4 ≤ (9000 : Int32) then
      some (0 : Int32)
      else
      some (-1000000004 : Int32)))
      else
      some (-1000000002 : Int32)))
set_option maxHeartbeats 4000000 in
set_option maxRecDepth 100000 in
theorem m_X8_refusalOfHours (l : Launch) (b0 : Nat) (D : va_G) (cy : Nat → ClassId) (S : Mem) (a0 : Nat) (x1 : Int32) {q : Int32} (h : f_X8_refusalOfHours a0 x1 S = some q) : Met l yX8_refusalOfHours [.code yX8_refusalOfHours cX8_refusalOfHours 2 (some .int)] rm_X8_refusalOfHours (Pr b0 D cy S [.ref (b0 + a0), .int x1]) (Qp b0 D cy (some (.int q)) S) 0 0 (fun q => b0 ≤ q) := by
  refine Met.ofW (cc := cX8_refusalOfHours) (maxL := 2) (ret := some .int) (by decide) rfl ?_
  intro p e s m args below meth c s₁ B hml hv
  obtain ⟨rfl, hP, hK, hT⟩ := hv
  have C0 : Cx p m c cX8_refusalOfHours 2 s (List.toArray [.ref (b0 + a0), .int x1]) RX8 D cy := ⟨⟨B.exec, B.bytes, hml, findClass_of_methodNamed B.named, fun w h => hT w h _⟩, hK, hT⟩
  have hr : meth.sig.returnType = some .int := B.returns
  have hlocks := B.notSynchronized
  have hw : Wd b0 D cy S s.heap s.heap [] := ⟨hP, va_S.rf⟩
  have hl := lv_entry ([.ref (b0 + a0), .int x1]) (n := 2) (Nat.le_of_ble_eq_true rfl)
  rw [lg_entry_eq]
  generalize (lg_sl ([.ref (b0 + a0), .int x1]) ++ List.replicate (2 - (lg_sl ([.ref (b0 + a0), .int x1])).length) Slot.unset).toArray = ls at hl ⊢
  have hl : lv_has ls 2 [(0, .ref (b0 + a0)), (1, .int x1)] := hl
  rw [f_X8_refusalOfHours] at h
  show W p l e rm_X8_refusalOfHours s m _ below meth c s.heap [] 0 0 _ _
  refine lv_iload_n C0.hx C0.hb dX8_refusalOfHours_0 rfl (lv_at hl 1 rfl) ?_
  refine lv_iconst (v := (1 : Int32)) C0.hx C0.hb dX8_refusalOfHours_1 (by decide) ?_
  refine lv_icmp_lt (tgt := 11) C0.hx C0.hb dX8_refusalOfHours_2 (by decide) (fun hc => ?_) (fun hc => ?_)
  · have h := (if_pos hc).symm.trans h
    refine lv_ldc C0.hx C0.hb C0.ho (C0.w kw_385) dX8_refusalOfHours_11 ?_
    obtain rfl := Option.some.inj h
    exact q_reti C0 hw hr hlocks dX8_refusalOfHours_13
  · have h := (if_neg hc).symm.trans h
    refine lv_iload_n C0.hx C0.hb dX8_refusalOfHours_5 rfl (lv_at hl 1 rfl) ?_
    refine lv_bipush (v := (60 : Int32)) C0.hx C0.hb dX8_refusalOfHours_6 (by decide) ?_
    refine lv_icmp_le (tgt := 14) C0.hx C0.hb dX8_refusalOfHours_8 (by decide) (fun hc => ?_) (fun hc => ?_)
    · have h := (if_pos hc).symm.trans h
      refine lv_aload_n C0.hx C0.hb dX8_refusalOfHours_14 rfl (lv_at hl 0 rfl) ?_
      obtain ⟨r1, hr1, h⟩ := Option.bind_eq_some_iff.mp h
      refine q_getR C0 hw hr1 rfl in_8 (by decide) kw_351 dX8_refusalOfHours_15 ?_
      obtain ⟨v2, hv2, h⟩ := Option.bind_eq_some_iff.mp h
      refine q_getI C0 hw hv2 rfl in_2 (by decide) kw_105 dX8_refusalOfHours_18 ?_
      refine lv_if_ne (tgt := 27) C0.hx C0.hb dX8_refusalOfHours_21 (by decide) (fun hc => ?_) (fun hc => ?_)
      · have h := (if_neg hc).symm.trans h
        refine lv_aload_n C0.hx C0.hb dX8_refusalOfHours_27 rfl (lv_at hl 0 rfl) ?_
        obtain ⟨r3, hr3, h⟩ := Option.bind_eq_some_iff.mp h
        refine q_getR C0 hw hr3 rfl in_8 (by decide) kw_352 dX8_refusalOfHours_28 ?_
        obtain ⟨v4, hv4, h⟩ := Option.bind_eq_some_iff.mp h
        refine q_getI C0 hw hv4 rfl in_5 (by decide) kw_263 dX8_refusalOfHours_31 ?_
        refine lv_sipush (v := (9000 : Int32)) C0.hx C0.hb dX8_refusalOfHours_34 (by decide) ?_
        refine lv_icmp_le (tgt := 45) C0.hx C0.hb dX8_refusalOfHours_37 (by decide) (fun hc => ?_) (fun hc => ?_)
        · have h := (if_pos hc).symm.trans h
          refine lv_iconst (v := (0 : Int32)) C0.hx C0.hb dX8_refusalOfHours_45 (by decide) ?_
          obtain rfl := Option.some.inj h
          exact q_reti C0 hw hr hlocks dX8_refusalOfHours_46
        · have h := (if_neg hc).symm.trans h
          refine lv_ldc C0.hx C0.hb C0.ho (C0.w kw_386) dX8_refusalOfHours_40 ?_
          refine lv_goto (tgt := 46) C0.hx C0.hb dX8_refusalOfHours_42 (by decide) ?_
          obtain rfl := Option.some.inj h
          exact q_reti C0 hw hr hlocks dX8_refusalOfHours_46
      · have h := (if_pos hc).symm.trans h
        refine lv_ldc C0.hx C0.hb C0.ho (C0.w kw_562) dX8_refusalOfHours_24 ?_
        obtain rfl := Option.some.inj h
        exact q_reti C0 hw hr hlocks dX8_refusalOfHours_26
    · have h := (if_neg hc).symm.trans h
      refine lv_ldc C0.hx C0.hb C0.ho (C0.w kw_385) dX8_refusalOfHours_11 ?_
      obtain rfl := Option.some.inj h
      exact q_reti C0 hw hr hlocks dX8_refusalOfHours_13
abbrev rm_X8_hour : Room := { frames := 5, cells := 0, slots := 0, locals := 122 }
def f_X8_hour_b25 : Nat → Nat → Int32 → Int32 → Mem → Option (Int32 × Mem)
  | 0, _, _, _, _ => none
  | n + 1, a0, x1, x3, S =>
    (if x1 ≤ x3 then
      (gR 8 2 S a0).bind fun r7 =>
      (gR 5 0 S r7).bind fun r8 =>
      (gI 4 1 S r8).bind fun v9 =>
      some (v9, S)
      else
      (gR 8 2 S a0).bind fun r10 =>
      (gR 8 1 S a0).bind fun r11 =>
      (ck 5 S r10).bind fun c12 =>
      (f_X5_passHour r10 r11 S).bind fun S13 =>
      (some (x3 + (1 : Int32))).bind fun v14 =>
      f_X8_hour_b25  n a0 x1 v14 S13)
def f_X8_hour (a0 : Nat) (x1 : Int32) (S : Mem) : Option (Int32 × Mem) :=
    (ck 8 S a0).bind fun c1 =>
      (f_X8_refusalOfHours a0 x1 S).bind fun v2 =>
      (if v2 = (0 : Int32) then
      (gR 8 3 S a0).bind fun r3 =>
      (gR 8 2 S a0).bind fun r4 =>
      (ck 3 S r3).bind fun c5 =>
      (f_X3_remember r3 r4 S).bind fun S6 =>
      f_X8_hour_b25 FU a0 x1 (0 : Int32) S6
      else
      some (v2, S))
set_option maxHeartbeats 4000000 in
set_option maxRecDepth 100000 in
theorem w_X8_hour_b25 {p : Program} {l : Launch} {e : Env} {s : State} {m : MethodId} {args : Array Value} {below : List Frame} {meth : Method} {c : Code} {b0 : Nat} {D : va_G} {cy : Nat → ClassId} {q : (Int32 × Mem)} (C0 : Cx p m c cX8_hour 4 s args RX8 D cy) (hr : meth.sig.returnType = some .int) (hlocks : meth.locks = false) : ∀ (n : Nat) (a0 : Nat) (x1 : Int32) (x3 : Int32) (S : Mem) (H : Heap) (locs : List Loc) (ls : Array Slot), Wd b0 D cy S s.heap H locs → lv_has ls 4 [(0, .ref (b0 + a0)), (1, .int x1), (3, .int x3)] → f_X8_hour_b25  n a0 x1 x3 S = some q → W p l e rm_X8_hour s m args below meth c H locs 0 0 (MQ below (Qp b0 D cy (some (.int q.1)) q.2) args s 0 0 (fun q => b0 ≤ q)) (F0 m 25 ls []) := by
  intro n
  induction n with
  | zero => intro a0 x1 x3 S H locs ls hw hl h; exact absurd h (by simp [f_X8_hour_b25])
  | succ n ih =>
    intro a0 x1 x3 S H locs ls hw hl h
    rw [f_X8_hour_b25] at h
    refine lv_iload_n C0.hx C0.hb dX8_hour_25 rfl (lv_at hl 2 rfl) ?_
    refine lv_iload_n C0.hx C0.hb dX8_hour_26 rfl (lv_at hl 1 rfl) ?_
    refine lv_icmp_ge (tgt := 47) C0.hx C0.hb dX8_hour_27 (by decide) (fun hc => ?_) (fun hc => ?_)
    · have h := (if_pos hc).symm.trans h
      refine lv_aload_n C0.hx C0.hb dX8_hour_47 rfl (lv_at hl 0 rfl) ?_
      obtain ⟨r7, hr7, h⟩ := Option.bind_eq_some_iff.mp h
      refine q_getR C0 hw hr7 rfl in_8 (by decide) kw_352 dX8_hour_48 ?_
      obtain ⟨r8, hr8, h⟩ := Option.bind_eq_some_iff.mp h
      refine q_getR C0 hw hr8 rfl in_5 (by decide) kw_259 dX8_hour_51 ?_
      obtain ⟨v9, hv9, h⟩ := Option.bind_eq_some_iff.mp h
      refine q_getI C0 hw hv9 rfl in_4 (by decide) kw_200 dX8_hour_54 ?_
      obtain rfl := Option.some.inj h
      exact q_reti C0 hw hr hlocks dX8_hour_57
    · have h := (if_neg hc).symm.trans h
      refine lv_aload_n C0.hx C0.hb dX8_hour_30 rfl (lv_at hl 0 rfl) ?_
      obtain ⟨r10, hr10, h⟩ := Option.bind_eq_some_iff.mp h
      refine q_getR C0 hw hr10 rfl in_8 (by decide) kw_352 dX8_hour_31 ?_
      refine lv_aload_n C0.hx C0.hb dX8_hour_34 rfl (lv_at hl 0 rfl) ?_
      obtain ⟨r11, hr11, h⟩ := Option.bind_eq_some_iff.mp h
      refine q_getR C0 hw hr11 rfl in_8 (by decide) kw_351 dX8_hour_35 ?_
      obtain ⟨c12, hc12, h⟩ := Option.bind_eq_some_iff.mp h
      obtain ⟨S13, hS13, h⟩ := Option.bind_eq_some_iff.mp h
      refine q_callV (n := 1) (av := [.ref (b0 + r11)]) (rest := []) (st1 := []) C0 hw (m_X5_passHour l b0 D cy S r10 r11 hS13) hc12 rfl (by decide) (goodV kw_584 kw_585 kw_586 kw_66 kw_587) ⟨rfl, rfl⟩ (by decide +kernel) ⟨(Nat.le_of_ble_eq_true rfl), (Nat.le_of_ble_eq_true rfl)⟩ rfl hl.1 rfl (Nat.le_of_ble_eq_true rfl) dX8_hour_38 ⟨Nat.zero_le _, Nat.zero_le _⟩ rfl (fun H locs hw => ?_)
      obtain ⟨v14, hv14, h⟩ := Option.bind_eq_some_iff.mp h
      refine lv_iinc (v := v14) (lv' := [(3, .int v14), (0, .ref (b0 + a0)), (1, .int x1)]) C0.hx C0.hb dX8_hour_41 hl (k := 2) rfl (by rw [← Option.some.inj hv14]; rfl) (by decide) rfl (fun ls hl => ?_)
      refine lv_goto (tgt := 25) C0.hx C0.hb dX8_hour_44 (by decide) ?_
      exact ih a0 x1 v14 S13 _ _ _ hw (lv_sub hl [1, 2, 0] rfl) h
set_option maxHeartbeats 4000000 in
set_option maxRecDepth 100000 in
theorem m_X8_hour (l : Launch) (b0 : Nat) (D : va_G) (cy : Nat → ClassId) (S : Mem) (a0 : Nat) (x1 : Int32) {q : (Int32 × Mem)} (h : f_X8_hour a0 x1 S = some q) : Met l yX8_hour [.code yX8_hour cX8_hour 4 (some .int)] rm_X8_hour (Pr b0 D cy S [.ref (b0 + a0), .int x1]) (Qp b0 D cy (some (.int q.1)) q.2) 0 0 (fun q => b0 ≤ q) := by
  refine Met.ofW (cc := cX8_hour) (maxL := 4) (ret := some .int) (by decide) rfl ?_
  intro p e s m args below meth c s₁ B hml hv
  obtain ⟨rfl, hP, hK, hT⟩ := hv
  have C0 : Cx p m c cX8_hour 4 s (List.toArray [.ref (b0 + a0), .int x1]) RX8 D cy := ⟨⟨B.exec, B.bytes, hml, findClass_of_methodNamed B.named, fun w h => hT w h _⟩, hK, hT⟩
  have hr : meth.sig.returnType = some .int := B.returns
  have hlocks := B.notSynchronized
  have hw : Wd b0 D cy S s.heap s.heap [] := ⟨hP, va_S.rf⟩
  have hl := lv_entry ([.ref (b0 + a0), .int x1]) (n := 4) (Nat.le_of_ble_eq_true rfl)
  rw [lg_entry_eq]
  generalize (lg_sl ([.ref (b0 + a0), .int x1]) ++ List.replicate (4 - (lg_sl ([.ref (b0 + a0), .int x1])).length) Slot.unset).toArray = ls at hl ⊢
  have hl : lv_has ls 4 [(0, .ref (b0 + a0)), (1, .int x1)] := hl
  rw [f_X8_hour] at h
  show W p l e rm_X8_hour s m _ below meth c s.heap [] 0 0 _ _
  refine lv_aload_n C0.hx C0.hb dX8_hour_0 rfl (lv_at hl 0 rfl) ?_
  refine lv_iload_n C0.hx C0.hb dX8_hour_1 rfl (lv_at hl 1 rfl) ?_
  obtain ⟨c1, hc1, h⟩ := Option.bind_eq_some_iff.mp h
  obtain ⟨v2, hv2, h⟩ := Option.bind_eq_some_iff.mp h
  refine q_callV (n := 1) (av := [.int x1]) (rest := []) (st1 := [.int v2]) C0 hw (m_X8_refusalOfHours l b0 D cy S a0 x1 hv2) hc1 rfl (by decide) (goodV kw_558 kw_560 kw_12 kw_63 kw_561) ⟨rfl, rfl⟩ (by decide +kernel) ⟨(Nat.le_of_ble_eq_true rfl), (Nat.le_of_ble_eq_true rfl)⟩ rfl hl.1 rfl (Nat.le_of_ble_eq_true rfl) dX8_hour_2 ⟨Nat.zero_le _, Nat.zero_le _⟩ rfl (fun H locs hw => ?_)
  refine lv_istore_n (lv' := [(2, .int v2), (0, .ref (b0 + a0)), (1, .int x1)]) C0.hx C0.hb dX8_hour_5 rfl hl (by decide) rfl (fun ls hl => ?_)
  refine lv_iload_n C0.hx C0.hb dX8_hour_6 rfl (lv_at hl 0 rfl) ?_
  refine lv_if_eq (tgt := 12) C0.hx C0.hb dX8_hour_7 (by decide) (fun hc => ?_) (fun hc => ?_)
  · have h := (if_pos hc).symm.trans h
    refine lv_aload_n C0.hx C0.hb dX8_hour_12 rfl (lv_at hl 1 rfl) ?_
    obtain ⟨r3, hr3, h⟩ := Option.bind_eq_some_iff.mp h
    refine q_getR C0 hw hr3 rfl in_8 (by decide) kw_353 dX8_hour_13 ?_
    refine lv_aload_n C0.hx C0.hb dX8_hour_16 rfl (lv_at hl 1 rfl) ?_
    obtain ⟨r4, hr4, h⟩ := Option.bind_eq_some_iff.mp h
    refine q_getR C0 hw hr4 rfl in_8 (by decide) kw_352 dX8_hour_17 ?_
    obtain ⟨c5, hc5, h⟩ := Option.bind_eq_some_iff.mp h
    obtain ⟨S6, hS6, h⟩ := Option.bind_eq_some_iff.mp h
    refine q_callV (n := 1) (av := [.ref (b0 + r4)]) (rest := []) (st1 := []) C0 hw (m_X3_remember l b0 D cy S r3 r4 hS6) hc5 rfl (by decide) (goodV kw_563 kw_564 kw_565 kw_69 kw_566) ⟨rfl, rfl⟩ (by decide +kernel) ⟨(Nat.le_of_ble_eq_true rfl), (Nat.le_of_ble_eq_true rfl)⟩ rfl hl.1 rfl (Nat.le_of_ble_eq_true rfl) dX8_hour_20 ⟨Nat.zero_le _, Nat.zero_le _⟩ rfl (fun H locs hw => ?_)
    refine lv_iconst (v := (0 : Int32)) C0.hx C0.hb dX8_hour_23 (by decide) ?_
    refine lv_istore_n (lv' := [(3, .int (0 : Int32)), (2, .int v2), (0, .ref (b0 + a0)), (1, .int x1)]) C0.hx C0.hb dX8_hour_24 rfl hl (by decide) rfl (fun ls hl => ?_)
    exact w_X8_hour_b25 C0 hr hlocks FU a0 x1 (0 : Int32) S6 _ _ _ hw (lv_sub hl [2, 3, 0] rfl) h
  · have h := (if_neg hc).symm.trans h
    refine lv_iload_n C0.hx C0.hb dX8_hour_10 rfl (lv_at hl 0 rfl) ?_
    obtain rfl := Option.some.inj h
    exact q_reti C0 hw hr hlocks dX8_hour_11
abbrev rm_X8_carpet : Room := { frames := 4, cells := 0, slots := 0, locals := 103 }
def f_X8_carpet (a0 : Nat) (x1 : Int32) (x2 : Int32) (S : Mem) : Option (Int32 × Mem) :=
    (ck 8 S a0).bind fun c1 =>
      (f_X8_isNoRoom a0 x1 S).bind fun v2 =>
      (if v2 = (0 : Int32) then
      (gR 8 3 S a0).bind fun r3 =>
      (gR 8 2 S a0).bind fun r4 =>
      (ck 3 S r3).bind fun c5 =>
      (f_X3_remember r3 r4 S).bind fun S6 =>
      (gR 8 2 S6 a0).bind fun r7 =>
      (gR 5 0 S6 r7).bind fun r8 =>
      (gI 4 5 S6 r8).bind fun v9 =>
      (some (f_X8_bit v9 x1)).bind fun v10 =>
      (gR 8 2 S6 a0).bind fun r11 =>
      (gR 5 0 S6 r11).bind fun r12 =>
      (gR 8 2 S6 a0).bind fun r13 =>
      (gR 5 0 S6 r13).bind fun r14 =>
      (gI 4 5 S6 r14).bind fun v15 =>
      (f_X8_withBit v15 x1 x2).bind fun v16 =>
      (pI 4 5 S6 r12 v16).bind fun S17 =>
      some (v10, S17)
      else
      some ((-1000000001 : Int32), S))
set_option maxHeartbeats 4000000 in
set_option maxRecDepth 100000 in
theorem m_X8_carpet (l : Launch) (b0 : Nat) (D : va_G) (cy : Nat → ClassId) (S : Mem) (a0 : Nat) (x1 : Int32) (x2 : Int32) {q : (Int32 × Mem)} (h : f_X8_carpet a0 x1 x2 S = some q) : Met l yX8_carpet [.code yX8_carpet cX8_carpet 4 (some .int)] rm_X8_carpet (Pr b0 D cy S [.ref (b0 + a0), .int x1, .int x2]) (Qp b0 D cy (some (.int q.1)) q.2) 0 0 (fun q => b0 ≤ q) := by
  refine Met.ofW (cc := cX8_carpet) (maxL := 4) (ret := some .int) (by decide) rfl ?_
  intro p e s m args below meth c s₁ B hml hv
  obtain ⟨rfl, hP, hK, hT⟩ := hv
  have C0 : Cx p m c cX8_carpet 4 s (List.toArray [.ref (b0 + a0), .int x1, .int x2]) RX8 D cy := ⟨⟨B.exec, B.bytes, hml, findClass_of_methodNamed B.named, fun w h => hT w h _⟩, hK, hT⟩
  have hr : meth.sig.returnType = some .int := B.returns
  have hlocks := B.notSynchronized
  have hw : Wd b0 D cy S s.heap s.heap [] := ⟨hP, va_S.rf⟩
  have hl := lv_entry ([.ref (b0 + a0), .int x1, .int x2]) (n := 4) (Nat.le_of_ble_eq_true rfl)
  rw [lg_entry_eq]
  generalize (lg_sl ([.ref (b0 + a0), .int x1, .int x2]) ++ List.replicate (4 - (lg_sl ([.ref (b0 + a0), .int x1, .int x2])).length) Slot.unset).toArray = ls at hl ⊢
  have hl : lv_has ls 4 [(0, .ref (b0 + a0)), (1, .int x1), (2, .int x2)] := hl
  rw [f_X8_carpet] at h
  show W p l e rm_X8_carpet s m _ below meth c s.heap [] 0 0 _ _
  refine lv_aload_n C0.hx C0.hb dX8_carpet_0 rfl (lv_at hl 0 rfl) ?_
  refine lv_iload_n C0.hx C0.hb dX8_carpet_1 rfl (lv_at hl 1 rfl) ?_
  obtain ⟨c1, hc1, h⟩ := Option.bind_eq_some_iff.mp h
  obtain ⟨v2, hv2, h⟩ := Option.bind_eq_some_iff.mp h
  refine q_callV (n := 1) (av := [.int x1]) (rest := []) (st1 := [.int v2]) C0 hw (m_X8_isNoRoom l b0 D cy S a0 x1 hv2) hc1 rfl (by decide) (goodV kw_505 kw_507 kw_10 kw_63 kw_508) ⟨rfl, rfl⟩ (by decide +kernel) ⟨(Nat.le_of_ble_eq_true rfl), (Nat.le_of_ble_eq_true rfl)⟩ rfl hl.1 rfl (Nat.le_of_ble_eq_true rfl) dX8_carpet_2 ⟨Nat.zero_le _, Nat.zero_le _⟩ rfl (fun H locs hw => ?_)
  refine lv_if_eq (tgt := 11) C0.hx C0.hb dX8_carpet_5 (by decide) (fun hc => ?_) (fun hc => ?_)
  · have h := (if_pos hc).symm.trans h
    refine lv_aload_n C0.hx C0.hb dX8_carpet_11 rfl (lv_at hl 0 rfl) ?_
    obtain ⟨r3, hr3, h⟩ := Option.bind_eq_some_iff.mp h
    refine q_getR C0 hw hr3 rfl in_8 (by decide) kw_353 dX8_carpet_12 ?_
    refine lv_aload_n C0.hx C0.hb dX8_carpet_15 rfl (lv_at hl 0 rfl) ?_
    obtain ⟨r4, hr4, h⟩ := Option.bind_eq_some_iff.mp h
    refine q_getR C0 hw hr4 rfl in_8 (by decide) kw_352 dX8_carpet_16 ?_
    obtain ⟨c5, hc5, h⟩ := Option.bind_eq_some_iff.mp h
    obtain ⟨S6, hS6, h⟩ := Option.bind_eq_some_iff.mp h
    refine q_callV (n := 1) (av := [.ref (b0 + r4)]) (rest := []) (st1 := []) C0 hw (m_X3_remember l b0 D cy S r3 r4 hS6) hc5 rfl (by decide) (goodV kw_563 kw_564 kw_565 kw_69 kw_566) ⟨rfl, rfl⟩ (by decide +kernel) ⟨(Nat.le_of_ble_eq_true rfl), (Nat.le_of_ble_eq_true rfl)⟩ rfl hl.1 rfl (Nat.le_of_ble_eq_true rfl) dX8_carpet_19 ⟨Nat.zero_le _, Nat.zero_le _⟩ rfl (fun H locs hw => ?_)
    refine lv_aload_n C0.hx C0.hb dX8_carpet_22 rfl (lv_at hl 0 rfl) ?_
    obtain ⟨r7, hr7, h⟩ := Option.bind_eq_some_iff.mp h
    refine q_getR C0 hw hr7 rfl in_8 (by decide) kw_352 dX8_carpet_23 ?_
    obtain ⟨r8, hr8, h⟩ := Option.bind_eq_some_iff.mp h
    refine q_getR C0 hw hr8 rfl in_5 (by decide) kw_259 dX8_carpet_26 ?_
    obtain ⟨v9, hv9, h⟩ := Option.bind_eq_some_iff.mp h
    refine q_getI C0 hw hv9 rfl in_4 (by decide) kw_210 dX8_carpet_29 ?_
    refine lv_iload_n C0.hx C0.hb dX8_carpet_32 rfl (lv_at hl 1 rfl) ?_
    refine q_callS (n := 2) (av := [.int v9, .int x1]) (rest := []) (st1 := [.int (f_X8_bit v9 x1)]) C0 hw (m_X8_bit l b0 D cy S6 v9 x1) (goodS kw_537 kw_529 kw_63 kw_530) ⟨rfl, rfl⟩ (by decide +kernel) ⟨(Nat.le_of_ble_eq_true rfl), (Nat.le_of_ble_eq_true rfl)⟩ rfl hl.1 rfl (Nat.le_of_ble_eq_true rfl) dX8_carpet_33 ⟨Nat.zero_le _, Nat.zero_le _⟩ rfl (fun H locs hw => ?_)
    obtain ⟨v10, hv10, h⟩ := Option.bind_eq_some_iff.mp h
    refine q_nmI hv10 ?_
    refine lv_istore_n (lv' := [(3, .int v10), (0, .ref (b0 + a0)), (1, .int x1), (2, .int x2)]) C0.hx C0.hb dX8_carpet_36 rfl hl (by decide) rfl (fun ls hl => ?_)
    refine lv_aload_n C0.hx C0.hb dX8_carpet_37 rfl (lv_at hl 1 rfl) ?_
    obtain ⟨r11, hr11, h⟩ := Option.bind_eq_some_iff.mp h
    refine q_getR C0 hw hr11 rfl in_8 (by decide) kw_352 dX8_carpet_38 ?_
    obtain ⟨r12, hr12, h⟩ := Option.bind_eq_some_iff.mp h
    refine q_getR C0 hw hr12 rfl in_5 (by decide) kw_259 dX8_carpet_41 ?_
    refine lv_aload_n C0.hx C0.hb dX8_carpet_44 rfl (lv_at hl 1 rfl) ?_
    obtain ⟨r13, hr13, h⟩ := Option.bind_eq_some_iff.mp h
    refine q_getR C0 hw hr13 rfl in_8 (by decide) kw_352 dX8_carpet_45 ?_
    obtain ⟨r14, hr14, h⟩ := Option.bind_eq_some_iff.mp h
    refine q_getR C0 hw hr14 rfl in_5 (by decide) kw_259 dX8_carpet_48 ?_
    obtain ⟨v15, hv15, h⟩ := Option.bind_eq_some_iff.mp h
    refine q_getI C0 hw hv15 rfl in_4 (by decide) kw_210 dX8_carpet_51 ?_
    refine lv_iload_n C0.hx C0.hb dX8_carpet_54 rfl (lv_at hl 2 rfl) ?_
    refine lv_iload_n C0.hx C0.hb dX8_carpet_55 rfl (lv_at hl 3 rfl) ?_
    obtain ⟨v16, hv16, h⟩ := Option.bind_eq_some_iff.mp h
    refine q_callS (n := 3) (av := [.int v15, .int x1, .int x2]) (rest := [.ref (b0 + r12)]) (st1 := [.int v16, .ref (b0 + r12)]) C0 hw (m_X8_withBit l b0 D cy S6 v15 x1 x2 hv16) (goodS kw_629 kw_443 kw_63 kw_444) ⟨rfl, rfl⟩ (by decide +kernel) ⟨(Nat.le_of_ble_eq_true rfl), (Nat.le_of_ble_eq_true rfl)⟩ rfl hl.1 rfl (Nat.le_of_ble_eq_true rfl) dX8_carpet_56 ⟨Nat.zero_le _, Nat.zero_le _⟩ rfl (fun H locs hw => ?_)
    obtain ⟨S17, hS17, h⟩ := Option.bind_eq_some_iff.mp h
    refine q_putI C0 hw hS17 rfl in_4 tyX4_ok nmX4 ⟨by decide, by decide, rfl, rfl⟩ rfl kw_210 dX8_carpet_59 (fun H locs hw => ?_)
    refine lv_iload_n C0.hx C0.hb dX8_carpet_62 rfl (lv_at hl 0 rfl) ?_
    obtain rfl := Option.some.inj h
    exact q_reti C0 hw hr hlocks dX8_carpet_63
  · have h := (if_neg hc).symm.trans h
    refine lv_ldc C0.hx C0.hb C0.ho (C0.w kw_509) dX8_carpet_8 ?_
    obtain rfl := Option.some.inj h
    exact q_reti C0 hw hr hlocks dX8_carpet_10
abbrev rm_X8_noise : Room := { frames := 4, cells := 0, slots := 0, locals := 103 }
def f_X8_noise (a0 : Nat) (x1 : Int32) (x2 : Int32) (S : Mem) : Option (Int32 × Mem) :=
    (ck 8 S a0).bind fun c1 =>
      (f_X8_isNoRoom a0 x1 S).bind fun v2 =>
      (if v2 = (0 : Int32) then
      (if x2 < (0 : Int32) then
      some ((-1000000002 : Int32), S)
      else
      (if x2 ≤ (9 : Int32) then
      (gR 8 3 S a0).bind fun r3 =>
      (gR 8 2 S a0).bind fun r4 =>
      (ck 3 S r3).bind fun c5 =>
      (f_X3_remember r3 r4 S).bind fun S6 =>
      (gR 8 2 S6 a0).bind fun r7 =>
      (gR 5 0 S6 r7).bind fun r8 =>
      (gI 4 3 S6 r8).bind fun v9 =>
      (some (f_X8_packedAt v9 x1)).bind fun v10 =>
      (gR 8 2 S6 a0).bind fun r11 =>
      (gR 5 0 S6 r11).bind fun r12 =>
      (gR 8 2 S6 a0).bind fun r13 =>
      (gR 5 0 S6 r13).bind fun r14 =>
      (gI 4 3 S6 r14).bind fun v15 =>
      (pI 4 3 S6 r12 (f_X8_withPacked v15 x1 x2)).bind fun S16 =>
      some (v10, S16)
      else
      some ((-1000000002 : Int32), S)))
      else
      some ((-1000000001 : Int32), S))
set_option maxHeartbeats 4000000 in
set_option maxRecDepth 100000 in
theorem m_X8_noise (l : Launch) (b0 : Nat) (D : va_G) (cy : Nat → ClassId) (S : Mem) (a0 : Nat) (x1 : Int32) (x2 : Int32) {q : (Int32 × Mem)} (h : f_X8_noise a0 x1 x2 S = some q) : Met l yX8_noise [.code yX8_noise cX8_noise 4 (some .int)] rm_X8_noise (Pr b0 D cy S [.ref (b0 + a0), .int x1, .int x2]) (Qp b0 D cy (some (.int q.1)) q.2) 0 0 (fun q => b0 ≤ q) := by
  refine Met.ofW (cc := cX8_noise) (maxL := 4) (ret := some .int) (by decide) rfl ?_
  intro p e s m args below meth c s₁ B hml hv
  obtain ⟨rfl, hP, hK, hT⟩ := hv
  have C0 : Cx p m c cX8_noise 4 s (List.toArray [.ref (b0 + a0), .int x1, .int x2]) RX8 D cy := ⟨⟨B.exec, B.bytes, hml, findClass_of_methodNamed B.named, fun w h => hT w h _⟩, hK, hT⟩
  have hr : meth.sig.returnType = some .int := B.returns
  have hlocks := B.notSynchronized
  have hw : Wd b0 D cy S s.heap s.heap [] := ⟨hP, va_S.rf⟩
  have hl := lv_entry ([.ref (b0 + a0), .int x1, .int x2]) (n := 4) (Nat.le_of_ble_eq_true rfl)
  rw [lg_entry_eq]
  generalize (lg_sl ([.ref (b0 + a0), .int x1, .int x2]) ++ List.replicate (4 - (lg_sl ([.ref (b0 + a0), .int x1, .int x2])).length) Slot.unset).toArray = ls at hl ⊢
  have hl : lv_has ls 4 [(0, .ref (b0 + a0)), (1, .int x1), (2, .int x2)] := hl
  rw [f_X8_noise] at h
  show W p l e rm_X8_noise s m _ below meth c s.heap [] 0 0 _ _
  refine lv_aload_n C0.hx C0.hb dX8_noise_0 rfl (lv_at hl 0 rfl) ?_
  refine lv_iload_n C0.hx C0.hb dX8_noise_1 rfl (lv_at hl 1 rfl) ?_
  obtain ⟨c1, hc1, h⟩ := Option.bind_eq_some_iff.mp h
  obtain ⟨v2, hv2, h⟩ := Option.bind_eq_some_iff.mp h
  refine q_callV (n := 1) (av := [.int x1]) (rest := []) (st1 := [.int v2]) C0 hw (m_X8_isNoRoom l b0 D cy S a0 x1 hv2) hc1 rfl (by decide) (goodV kw_505 kw_507 kw_10 kw_63 kw_508) ⟨rfl, rfl⟩ (by decide +kernel) ⟨(Nat.le_of_ble_eq_true rfl), (Nat.le_of_ble_eq_true rfl)⟩ rfl hl.1 rfl (Nat.le_of_ble_eq_true rfl) dX8_noise_2 ⟨Nat.zero_le _, Nat.zero_le _⟩ rfl (fun H locs hw => ?_)
  refine lv_if_eq (tgt := 11) C0.hx C0.hb dX8_noise_5 (by decide) (fun hc => ?_) (fun hc => ?_)
  · have h := (if_pos hc).symm.trans h
    refine lv_iload_n C0.hx C0.hb dX8_noise_11 rfl (lv_at hl 2 rfl) ?_
    refine lv_if_lt (tgt := 21) C0.hx C0.hb dX8_noise_12 (by decide) (fun hc => ?_) (fun hc => ?_)
    · have h := (if_pos hc).symm.trans h
      refine lv_ldc C0.hx C0.hb C0.ho (C0.w kw_385) dX8_noise_21 ?_
      obtain rfl := Option.some.inj h
      exact q_reti C0 hw hr hlocks dX8_noise_23
    · have h := (if_neg hc).symm.trans h
      refine lv_iload_n C0.hx C0.hb dX8_noise_15 rfl (lv_at hl 2 rfl) ?_
      refine lv_bipush (v := (9 : Int32)) C0.hx C0.hb dX8_noise_16 (by decide) ?_
      refine lv_icmp_le (tgt := 24) C0.hx C0.hb dX8_noise_18 (by decide) (fun hc => ?_) (fun hc => ?_)
      · have h := (if_pos hc).symm.trans h
        refine lv_aload_n C0.hx C0.hb dX8_noise_24 rfl (lv_at hl 0 rfl) ?_
        obtain ⟨r3, hr3, h⟩ := Option.bind_eq_some_iff.mp h
        refine q_getR C0 hw hr3 rfl in_8 (by decide) kw_353 dX8_noise_25 ?_
        refine lv_aload_n C0.hx C0.hb dX8_noise_28 rfl (lv_at hl 0 rfl) ?_
        obtain ⟨r4, hr4, h⟩ := Option.bind_eq_some_iff.mp h
        refine q_getR C0 hw hr4 rfl in_8 (by decide) kw_352 dX8_noise_29 ?_
        obtain ⟨c5, hc5, h⟩ := Option.bind_eq_some_iff.mp h
        obtain ⟨S6, hS6, h⟩ := Option.bind_eq_some_iff.mp h
        refine q_callV (n := 1) (av := [.ref (b0 + r4)]) (rest := []) (st1 := []) C0 hw (m_X3_remember l b0 D cy S r3 r4 hS6) hc5 rfl (by decide) (goodV kw_563 kw_564 kw_565 kw_69 kw_566) ⟨rfl, rfl⟩ (by decide +kernel) ⟨(Nat.le_of_ble_eq_true rfl), (Nat.le_of_ble_eq_true rfl)⟩ rfl hl.1 rfl (Nat.le_of_ble_eq_true rfl) dX8_noise_32 ⟨Nat.zero_le _, Nat.zero_le _⟩ rfl (fun H locs hw => ?_)
        refine lv_aload_n C0.hx C0.hb dX8_noise_35 rfl (lv_at hl 0 rfl) ?_
        obtain ⟨r7, hr7, h⟩ := Option.bind_eq_some_iff.mp h
        refine q_getR C0 hw hr7 rfl in_8 (by decide) kw_352 dX8_noise_36 ?_
        obtain ⟨r8, hr8, h⟩ := Option.bind_eq_some_iff.mp h
        refine q_getR C0 hw hr8 rfl in_5 (by decide) kw_259 dX8_noise_39 ?_
        obtain ⟨v9, hv9, h⟩ := Option.bind_eq_some_iff.mp h
        refine q_getI C0 hw hv9 rfl in_4 (by decide) kw_205 dX8_noise_42 ?_
        refine lv_iload_n C0.hx C0.hb dX8_noise_45 rfl (lv_at hl 1 rfl) ?_
        refine q_callS (n := 2) (av := [.int v9, .int x1]) (rest := []) (st1 := [.int (f_X8_packedAt v9 x1)]) C0 hw (m_X8_packedAt l b0 D cy S6 v9 x1) (goodS kw_510 kw_511 kw_63 kw_512) ⟨rfl, rfl⟩ (by decide +kernel) ⟨(Nat.le_of_ble_eq_true rfl), (Nat.le_of_ble_eq_true rfl)⟩ rfl hl.1 rfl (Nat.le_of_ble_eq_true rfl) dX8_noise_46 ⟨Nat.zero_le _, Nat.zero_le _⟩ rfl (fun H locs hw => ?_)
        obtain ⟨v10, hv10, h⟩ := Option.bind_eq_some_iff.mp h
        refine q_nmI hv10 ?_
        refine lv_istore_n (lv' := [(3, .int v10), (0, .ref (b0 + a0)), (1, .int x1), (2, .int x2)]) C0.hx C0.hb dX8_noise_49 rfl hl (by decide) rfl (fun ls hl => ?_)
        refine lv_aload_n C0.hx C0.hb dX8_noise_50 rfl (lv_at hl 1 rfl) ?_
        obtain ⟨r11, hr11, h⟩ := Option.bind_eq_some_iff.mp h
        refine q_getR C0 hw hr11 rfl in_8 (by decide) kw_352 dX8_noise_51 ?_
        obtain ⟨r12, hr12, h⟩ := Option.bind_eq_some_iff.mp h
        refine q_getR C0 hw hr12 rfl in_5 (by decide) kw_259 dX8_noise_54 ?_
        refine lv_aload_n C0.hx C0.hb dX8_noise_57 rfl (lv_at hl 1 rfl) ?_
        obtain ⟨r13, hr13, h⟩ := Option.bind_eq_some_iff.mp h
        refine q_getR C0 hw hr13 rfl in_8 (by decide) kw_352 dX8_noise_58 ?_
        obtain ⟨r14, hr14, h⟩ := Option.bind_eq_some_iff.mp h
        refine q_getR C0 hw hr14 rfl in_5 (by decide) kw_259 dX8_noise_61 ?_
        obtain ⟨v15, hv15, h⟩ := Option.bind_eq_some_iff.mp h
        refine q_getI C0 hw hv15 rfl in_4 (by decide) kw_205 dX8_noise_64 ?_
        refine lv_iload_n C0.hx C0.hb dX8_noise_67 rfl (lv_at hl 2 rfl) ?_
        refine lv_iload_n C0.hx C0.hb dX8_noise_68 rfl (lv_at hl 3 rfl) ?_
        refine q_callS (n := 3) (av := [.int v15, .int x1, .int x2]) (rest := [.ref (b0 + r12)]) (st1 := [.int (f_X8_withPacked v15 x1 x2), .ref (b0 + r12)]) C0 hw (m_X8_withPacked l b0 D cy S6 v15 x1 x2) (goodS kw_634 kw_440 kw_63 kw_441) ⟨rfl, rfl⟩ (by decide +kernel) ⟨(Nat.le_of_ble_eq_true rfl), (Nat.le_of_ble_eq_true rfl)⟩ rfl hl.1 rfl (Nat.le_of_ble_eq_true rfl) dX8_noise_69 ⟨Nat.zero_le _, Nat.zero_le _⟩ rfl (fun H locs hw => ?_)
        obtain ⟨S16, hS16, h⟩ := Option.bind_eq_some_iff.mp h
        refine q_putI C0 hw hS16 rfl in_4 tyX4_ok nmX4 ⟨by decide, by decide, rfl, rfl⟩ rfl kw_205 dX8_noise_72 (fun H locs hw => ?_)
        refine lv_iload_n C0.hx C0.hb dX8_noise_75 rfl (lv_at hl 0 rfl) ?_
        obtain rfl := Option.some.inj h
        exact q_reti C0 hw hr hlocks dX8_noise_76
      · have h := (if_neg hc).symm.trans h
        refine lv_ldc C0.hx C0.hb C0.ho (C0.w kw_385) dX8_noise_21 ?_
        obtain rfl := Option.some.inj h
        exact q_reti C0 hw hr hlocks dX8_noise_23
  · have h := (if_neg hc).symm.trans h
    refine lv_ldc C0.hx C0.hb C0.ho (C0.w kw_509) dX8_noise_8 ?_
    obtain rfl := Option.some.inj h
    exact q_reti C0 hw hr hlocks dX8_noise_10
