theorem g_0 {S : Mem} (h : S.1 = 233) (k : Nat) : gI 8 k S 0 = some (S.2.1 0 k) := if_pos ⟨by rw [h]; decide, by decide +kernel⟩
theorem p_0 {S : Mem} (h : S.1 = 233) (k : Nat) (v : Int32) : pI 8 k S 0 v = some (rowI S 0 (upd (S.2.1 0) k v)) := if_pos ⟨by rw [h]; decide, by decide +kernel⟩
theorem c_0 {S : Mem} (h : S.1 = 233) : ck 8 S 0 = some () := if_pos ⟨by rw [h]; decide, by decide +kernel⟩
theorem g_1 {S : Mem} (h : S.1 = 233) (k : Nat) : gI 6 k S 1 = some (S.2.1 1 k) := if_pos ⟨by rw [h]; decide, by decide +kernel⟩
theorem p_1 {S : Mem} (h : S.1 = 233) (k : Nat) (v : Int32) : pI 6 k S 1 v = some (rowI S 1 (upd (S.2.1 1) k v)) := if_pos ⟨by rw [h]; decide, by decide +kernel⟩
theorem c_1 {S : Mem} (h : S.1 = 233) : ck 6 S 1 = some () := if_pos ⟨by rw [h]; decide, by decide +kernel⟩
theorem g_13 {S : Mem} (h : S.1 = 233) (k : Nat) : gI 5 k S 13 = some (S.2.1 13 k) := if_pos ⟨by rw [h]; decide, by decide +kernel⟩
theorem p_13 {S : Mem} (h : S.1 = 233) (k : Nat) (v : Int32) : pI 5 k S 13 v = some (rowI S 13 (upd (S.2.1 13) k v)) := if_pos ⟨by rw [h]; decide, by decide +kernel⟩
theorem c_13 {S : Mem} (h : S.1 = 233) : ck 5 S 13 = some () := if_pos ⟨by rw [h]; decide, by decide +kernel⟩
theorem g_14 {S : Mem} (h : S.1 = 233) (k : Nat) : gI 4 k S 14 = some (S.2.1 14 k) := if_pos ⟨by rw [h]; decide, by decide +kernel⟩
theorem p_14 {S : Mem} (h : S.1 = 233) (k : Nat) (v : Int32) : pI 4 k S 14 v = some (rowI S 14 (upd (S.2.1 14) k v)) := if_pos ⟨by rw [h]; decide, by decide +kernel⟩
theorem c_14 {S : Mem} (h : S.1 = 233) : ck 4 S 14 = some () := if_pos ⟨by rw [h]; decide, by decide +kernel⟩
theorem g_16 {S : Mem} (h : S.1 = 233) (k : Nat) : gI 7 k S 16 = some (S.2.1 16 k) := if_pos ⟨by rw [h]; decide, by decide +kernel⟩
theorem p_16 {S : Mem} (h : S.1 = 233) (k : Nat) (v : Int32) : pI 7 k S 16 v = some (rowI S 16 (upd (S.2.1 16) k v)) := if_pos ⟨by rw [h]; decide, by decide +kernel⟩
theorem c_16 {S : Mem} (h : S.1 = 233) : ck 7 S 16 = some () := if_pos ⟨by rw [h]; decide, by decide +kernel⟩
theorem g_23 {S : Mem} (h : S.1 = 233) (k : Nat) : gI 3 k S 23 = some (S.2.1 23 k) := if_pos ⟨by rw [h]; decide, by decide +kernel⟩
theorem p_23 {S : Mem} (h : S.1 = 233) (k : Nat) (v : Int32) : pI 3 k S 23 v = some (rowI S 23 (upd (S.2.1 23) k v)) := if_pos ⟨by rw [h]; decide, by decide +kernel⟩
theorem c_23 {S : Mem} (h : S.1 = 233) : ck 3 S 23 = some () := if_pos ⟨by rw [h]; decide, by decide +kernel⟩
theorem g_186 {S : Mem} (h : S.1 = 233) (k : Nat) : gI 0 k S 186 = some (S.2.1 186 k) := if_pos ⟨by rw [h]; decide, by decide +kernel⟩
theorem p_186 {S : Mem} (h : S.1 = 233) (k : Nat) (v : Int32) : pI 0 k S 186 v = some (rowI S 186 (upd (S.2.1 186) k v)) := if_pos ⟨by rw [h]; decide, by decide +kernel⟩
theorem c_186 {S : Mem} (h : S.1 = 233) : ck 0 S 186 = some () := if_pos ⟨by rw [h]; decide, by decide +kernel⟩
theorem g_189 {S : Mem} (h : S.1 = 233) (k : Nat) : gI 4 k S 189 = some (S.2.1 189 k) := if_pos ⟨by rw [h]; decide, by decide +kernel⟩
theorem p_189 {S : Mem} (h : S.1 = 233) (k : Nat) (v : Int32) : pI 4 k S 189 v = some (rowI S 189 (upd (S.2.1 189) k v)) := if_pos ⟨by rw [h]; decide, by decide +kernel⟩
theorem c_189 {S : Mem} (h : S.1 = 233) : ck 4 S 189 = some () := if_pos ⟨by rw [h]; decide, by decide +kernel⟩
theorem g_191 {S : Mem} (h : S.1 = 233) (k : Nat) : gI 4 k S 191 = some (S.2.1 191 k) := if_pos ⟨by rw [h]; decide, by decide +kernel⟩
theorem p_191 {S : Mem} (h : S.1 = 233) (k : Nat) (v : Int32) : pI 4 k S 191 v = some (rowI S 191 (upd (S.2.1 191) k v)) := if_pos ⟨by rw [h]; decide, by decide +kernel⟩
theorem c_191 {S : Mem} (h : S.1 = 233) : ck 4 S 191 = some () := if_pos ⟨by rw [h]; decide, by decide +kernel⟩
theorem g_194 {S : Mem} (h : S.1 = 233) (k : Nat) : gI 1 k S 194 = some (S.2.1 194 k) := if_pos ⟨by rw [h]; decide, by decide +kernel⟩
theorem p_194 {S : Mem} (h : S.1 = 233) (k : Nat) (v : Int32) : pI 1 k S 194 v = some (rowI S 194 (upd (S.2.1 194) k v)) := if_pos ⟨by rw [h]; decide, by decide +kernel⟩
theorem c_194 {S : Mem} (h : S.1 = 233) : ck 1 S 194 = some () := if_pos ⟨by rw [h]; decide, by decide +kernel⟩
theorem g_205 {S : Mem} (h : S.1 = 233) (k : Nat) : gI 1 k S 205 = some (S.2.1 205 k) := if_pos ⟨by rw [h]; decide, by decide +kernel⟩
theorem p_205 {S : Mem} (h : S.1 = 233) (k : Nat) (v : Int32) : pI 1 k S 205 v = some (rowI S 205 (upd (S.2.1 205) k v)) := if_pos ⟨by rw [h]; decide, by decide +kernel⟩
theorem c_205 {S : Mem} (h : S.1 = 233) : ck 1 S 205 = some () := if_pos ⟨by rw [h]; decide, by decide +kernel⟩
theorem r_0_0 {S : Mem} {p : Nat} (h : rfC S p) : gR 8 0 S 0 = some 1 := by
  rw [gR, if_pos ⟨by rw [h.1]; decide, by decide +kernel⟩, h.2.2 0 (by decide) 0 (by decide)]; rfl
theorem r_0_1 {S : Mem} {p : Nat} (h : rfC S p) : gR 8 1 S 0 = some p := by
  rw [gR, if_pos ⟨by rw [h.1]; decide, by decide +kernel⟩, h.2.2 0 (by decide) 1 (by decide)]; rfl
theorem r_0_2 {S : Mem} {p : Nat} (h : rfC S p) : gR 8 2 S 0 = some 13 := by
  rw [gR, if_pos ⟨by rw [h.1]; decide, by decide +kernel⟩, h.2.2 0 (by decide) 2 (by decide)]; rfl
theorem r_0_3 {S : Mem} {p : Nat} (h : rfC S p) : gR 8 3 S 0 = some 23 := by
  rw [gR, if_pos ⟨by rw [h.1]; decide, by decide +kernel⟩, h.2.2 0 (by decide) 3 (by decide)]; rfl
theorem r_0_4 {S : Mem} {p : Nat} (h : rfC S p) : gR 8 4 S 0 = some 185 := by
  rw [gR, if_pos ⟨by rw [h.1]; decide, by decide +kernel⟩, h.2.2 0 (by decide) 4 (by decide)]; rfl
theorem r_0_5 {S : Mem} {p : Nat} (h : rfC S p) : gR 8 5 S 0 = some 186 := by
  rw [gR, if_pos ⟨by rw [h.1]; decide, by decide +kernel⟩, h.2.2 0 (by decide) 5 (by decide)]; rfl
theorem r_0_7 {S : Mem} {p : Nat} (h : rfC S p) : gR 8 7 S 0 = some 189 := by
  rw [gR, if_pos ⟨by rw [h.1]; decide, by decide +kernel⟩, h.2.2 0 (by decide) 7 (by decide)]; rfl
theorem r_0_8 {S : Mem} {p : Nat} (h : rfC S p) : gR 8 8 S 0 = some 191 := by
  rw [gR, if_pos ⟨by rw [h.1]; decide, by decide +kernel⟩, h.2.2 0 (by decide) 8 (by decide)]; rfl
theorem r_0_9 {S : Mem} {p : Nat} (h : rfC S p) : gR 8 9 S 0 = some 193 := by
  rw [gR, if_pos ⟨by rw [h.1]; decide, by decide +kernel⟩, h.2.2 0 (by decide) 9 (by decide)]; rfl
theorem r_1_3 {S : Mem} {p : Nat} (h : rfC S p) : gR 6 3 S 1 = some (10 - p) := by
  rw [gR, if_pos ⟨by rw [h.1]; decide, by decide +kernel⟩, h.2.2 1 (by decide) 3 (by decide)]; rfl
theorem r_1_4 {S : Mem} {p : Nat} (h : rfC S p) : gR 6 4 S 1 = some 7 := by
  rw [gR, if_pos ⟨by rw [h.1]; decide, by decide +kernel⟩, h.2.2 1 (by decide) 4 (by decide)]; rfl
theorem r_13_0 {S : Mem} {p : Nat} (h : rfC S p) : gR 5 0 S 13 = some 14 := by
  rw [gR, if_pos ⟨by rw [h.1]; decide, by decide +kernel⟩, h.2.2 13 (by decide) 0 (by decide)]; rfl
theorem r_13_1 {S : Mem} {p : Nat} (h : rfC S p) : gR 5 1 S 13 = some 16 := by
  rw [gR, if_pos ⟨by rw [h.1]; decide, by decide +kernel⟩, h.2.2 13 (by decide) 1 (by decide)]; rfl
theorem r_13_6 {S : Mem} {p : Nat} (h : rfC S p) : gR 5 6 S 13 = some 21 := by
  rw [gR, if_pos ⟨by rw [h.1]; decide, by decide +kernel⟩, h.2.2 13 (by decide) 6 (by decide)]; rfl
theorem r_13_7 {S : Mem} {p : Nat} (h : rfC S p) : gR 5 7 S 13 = some 22 := by
  rw [gR, if_pos ⟨by rw [h.1]; decide, by decide +kernel⟩, h.2.2 13 (by decide) 7 (by decide)]; rfl
theorem r_14_7 {S : Mem} {p : Nat} (h : rfC S p) : gR 4 7 S 14 = some 15 := by
  rw [gR, if_pos ⟨by rw [h.1]; decide, by decide +kernel⟩, h.2.2 14 (by decide) 7 (by decide)]; rfl
theorem r_16_2 {S : Mem} {p : Nat} (h : rfC S p) : gR 7 2 S 16 = some 17 := by
  rw [gR, if_pos ⟨by rw [h.1]; decide, by decide +kernel⟩, h.2.2 16 (by decide) 2 (by decide)]; rfl
theorem r_16_3 {S : Mem} {p : Nat} (h : rfC S p) : gR 7 3 S 16 = some 18 := by
  rw [gR, if_pos ⟨by rw [h.1]; decide, by decide +kernel⟩, h.2.2 16 (by decide) 3 (by decide)]; rfl
theorem r_16_4 {S : Mem} {p : Nat} (h : rfC S p) : gR 7 4 S 16 = some 19 := by
  rw [gR, if_pos ⟨by rw [h.1]; decide, by decide +kernel⟩, h.2.2 16 (by decide) 4 (by decide)]; rfl
theorem r_16_5 {S : Mem} {p : Nat} (h : rfC S p) : gR 7 5 S 16 = some 20 := by
  rw [gR, if_pos ⟨by rw [h.1]; decide, by decide +kernel⟩, h.2.2 16 (by decide) 5 (by decide)]; rfl
theorem r_23_2 {S : Mem} {p : Nat} (h : rfC S p) : gR 3 2 S 23 = some 24 := by
  rw [gR, if_pos ⟨by rw [h.1]; decide, by decide +kernel⟩, h.2.2 23 (by decide) 2 (by decide)]; rfl
theorem r_186_1 {S : Mem} {p : Nat} (h : rfC S p) : gR 0 1 S 186 = some 187 := by
  rw [gR, if_pos ⟨by rw [h.1]; decide, by decide +kernel⟩, h.2.2 186 (by decide) 1 (by decide)]; rfl
theorem r_186_2 {S : Mem} {p : Nat} (h : rfC S p) : gR 0 2 S 186 = some 188 := by
  rw [gR, if_pos ⟨by rw [h.1]; decide, by decide +kernel⟩, h.2.2 186 (by decide) 2 (by decide)]; rfl
theorem r_189_7 {S : Mem} {p : Nat} (h : rfC S p) : gR 4 7 S 189 = some 190 := by
  rw [gR, if_pos ⟨by rw [h.1]; decide, by decide +kernel⟩, h.2.2 189 (by decide) 7 (by decide)]; rfl
theorem r_191_7 {S : Mem} {p : Nat} (h : rfC S p) : gR 4 7 S 191 = some 192 := by
  rw [gR, if_pos ⟨by rw [h.1]; decide, by decide +kernel⟩, h.2.2 191 (by decide) 7 (by decide)]; rfl
theorem r_194_2 {S : Mem} {p : Nat} (h : rfC S p) : gR 1 2 S 194 = some 195 := by
  rw [gR, if_pos ⟨by rw [h.1]; decide, by decide +kernel⟩, h.2.2 194 (by decide) 2 (by decide)]; rfl
theorem r_205_2 {S : Mem} {p : Nat} (h : rfC S p) : gR 1 2 S 205 = some 206 := by
  rw [gR, if_pos ⟨by rw [h.1]; decide, by decide +kernel⟩, h.2.2 205 (by decide) 2 (by decide)]; rfl
theorem ld_7 {S : Mem} (h : S.1 = 233) {k : Nat} (hk : k < 240) : ldI S 7 (nI k) = some (S.2.1 7 k) := ldI_n ⟨by rw [h]; decide, by decide +kernel, by decide +kernel⟩ hk
theorem st_7 {S : Mem} (h : S.1 = 233) {k : Nat} (hk : k < 240) (v : Int32) : stI S 7 (nI k) v = some (rowI S 7 (upd (S.2.1 7) k v)) := stI_n ⟨by rw [h]; decide, by decide +kernel, by decide +kernel⟩ hk
theorem ld_15 {S : Mem} (h : S.1 = 233) {k : Nat} (hk : k < 8) : ldI S 15 (nI k) = some (S.2.1 15 k) := ldI_n ⟨by rw [h]; decide, by decide +kernel, by decide +kernel⟩ hk
theorem st_15 {S : Mem} (h : S.1 = 233) {k : Nat} (hk : k < 8) (v : Int32) : stI S 15 (nI k) v = some (rowI S 15 (upd (S.2.1 15) k v)) := stI_n ⟨by rw [h]; decide, by decide +kernel, by decide +kernel⟩ hk
theorem ld_17 {S : Mem} (h : S.1 = 233) {k : Nat} (hk : k < 16) : ldI S 17 (nI k) = some (S.2.1 17 k) := ldI_n ⟨by rw [h]; decide, by decide +kernel, by decide +kernel⟩ hk
theorem st_17 {S : Mem} (h : S.1 = 233) {k : Nat} (hk : k < 16) (v : Int32) : stI S 17 (nI k) v = some (rowI S 17 (upd (S.2.1 17) k v)) := stI_n ⟨by rw [h]; decide, by decide +kernel, by decide +kernel⟩ hk
theorem ld_18 {S : Mem} (h : S.1 = 233) {k : Nat} (hk : k < 16) : ldI S 18 (nI k) = some (S.2.1 18 k) := ldI_n ⟨by rw [h]; decide, by decide +kernel, by decide +kernel⟩ hk
theorem st_18 {S : Mem} (h : S.1 = 233) {k : Nat} (hk : k < 16) (v : Int32) : stI S 18 (nI k) v = some (rowI S 18 (upd (S.2.1 18) k v)) := stI_n ⟨by rw [h]; decide, by decide +kernel, by decide +kernel⟩ hk
theorem ld_19 {S : Mem} (h : S.1 = 233) {k : Nat} (hk : k < 16) : ldI S 19 (nI k) = some (S.2.1 19 k) := ldI_n ⟨by rw [h]; decide, by decide +kernel, by decide +kernel⟩ hk
theorem st_19 {S : Mem} (h : S.1 = 233) {k : Nat} (hk : k < 16) (v : Int32) : stI S 19 (nI k) v = some (rowI S 19 (upd (S.2.1 19) k v)) := stI_n ⟨by rw [h]; decide, by decide +kernel, by decide +kernel⟩ hk
theorem ld_20 {S : Mem} (h : S.1 = 233) {k : Nat} (hk : k < 16) : ldI S 20 (nI k) = some (S.2.1 20 k) := ldI_n ⟨by rw [h]; decide, by decide +kernel, by decide +kernel⟩ hk
theorem st_20 {S : Mem} (h : S.1 = 233) {k : Nat} (hk : k < 16) (v : Int32) : stI S 20 (nI k) v = some (rowI S 20 (upd (S.2.1 20) k v)) := stI_n ⟨by rw [h]; decide, by decide +kernel, by decide +kernel⟩ hk
theorem ld_21 {S : Mem} (h : S.1 = 233) {k : Nat} (hk : k < 8) : ldI S 21 (nI k) = some (S.2.1 21 k) := ldI_n ⟨by rw [h]; decide, by decide +kernel, by decide +kernel⟩ hk
theorem st_21 {S : Mem} (h : S.1 = 233) {k : Nat} (hk : k < 8) (v : Int32) : stI S 21 (nI k) v = some (rowI S 21 (upd (S.2.1 21) k v)) := stI_n ⟨by rw [h]; decide, by decide +kernel, by decide +kernel⟩ hk
theorem ld_22 {S : Mem} (h : S.1 = 233) {k : Nat} (hk : k < 6) : ldI S 22 (nI k) = some (S.2.1 22 k) := ldI_n ⟨by rw [h]; decide, by decide +kernel, by decide +kernel⟩ hk
theorem st_22 {S : Mem} (h : S.1 = 233) {k : Nat} (hk : k < 6) (v : Int32) : stI S 22 (nI k) v = some (rowI S 22 (upd (S.2.1 22) k v)) := stI_n ⟨by rw [h]; decide, by decide +kernel, by decide +kernel⟩ hk
theorem ld_187 {S : Mem} (h : S.1 = 233) {k : Nat} (hk : k < 15) : ldI S 187 (nI k) = some (S.2.1 187 k) := ldI_n ⟨by rw [h]; decide, by decide +kernel, by decide +kernel⟩ hk
theorem st_187 {S : Mem} (h : S.1 = 233) {k : Nat} (hk : k < 15) (v : Int32) : stI S 187 (nI k) v = some (rowI S 187 (upd (S.2.1 187) k v)) := stI_n ⟨by rw [h]; decide, by decide +kernel, by decide +kernel⟩ hk
theorem ld_188 {S : Mem} (h : S.1 = 233) {k : Nat} (hk : k < 15) : ldI S 188 (nI k) = some (S.2.1 188 k) := ldI_n ⟨by rw [h]; decide, by decide +kernel, by decide +kernel⟩ hk
theorem st_188 {S : Mem} (h : S.1 = 233) {k : Nat} (hk : k < 15) (v : Int32) : stI S 188 (nI k) v = some (rowI S 188 (upd (S.2.1 188) k v)) := stI_n ⟨by rw [h]; decide, by decide +kernel, by decide +kernel⟩ hk
theorem ld_190 {S : Mem} (h : S.1 = 233) {k : Nat} (hk : k < 8) : ldI S 190 (nI k) = some (S.2.1 190 k) := ldI_n ⟨by rw [h]; decide, by decide +kernel, by decide +kernel⟩ hk
theorem st_190 {S : Mem} (h : S.1 = 233) {k : Nat} (hk : k < 8) (v : Int32) : stI S 190 (nI k) v = some (rowI S 190 (upd (S.2.1 190) k v)) := stI_n ⟨by rw [h]; decide, by decide +kernel, by decide +kernel⟩ hk
theorem ld_192 {S : Mem} (h : S.1 = 233) {k : Nat} (hk : k < 8) : ldI S 192 (nI k) = some (S.2.1 192 k) := ldI_n ⟨by rw [h]; decide, by decide +kernel, by decide +kernel⟩ hk
theorem st_192 {S : Mem} (h : S.1 = 233) {k : Nat} (hk : k < 8) (v : Int32) : stI S 192 (nI k) v = some (rowI S 192 (upd (S.2.1 192) k v)) := stI_n ⟨by rw [h]; decide, by decide +kernel, by decide +kernel⟩ hk
theorem ld_193 {S : Mem} (h : S.1 = 233) {k : Nat} (hk : k < 8) : ldI S 193 (nI k) = some (S.2.1 193 k) := ldI_n ⟨by rw [h]; decide, by decide +kernel, by decide +kernel⟩ hk
theorem st_193 {S : Mem} (h : S.1 = 233) {k : Nat} (hk : k < 8) (v : Int32) : stI S 193 (nI k) v = some (rowI S 193 (upd (S.2.1 193) k v)) := stI_n ⟨by rw [h]; decide, by decide +kernel, by decide +kernel⟩ hk
theorem g_p {S : Mem} {p : Nat} (h : S.1 = 233) (hp : p = 2 ∨ p = 8) (k : Nat) : gI 2 k S p = some (S.2.1 p k) := by
  rcases hp with rfl | rfl <;> exact if_pos ⟨by rw [h]; decide, by decide +kernel⟩
theorem p_p {S : Mem} {p : Nat} (h : S.1 = 233) (hp : p = 2 ∨ p = 8) (k : Nat) (v : Int32) : pI 2 k S p v = some (rowI S p (upd (S.2.1 p) k v)) := by
  rcases hp with rfl | rfl <;> exact if_pos ⟨by rw [h]; decide, by decide +kernel⟩
theorem c_p {S : Mem} {p : Nat} (h : S.1 = 233) (hp : p = 2 ∨ p = 8) : ck 2 S p = some () := by
  rcases hp with rfl | rfl <;> exact if_pos ⟨by rw [h]; decide, by decide +kernel⟩
theorem r_p_7 {S : Mem} {p q : Nat} (h : rfC S p) (hq : q = 2 ∨ q = 8) : gR 2 7 S q = some (q + 1) := by
  rcases hq with rfl | rfl
  · rw [gR, if_pos ⟨by rw [h.1]; decide, by decide +kernel⟩, h.2.2 2 (by decide) 7 (by decide)]; rfl
  · rw [gR, if_pos ⟨by rw [h.1]; decide, by decide +kernel⟩, h.2.2 8 (by decide) 7 (by decide)]; rfl
theorem ld_p1 {S : Mem} {q : Nat} (h : S.1 = 233) (hq : q = 2 ∨ q = 8) {k : Nat} (hk : k < 12) : ldI S (q + 1) (nI k) = some (S.2.1 (q + 1) k) := by
  rcases hq with rfl | rfl <;> exact ldI_n ⟨by rw [h]; decide, by decide +kernel, by decide +kernel⟩ hk
theorem st_p1 {S : Mem} {q : Nat} (h : S.1 = 233) (hq : q = 2 ∨ q = 8) {k : Nat} (hk : k < 12) (v : Int32) : stI S (q + 1) (nI k) v = some (rowI S (q + 1) (upd (S.2.1 (q + 1)) k v)) := by
  rcases hq with rfl | rfl <;> exact stI_n ⟨by rw [h]; decide, by decide +kernel, by decide +kernel⟩ hk
theorem r_p_8 {S : Mem} {p q : Nat} (h : rfC S p) (hq : q = 2 ∨ q = 8) : gR 2 8 S q = some (q + 2) := by
  rcases hq with rfl | rfl
  · rw [gR, if_pos ⟨by rw [h.1]; decide, by decide +kernel⟩, h.2.2 2 (by decide) 8 (by decide)]; rfl
  · rw [gR, if_pos ⟨by rw [h.1]; decide, by decide +kernel⟩, h.2.2 8 (by decide) 8 (by decide)]; rfl
theorem ld_p2 {S : Mem} {q : Nat} (h : S.1 = 233) (hq : q = 2 ∨ q = 8) {k : Nat} (hk : k < 12) : ldI S (q + 2) (nI k) = some (S.2.1 (q + 2) k) := by
  rcases hq with rfl | rfl <;> exact ldI_n ⟨by rw [h]; decide, by decide +kernel, by decide +kernel⟩ hk
theorem st_p2 {S : Mem} {q : Nat} (h : S.1 = 233) (hq : q = 2 ∨ q = 8) {k : Nat} (hk : k < 12) (v : Int32) : stI S (q + 2) (nI k) v = some (rowI S (q + 2) (upd (S.2.1 (q + 2)) k v)) := by
  rcases hq with rfl | rfl <;> exact stI_n ⟨by rw [h]; decide, by decide +kernel, by decide +kernel⟩ hk
theorem r_p_9 {S : Mem} {p q : Nat} (h : rfC S p) (hq : q = 2 ∨ q = 8) : gR 2 9 S q = some (q + 3) := by
  rcases hq with rfl | rfl
  · rw [gR, if_pos ⟨by rw [h.1]; decide, by decide +kernel⟩, h.2.2 2 (by decide) 9 (by decide)]; rfl
  · rw [gR, if_pos ⟨by rw [h.1]; decide, by decide +kernel⟩, h.2.2 8 (by decide) 9 (by decide)]; rfl
theorem ld_p3 {S : Mem} {q : Nat} (h : S.1 = 233) (hq : q = 2 ∨ q = 8) {k : Nat} (hk : k < 6) : ldI S (q + 3) (nI k) = some (S.2.1 (q + 3) k) := by
  rcases hq with rfl | rfl <;> exact ldI_n ⟨by rw [h]; decide, by decide +kernel, by decide +kernel⟩ hk
theorem st_p3 {S : Mem} {q : Nat} (h : S.1 = 233) (hq : q = 2 ∨ q = 8) {k : Nat} (hk : k < 6) (v : Int32) : stI S (q + 3) (nI k) v = some (rowI S (q + 3) (upd (S.2.1 (q + 3)) k v)) := by
  rcases hq with rfl | rfl <;> exact stI_n ⟨by rw [h]; decide, by decide +kernel, by decide +kernel⟩ hk
theorem r_p_10 {S : Mem} {p q : Nat} (h : rfC S p) (hq : q = 2 ∨ q = 8) : gR 2 10 S q = some (q + 4) := by
  rcases hq with rfl | rfl
  · rw [gR, if_pos ⟨by rw [h.1]; decide, by decide +kernel⟩, h.2.2 2 (by decide) 10 (by decide)]; rfl
  · rw [gR, if_pos ⟨by rw [h.1]; decide, by decide +kernel⟩, h.2.2 8 (by decide) 10 (by decide)]; rfl
theorem ld_p4 {S : Mem} {q : Nat} (h : S.1 = 233) (hq : q = 2 ∨ q = 8) {k : Nat} (hk : k < 6) : ldI S (q + 4) (nI k) = some (S.2.1 (q + 4) k) := by
  rcases hq with rfl | rfl <;> exact ldI_n ⟨by rw [h]; decide, by decide +kernel, by decide +kernel⟩ hk
theorem st_p4 {S : Mem} {q : Nat} (h : S.1 = 233) (hq : q = 2 ∨ q = 8) {k : Nat} (hk : k < 6) (v : Int32) : stI S (q + 4) (nI k) v = some (rowI S (q + 4) (upd (S.2.1 (q + 4)) k v)) := by
  rcases hq with rfl | rfl <;> exact stI_n ⟨by rw [h]; decide, by decide +kernel, by decide +kernel⟩ hk
theorem slk_14 {S : Mem} {p : Nat} (h : rfC S p) : SLk S 14 := ⟨by rw [h.1]; decide, by decide +kernel, by decide +kernel, by decide +kernel, by rw [h.2.2 14 (by decide) 7 (by decide)]; rfl⟩
theorem slk_189 {S : Mem} {p : Nat} (h : rfC S p) : SLk S 189 := ⟨by rw [h.1]; decide, by decide +kernel, by decide +kernel, by decide +kernel, by rw [h.2.2 189 (by decide) 7 (by decide)]; rfl⟩
theorem slk_191 {S : Mem} {p : Nat} (h : rfC S p) : SLk S 191 := ⟨by rw [h.1]; decide, by decide +kernel, by decide +kernel, by decide +kernel, by rw [h.2.2 191 (by decide) 7 (by decide)]; rfl⟩
