theorem zt_lt {a b : Nat} (h : a < b) : (a < b) = True := eq_true h
theorem zf_lt {a b : Nat} (h : ¬ a < b) : (a < b) = False := eq_false h
theorem zt_le {a b : Nat} (h : a ≤ b) : (a ≤ b) = True := eq_true h
theorem zf_le {a b : Nat} (h : ¬ a ≤ b) : (a ≤ b) = False := eq_false h
theorem zf_eq {a b : Nat} (h : ¬ a = b) : (a = b) = False := eq_false h
theorem rI1 {S : Mem} {a : Nat} {f : Nat → Int32} : (rowI S a f).1 = S.1 := rfl
theorem rI2 {S : Mem} {a b : Nat} {f : Nat → Int32} : (rowI S a f).2.1 b = if b = a then f else S.2.1 b := rfl
theorem rI3 {S : Mem} {a : Nat} {f : Nat → Int32} : (rowI S a f).2.2.1 = S.2.2.1 := rfl
theorem rI4 {S : Mem} {a : Nat} {f : Nat → Int32} : (rowI S a f).2.2.2 = S.2.2.2 := rfl
theorem rJ1 {S : Mem} {a : Nat} {f : Nat → Int64} : (rowJ S a f).1 = S.1 := rfl
theorem rJ2 {S : Mem} {a : Nat} {f : Nat → Int64} : (rowJ S a f).2.1 = S.2.1 := rfl
theorem rJ3 {S : Mem} {a b : Nat} {f : Nat → Int64} : (rowJ S a f).2.2.1 b = if b = a then f else S.2.2.1 b := rfl
theorem rJ4 {S : Mem} {a : Nat} {f : Nat → Int64} : (rowJ S a f).2.2.2 = S.2.2.2 := rfl
theorem rII {S : Mem} {a : Nat} {f g : Nat → Int32} : rowI (rowI S a f) a g = rowI S a g := by
  unfold rowI
  congr 2
  funext x
  by_cases h : x = a <;> simp [h]
theorem rJJ {S : Mem} {a : Nat} {f g : Nat → Int64} : rowJ (rowJ S a f) a g = rowJ S a g := by
  unfold rowJ
  congr 3
  funext x
  by_cases h : x = a <;> simp [h]
theorem rI_same {S : Mem} {a : Nat} : rowI S a (S.2.1 a) = S := by
  unfold rowI
  have : (fun x => if x = a then S.2.1 a else S.2.1 x) = S.2.1 := by
    funext x
    by_cases h : x = a
    · subst h; simp
    · simp [h]
  rw [this]
theorem rJ_same {S : Mem} {a : Nat} : rowJ S a (S.2.2.1 a) = S := by
  unfold rowJ
  have : (fun x => if x = a then S.2.2.1 a else S.2.2.1 x) = S.2.2.1 := by
    funext x
    by_cases h : x = a
    · subst h; simp
    · simp [h]
  rw [this]
def LL (n : Nat → Nat) : Nat → Int64 := fun k => lN (n k)
theorem LL_at (n : Nat → Nat) (k : Nat) : LL n k = lN (n k) := rfl
theorem LL_up (n : Nat → Nat) (k v : Nat) : vp_updL (LL n) k (lN v) = LL (va_up n k v) := by
  funext j
  by_cases h : j = k
  · subst h; simp [vp_updL, LL, va_up]
  · simp [vp_updL, LL, va_up, h]
/-- the reference's cells: their references -/
def rfM (S : Mem) : Prop := S.1 = 233 ∧ S.2.2.2 216 4 = some 217 ∧ S.2.2.2 216 5 = some 218 ∧ S.2.2.2 216 6 = some 219 ∧ S.2.2.2 216 7 = some 220 ∧ S.2.2.2 216 9 = some 221 ∧ S.2.2.2 216 14 = some 222 ∧ S.2.2.2 216 15 = some 223 ∧ S.2.2.2 216 17 = some 224 ∧ S.2.2.2 216 18 = some 225 ∧ S.2.2.2 216 19 = some 226 ∧ S.2.2.2 216 20 = some 227 ∧ S.2.2.2 216 21 = some 228 ∧ S.2.2.2 216 22 = some 229 ∧ S.2.2.2 216 23 = some 230 ∧ S.2.2.2 216 25 = some 231 ∧ S.2.2.2 216 26 = some 232
theorem mR {S : Mem} (h : rfM S) : gR 9 4 S 216 = some 217 ∧ gR 9 5 S 216 = some 218 ∧ gR 9 6 S 216 = some 219 ∧ gR 9 7 S 216 = some 220 ∧ gR 9 9 S 216 = some 221 ∧ gR 9 14 S 216 = some 222 ∧ gR 9 15 S 216 = some 223 ∧ gR 9 17 S 216 = some 224 ∧ gR 9 18 S 216 = some 225 ∧ gR 9 19 S 216 = some 226 ∧ gR 9 20 S 216 = some 227 ∧ gR 9 21 S 216 = some 228 ∧ gR 9 22 S 216 = some 229 ∧ gR 9 23 S 216 = some 230 ∧ gR 9 25 S 216 = some 231 ∧ gR 9 26 S 216 = some 232 := by
  obtain ⟨h0, h⟩ := h
  have e : ∀ k, gR 9 k S 216 = S.2.2.2 216 k := fun k => if_pos ⟨by rw [h0]; decide, by decide +kernel⟩
  simp only [e]
  exact h
theorem mck {S : Mem} (h : S.1 = 233) : ck 9 S 216 = some () := if_pos ⟨by rw [h]; decide, by decide +kernel⟩
theorem mgI {S : Mem} (h : S.1 = 233) (k : Nat) : gI 9 k S 216 = some (S.2.1 216 k) := if_pos ⟨by rw [h]; decide, by decide +kernel⟩
theorem mgJ {S : Mem} (h : S.1 = 233) (k : Nat) : gJ 9 k S 216 = some (S.2.2.1 216 k) := if_pos ⟨by rw [h]; decide, by decide +kernel⟩
theorem mpI {S : Mem} (h : S.1 = 233) (k : Nat) (v : Int32) : pI 9 k S 216 v = some (rowI S 216 (upd (S.2.1 216) k v)) := if_pos ⟨by rw [h]; decide, by decide +kernel⟩
theorem mpJ {S : Mem} (h : S.1 = 233) (k : Nat) (v : Int64) : pJ 9 k S 216 v = some (rowJ S 216 (vp_updL (S.2.2.1 216) k v)) := if_pos ⟨by rw [h]; decide, by decide +kernel⟩
theorem ix {i : Int32} {k N : Nat} (h : i = nI k) (hk : k < N) (hN : N < 2 ^ 31) : ¬ i < 0 ∧ i.toNatClampNeg < N := by
  subst h
  have hc : (nI k).toNatClampNeg = k := nI_clamp (by omega)
  exact ⟨nI_pos (by omega), by rw [hc]; exact hk⟩
theorem ldI_n {S : Mem} {a k : Nat} (h : a < S.1 ∧ kd a = 10 ∧ ln a < 2 ^ 31) (hk : k < ln a) : ldI S a (nI k) = some (S.2.1 a k) := by
  rw [ldI, if_pos ⟨⟨h.1, h.2.1⟩, ix rfl hk h.2.2⟩, nI_clamp (by omega)]
theorem ldJ_n {S : Mem} {a k : Nat} (h : a < S.1 ∧ kd a = 11 ∧ ln a < 2 ^ 31) (hk : k < ln a) : ldJ S a (nI k) = some (S.2.2.1 a k) := by
  rw [ldJ, if_pos ⟨⟨h.1, h.2.1⟩, ix rfl hk h.2.2⟩, nI_clamp (by omega)]
theorem ldZ_n {S : Mem} {a k : Nat} (h : a < S.1 ∧ kd a = 12 ∧ ln a < 2 ^ 31) (hk : k < ln a) : ldZ S a (nI k) = some (S.2.1 a k) := by
  rw [ldZ, if_pos ⟨⟨h.1, h.2.1⟩, ix rfl hk h.2.2⟩, nI_clamp (by omega)]
theorem stI_n {S : Mem} {a k : Nat} {v : Int32} (h : a < S.1 ∧ kd a = 10 ∧ ln a < 2 ^ 31) (hk : k < ln a) : stI S a (nI k) v = some (rowI S a (upd (S.2.1 a) k v)) := by
  rw [stI, if_pos ⟨⟨h.1, h.2.1⟩, ix rfl hk h.2.2⟩, nI_clamp (by omega)]
theorem stJ_n {S : Mem} {a k : Nat} {v : Int64} (h : a < S.1 ∧ kd a = 11 ∧ ln a < 2 ^ 31) (hk : k < ln a) : stJ S a (nI k) v = some (rowJ S a (vp_updL (S.2.2.1 a) k v)) := by
  rw [stJ, if_pos ⟨⟨h.1, h.2.1⟩, ix rfl hk h.2.2⟩, nI_clamp (by omega)]
theorem stZ_n {S : Mem} {a k : Nat} {v : Int32} (h : a < S.1 ∧ kd a = 12 ∧ ln a < 2 ^ 31) (hk : k < ln a) (hv : v = 0 ∨ v = 1) : stZ S a (nI k) v = some (rowI S a (upd (S.2.1 a) k v)) := by
  rw [stZ, if_pos ⟨⟨⟨h.1, h.2.1⟩, ix rfl hk h.2.2⟩, hv⟩, nI_clamp (by omega)]
theorem ld_217 {S : Mem} (h : S.1 = 233) {k : Nat} (hk : k < 12) : ldI S 217 (nI k) = some (S.2.1 217 k) := ldI_n ⟨by rw [h]; decide, by decide +kernel, by decide +kernel⟩ hk
theorem st_217 {S : Mem} (h : S.1 = 233) {k : Nat} (hk : k < 12) (v : Int32) : stI S 217 (nI k) v = some (rowI S 217 (upd (S.2.1 217) k v)) := stI_n ⟨by rw [h]; decide, by decide +kernel, by decide +kernel⟩ hk
theorem ld_218 {S : Mem} (h : S.1 = 233) {k : Nat} (hk : k < 12) : ldI S 218 (nI k) = some (S.2.1 218 k) := ldI_n ⟨by rw [h]; decide, by decide +kernel, by decide +kernel⟩ hk
theorem st_218 {S : Mem} (h : S.1 = 233) {k : Nat} (hk : k < 12) (v : Int32) : stI S 218 (nI k) v = some (rowI S 218 (upd (S.2.1 218) k v)) := stI_n ⟨by rw [h]; decide, by decide +kernel, by decide +kernel⟩ hk
theorem ld_219 {S : Mem} (h : S.1 = 233) {k : Nat} (hk : k < 6) : ldI S 219 (nI k) = some (S.2.1 219 k) := ldI_n ⟨by rw [h]; decide, by decide +kernel, by decide +kernel⟩ hk
theorem st_219 {S : Mem} (h : S.1 = 233) {k : Nat} (hk : k < 6) (v : Int32) : stI S 219 (nI k) v = some (rowI S 219 (upd (S.2.1 219) k v)) := stI_n ⟨by rw [h]; decide, by decide +kernel, by decide +kernel⟩ hk
theorem ld_220 {S : Mem} (h : S.1 = 233) {k : Nat} (hk : k < 80) : ldJ S 220 (nI k) = some (S.2.2.1 220 k) := ldJ_n ⟨by rw [h]; decide, by decide +kernel, by decide +kernel⟩ hk
theorem st_220 {S : Mem} (h : S.1 = 233) {k : Nat} (hk : k < 80) (v : Int64) : stJ S 220 (nI k) v = some (rowJ S 220 (vp_updL (S.2.2.1 220) k v)) := stJ_n ⟨by rw [h]; decide, by decide +kernel, by decide +kernel⟩ hk
theorem ld_221 {S : Mem} (h : S.1 = 233) {k : Nat} (hk : k < 240) : ldI S 221 (nI k) = some (S.2.1 221 k) := ldI_n ⟨by rw [h]; decide, by decide +kernel, by decide +kernel⟩ hk
theorem st_221 {S : Mem} (h : S.1 = 233) {k : Nat} (hk : k < 240) (v : Int32) : stI S 221 (nI k) v = some (rowI S 221 (upd (S.2.1 221) k v)) := stI_n ⟨by rw [h]; decide, by decide +kernel, by decide +kernel⟩ hk
theorem ld_222 {S : Mem} (h : S.1 = 233) {k : Nat} (hk : k < 56) : ldI S 222 (nI k) = some (S.2.1 222 k) := ldI_n ⟨by rw [h]; decide, by decide +kernel, by decide +kernel⟩ hk
theorem st_222 {S : Mem} (h : S.1 = 233) {k : Nat} (hk : k < 56) (v : Int32) : stI S 222 (nI k) v = some (rowI S 222 (upd (S.2.1 222) k v)) := stI_n ⟨by rw [h]; decide, by decide +kernel, by decide +kernel⟩ hk
theorem ld_223 {S : Mem} (h : S.1 = 233) {k : Nat} (hk : k < 1280) : ldJ S 223 (nI k) = some (S.2.2.1 223 k) := ldJ_n ⟨by rw [h]; decide, by decide +kernel, by decide +kernel⟩ hk
theorem st_223 {S : Mem} (h : S.1 = 233) {k : Nat} (hk : k < 1280) (v : Int64) : stJ S 223 (nI k) v = some (rowJ S 223 (vp_updL (S.2.2.1 223) k v)) := stJ_n ⟨by rw [h]; decide, by decide +kernel, by decide +kernel⟩ hk
theorem ld_224 {S : Mem} (h : S.1 = 233) {k : Nat} (hk : k < 80) : ldJ S 224 (nI k) = some (S.2.2.1 224 k) := ldJ_n ⟨by rw [h]; decide, by decide +kernel, by decide +kernel⟩ hk
theorem st_224 {S : Mem} (h : S.1 = 233) {k : Nat} (hk : k < 80) (v : Int64) : stJ S 224 (nI k) v = some (rowJ S 224 (vp_updL (S.2.2.1 224) k v)) := stJ_n ⟨by rw [h]; decide, by decide +kernel, by decide +kernel⟩ hk
theorem ld_225 {S : Mem} (h : S.1 = 233) {k : Nat} (hk : k < 8) : ldI S 225 (nI k) = some (S.2.1 225 k) := ldI_n ⟨by rw [h]; decide, by decide +kernel, by decide +kernel⟩ hk
theorem st_225 {S : Mem} (h : S.1 = 233) {k : Nat} (hk : k < 8) (v : Int32) : stI S 225 (nI k) v = some (rowI S 225 (upd (S.2.1 225) k v)) := stI_n ⟨by rw [h]; decide, by decide +kernel, by decide +kernel⟩ hk
theorem ld_226 {S : Mem} (h : S.1 = 233) {k : Nat} (hk : k < 64) : ldZ S 226 (nI k) = some (S.2.1 226 k) := ldZ_n ⟨by rw [h]; decide, by decide +kernel, by decide +kernel⟩ hk
theorem st_226 {S : Mem} (h : S.1 = 233) {k : Nat} (hk : k < 64) (v : Int32) (hv : v = 0 ∨ v = 1) : stZ S 226 (nI k) v = some (rowI S 226 (upd (S.2.1 226) k v)) := stZ_n ⟨by rw [h]; decide, by decide +kernel, by decide +kernel⟩ hk hv
theorem ld_227 {S : Mem} (h : S.1 = 233) {k : Nat} (hk : k < 8) : ldI S 227 (nI k) = some (S.2.1 227 k) := ldI_n ⟨by rw [h]; decide, by decide +kernel, by decide +kernel⟩ hk
theorem st_227 {S : Mem} (h : S.1 = 233) {k : Nat} (hk : k < 8) (v : Int32) : stI S 227 (nI k) v = some (rowI S 227 (upd (S.2.1 227) k v)) := stI_n ⟨by rw [h]; decide, by decide +kernel, by decide +kernel⟩ hk
theorem ld_228 {S : Mem} (h : S.1 = 233) {k : Nat} (hk : k < 8) : ldI S 228 (nI k) = some (S.2.1 228 k) := ldI_n ⟨by rw [h]; decide, by decide +kernel, by decide +kernel⟩ hk
theorem st_228 {S : Mem} (h : S.1 = 233) {k : Nat} (hk : k < 8) (v : Int32) : stI S 228 (nI k) v = some (rowI S 228 (upd (S.2.1 228) k v)) := stI_n ⟨by rw [h]; decide, by decide +kernel, by decide +kernel⟩ hk
theorem ld_229 {S : Mem} (h : S.1 = 233) {k : Nat} (hk : k < 101) : ldI S 229 (nI k) = some (S.2.1 229 k) := ldI_n ⟨by rw [h]; decide, by decide +kernel, by decide +kernel⟩ hk
theorem st_229 {S : Mem} (h : S.1 = 233) {k : Nat} (hk : k < 101) (v : Int32) : stI S 229 (nI k) v = some (rowI S 229 (upd (S.2.1 229) k v)) := stI_n ⟨by rw [h]; decide, by decide +kernel, by decide +kernel⟩ hk
theorem ld_230 {S : Mem} (h : S.1 = 233) {k : Nat} (hk : k < 30) : ldI S 230 (nI k) = some (S.2.1 230 k) := ldI_n ⟨by rw [h]; decide, by decide +kernel, by decide +kernel⟩ hk
theorem st_230 {S : Mem} (h : S.1 = 233) {k : Nat} (hk : k < 30) (v : Int32) : stI S 230 (nI k) v = some (rowI S 230 (upd (S.2.1 230) k v)) := stI_n ⟨by rw [h]; decide, by decide +kernel, by decide +kernel⟩ hk
theorem ld_231 {S : Mem} (h : S.1 = 233) {k : Nat} (hk : k < 162) : ldJ S 231 (nI k) = some (S.2.2.1 231 k) := ldJ_n ⟨by rw [h]; decide, by decide +kernel, by decide +kernel⟩ hk
theorem st_231 {S : Mem} (h : S.1 = 233) {k : Nat} (hk : k < 162) (v : Int64) : stJ S 231 (nI k) v = some (rowJ S 231 (vp_updL (S.2.2.1 231) k v)) := stJ_n ⟨by rw [h]; decide, by decide +kernel, by decide +kernel⟩ hk
theorem ld_232 {S : Mem} (h : S.1 = 233) {k : Nat} (hk : k < 2) : ldZ S 232 (nI k) = some (S.2.1 232 k) := ldZ_n ⟨by rw [h]; decide, by decide +kernel, by decide +kernel⟩ hk
theorem st_232 {S : Mem} (h : S.1 = 233) {k : Nat} (hk : k < 2) (v : Int32) (hv : v = 0 ∨ v = 1) : stZ S 232 (nI k) v = some (rowI S 232 (upd (S.2.1 232) k v)) := stZ_n ⟨by rw [h]; decide, by decide +kernel, by decide +kernel⟩ hk hv
theorem zi (n : Nat) : (OfNat.ofNat n : Int32) = nI n := (fa_lit n).symm.symm
theorem zj (n : Nat) : (OfNat.ofNat n : Int64) = lN n := (fa_litL n).symm.symm
theorem zn_shl (a : Nat) {k : Nat} (hk : k < 32) : nI a <<< (nI k &&& nI 31) = nI (a * 2 ^ k) := z_shl a hk
theorem zn_shr {a k : Nat} (ha : a < 2 ^ 31) (hk : k < 32) : nI a >>> (nI k &&& nI 31) = nI (a / 2 ^ k) := z_shr ha hk
theorem zm_shl (a : Nat) {k : Nat} (hk : k < 64) : lN a <<< (lN k &&& lN 63) = lN (a * 2 ^ k) := by
  rw [← nI_l (n := k) (by omega)]; exact zl_shl a hk
theorem zm_shr {a k : Nat} (ha : a < 2 ^ 62) (hk : k < 64) : lN a >>> (lN k &&& lN 63) = lN (a / 2 ^ k) := by
  rw [← nI_l (n := k) (by omega)]; exact zl_shr ha hk
theorem zm_or {a b k : Nat} (ha : a < 2 ^ k) : lN a ||| lN (b * 2 ^ k) = lN (a + b * 2 ^ k) := by
  rw [fb_orL]
  congr 1
  rw [Nat.or_comm, Nat.mul_comm, Nat.add_comm]
  exact (Nat.two_pow_add_eq_or_of_lt ha b).symm
