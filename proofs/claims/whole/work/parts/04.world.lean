/-! memory: how many cells there are; ints, longs and references by cell and place. A reference is a cell's number; the cell of number a lies at b0 + a -/
abbrev Mem : Type := Nat × (Nat → Nat → Int32) × (Nat → Nat → Int64) × (Nat → Nat → Option Nat)
def GL : List (Nat × Nat) := [(8, 0), (6, 0), (2, 0), (10, 12), (10, 12), (10, 6), (10, 6), (10, 240), (2, 0), (10, 12), (10, 12), (10, 6), (10, 6), (5, 0), (4, 0), (10, 8), (7, 0), (10, 16), (10, 16), (10, 16), (10, 16), (10, 8), (10, 6), (3, 0), (14, 16), (5, 0), (4, 0), (10, 8), (7, 0), (10, 16), (10, 16), (10, 16), (10, 16), (10, 8), (10, 6), (5, 0), (4, 0), (10, 8), (7, 0), (10, 16), (10, 16), (10, 16), (10, 16), (10, 8), (10, 6), (5, 0), (4, 0), (10, 8), (7, 0), (10, 16), (10, 16), (10, 16), (10, 16), (10, 8), (10, 6), (5, 0), (4, 0), (10, 8), (7, 0), (10, 16), (10, 16), (10, 16), (10, 16), (10, 8), (10, 6), (5, 0), (4, 0), (10, 8), (7, 0), (10, 16), (10, 16), (10, 16), (10, 16), (10, 8), (10, 6), (5, 0), (4, 0), (10, 8), (7, 0), (10, 16), (10, 16), (10, 16), (10, 16), (10, 8), (10, 6), (5, 0), (4, 0), (10, 8), (7, 0), (10, 16), (10, 16), (10, 16), (10, 16), (10, 8), (10, 6), (5, 0), (4, 0), (10, 8), (7, 0), (10, 16), (10, 16), (10, 16), (10, 16), (10, 8), (10, 6), (5, 0), (4, 0), (10, 8), (7, 0), (10, 16), (10, 16), (10, 16), (10, 16), (10, 8), (10, 6), (5, 0), (4, 0), (10, 8), (7, 0), (10, 16), (10, 16), (10, 16), (10, 16), (10, 8), (10, 6), (5, 0), (4, 0), (10, 8), (7, 0), (10, 16), (10, 16), (10, 16), (10, 16), (10, 8), (10, 6), (5, 0), (4, 0), (10, 8), (7, 0), (10, 16), (10, 16), (10, 16), (10, 16), (10, 8), (10, 6), (5, 0), (4, 0), (10, 8), (7, 0), (10, 16), (10, 16), (10, 16), (10, 16), (10, 8), (10, 6), (5, 0), (4, 0), (10, 8), (7, 0), (10, 16), (10, 16), (10, 16), (10, 16), (10, 8), (10, 6), (5, 0), (4, 0), (10, 8), (7, 0), (10, 16), (10, 16), (10, 16), (10, 16), (10, 8), (10, 6), (5, 0), (4, 0), (10, 8), (7, 0), (10, 16), (10, 16), (10, 16), (10, 16), (10, 8), (10, 6), (13, 2), (0, 0), (10, 15), (10, 15), (4, 0), (10, 8), (4, 0), (10, 8), (10, 8), (1, 0), (5, 0), (4, 0), (10, 8), (7, 0), (10, 16), (10, 16), (10, 16), (10, 16), (10, 8), (10, 6), (1, 0), (5, 0), (4, 0), (10, 8), (7, 0), (10, 16), (10, 16), (10, 16), (10, 16), (10, 8), (10, 6), (9, 0), (10, 12), (10, 12), (10, 6), (11, 80), (10, 240), (10, 56), (11, 1280), (11, 80), (10, 8), (12, 64), (10, 8), (10, 8), (10, 101), (10, 30), (11, 162), (12, 2)]
def kd (a : Nat) : Nat := (GL.getD a (99, 0)).1
def ln (a : Nat) : Nat := (GL.getD a (99, 0)).2
def ft : Nat → List Nat := fun ci => match ci with | 0 => [0, 2, 2] | 1 => [0, 0, 2] | 2 => [0, 0, 0, 0, 0, 0, 0, 2, 2, 2, 2] | 3 => [0, 0, 2] | 4 => [0, 0, 0, 0, 0, 0, 0, 2] | 5 => [2, 2, 0, 0, 0, 0, 2, 2] | 6 => [0, 0, 0, 2, 2, 0, 0] | 7 => [0, 0, 2, 2, 2, 2] | 8 => [2, 2, 2, 2, 2, 2, 0, 2, 2, 2] | 9 => [0, 0, 0, 0, 2, 2, 2, 2, 1, 2, 0, 0, 0, 0, 2, 2, 0, 2, 2, 2, 2, 2, 2, 2, 0, 2, 2] | _ => []
def fval (b0 : Nat) (S : Mem) (a t k : Nat) : Value := if t = 0 then .int (S.2.1 a k) else if t = 1 then .long (S.2.2.1 a k) else va_rf ((S.2.2.2 a k).map (fun z => b0 + z))
def flds (b0 : Nat) (S : Mem) (a ci : Nat) : List Value := (List.range (ft ci).length).map (fun k => fval b0 S a ((ft ci).getD k 0) k)
def rfs (b0 : Nat) (S : Mem) (a : Nat) : Nat → Option Nat := fun k => (S.2.2.2 a k).map (fun z => b0 + z)
def cel (b0 : Nat) (cy : Nat → ClassId) (S : Mem) (a : Nat) : va_E :=
  if kd a < 10 then .inr (kd a, flds b0 S a (kd a))
  else if kd a = 10 then .inl (cy 0, ln a, .inl (S.2.1 a))
  else if kd a = 11 then .inl (cy 1, ln a, .inr (.inl (S.2.2.1 a)))
  else if kd a = 12 then .inl (cy 2, ln a, .inl (S.2.1 a))
  else if kd a = 13 then .inl (cy 3, ln a, .inr (.inr (.inr (.inr (rfs b0 S a)))))
  else .inl (cy 4, ln a, .inr (.inr (.inr (.inr (rfs b0 S a)))))
def wl (b0 : Nat) (cy : Nat → ClassId) (S : Mem) : va_W := (List.range S.1).map (fun a => (b0 + a, cel b0 cy S a))
def tyl (cy : Nat → ClassId) : List (ClassId × FieldType) := [(cy 0, .int), (cy 1, .long), (cy 2, .boolean), (cy 3, .object "SlipperDuke$Image"), (cy 4, .object "SlipperDuke$State")]
/-! operations; what can't be done is none -/
def ck (ci : Nat) (S : Mem) (a : Nat) : Option Unit := if a < S.1 ∧ kd a = ci then some () else none
def gI (ci k : Nat) (S : Mem) (a : Nat) : Option Int32 := if a < S.1 ∧ kd a = ci then some (S.2.1 a k) else none
def gJ (ci k : Nat) (S : Mem) (a : Nat) : Option Int64 := if a < S.1 ∧ kd a = ci then some (S.2.2.1 a k) else none
def gR (ci k : Nat) (S : Mem) (a : Nat) : Option Nat := if a < S.1 ∧ kd a = ci then S.2.2.2 a k else none
def rowI (S : Mem) (a : Nat) (f : Nat → Int32) : Mem := (S.1, (fun x => if x = a then f else S.2.1 x), S.2.2.1, S.2.2.2)
def rowJ (S : Mem) (a : Nat) (f : Nat → Int64) : Mem := (S.1, S.2.1, (fun x => if x = a then f else S.2.2.1 x), S.2.2.2)
def rowR (S : Mem) (a : Nat) (f : Nat → Option Nat) : Mem := (S.1, S.2.1, S.2.2.1, (fun x => if x = a then f else S.2.2.2 x))
def pI (ci k : Nat) (S : Mem) (a : Nat) (v : Int32) : Option Mem := if a < S.1 ∧ kd a = ci then some (rowI S a (upd (S.2.1 a) k v)) else none
def pJ (ci k : Nat) (S : Mem) (a : Nat) (v : Int64) : Option Mem := if a < S.1 ∧ kd a = ci then some (rowJ S a (vp_updL (S.2.2.1 a) k v)) else none
def pR (ci k : Nat) (S : Mem) (a : Nat) (v : Nat) : Option Mem := if a < S.1 ∧ kd a = ci then some (rowR S a (va_up (S.2.2.2 a) k (some v))) else none
def pZ (ci k : Nat) (S : Mem) (a : Nat) (v : Int32) : Option Mem := if (a < S.1 ∧ kd a = ci) ∧ (v = 0 ∨ v = 1) then some (rowI S a (upd (S.2.1 a) k v)) else none
def ldI (S : Mem) (a : Nat) (i : Int32) : Option Int32 := if (a < S.1 ∧ kd a = 10) ∧ ¬ i < 0 ∧ i.toNatClampNeg < ln a then some (S.2.1 a i.toNatClampNeg) else none
def ldJ (S : Mem) (a : Nat) (i : Int32) : Option Int64 := if (a < S.1 ∧ kd a = 11) ∧ ¬ i < 0 ∧ i.toNatClampNeg < ln a then some (S.2.2.1 a i.toNatClampNeg) else none
def ldZ (S : Mem) (a : Nat) (i : Int32) : Option Int32 := if (a < S.1 ∧ kd a = 12) ∧ ¬ i < 0 ∧ i.toNatClampNeg < ln a then some (S.2.1 a i.toNatClampNeg) else none
def ldR (q : Nat) (S : Mem) (a : Nat) (i : Int32) : Option Nat := if (a < S.1 ∧ kd a = q) ∧ ¬ i < 0 ∧ i.toNatClampNeg < ln a then S.2.2.2 a i.toNatClampNeg else none
def stI (S : Mem) (a : Nat) (i v : Int32) : Option Mem := if (a < S.1 ∧ kd a = 10) ∧ ¬ i < 0 ∧ i.toNatClampNeg < ln a then some (rowI S a (upd (S.2.1 a) i.toNatClampNeg v)) else none
def stJ (S : Mem) (a : Nat) (i : Int32) (v : Int64) : Option Mem := if (a < S.1 ∧ kd a = 11) ∧ ¬ i < 0 ∧ i.toNatClampNeg < ln a then some (rowJ S a (vp_updL (S.2.2.1 a) i.toNatClampNeg v)) else none
def stZ (S : Mem) (a : Nat) (i v : Int32) : Option Mem := if ((a < S.1 ∧ kd a = 12) ∧ ¬ i < 0 ∧ i.toNatClampNeg < ln a) ∧ (v = 0 ∨ v = 1) then some (rowI S a (upd (S.2.1 a) i.toNatClampNeg v)) else none
def stR (q ci : Nat) (S : Mem) (a : Nat) (i : Int32) (v : Nat) : Option Mem := if ((a < S.1 ∧ kd a = q) ∧ ¬ i < 0 ∧ i.toNatClampNeg < ln a) ∧ (v < S.1 ∧ kd v = ci) then some (rowR S a (va_up (S.2.2.2 a) i.toNatClampNeg (some v))) else none
def newC (S : Mem) : Mem := (S.1 + 1, (fun x => if x = S.1 then (fun _ => 0) else S.2.1 x), (fun x => if x = S.1 then (fun _ => 0) else S.2.2.1 x), (fun x => if x = S.1 then (fun _ => none) else S.2.2.2 x))
def newO (ci : Nat) (S : Mem) : Option Mem := if kd S.1 = ci then some (newC S) else none
def newA (q : Nat) (n : Int32) (S : Mem) : Option Mem := if kd S.1 = q ∧ ¬ n < 0 ∧ n.toNatClampNeg = ln S.1 then some (newC S) else none
def cpI (S : Mem) (a : Nat) (i : Int32) (b : Nat) (j n : Int32) : Option Mem := if ((a < S.1 ∧ kd a = 10) ∧ (b < S.1 ∧ kd b = 10)) ∧ (¬ i < 0 ∧ ¬ j < 0 ∧ ¬ n < 0) ∧ (i.toNatClampNeg + n.toNatClampNeg ≤ ln a ∧ j.toNatClampNeg + n.toNatClampNeg ≤ ln b) then some (rowI S b (va_cpy (S.2.1 a) (S.2.1 b) i.toNatClampNeg j.toNatClampNeg n.toNatClampNeg)) else none
def lnI (S : Mem) (a : Nat) : Option Int32 := if a < S.1 ∧ kd a = 10 then some (Int32.ofNat (ln a)) else none
def zok (v : Int32) : Option Int32 := if v = 0 ∨ v = 1 then some v else none
def dvI (x y : Int32) : Option Int32 := if y = 0 then none else some (x / y)
def rmI (x y : Int32) : Option Int32 := if y = 0 then none else some (x - x / y * y)
def dvJ (x y : Int64) : Option Int64 := if y = 0 then none else some (x / y)
def rmJ (x y : Int64) : Option Int64 := if y = 0 then none else some (x - x / y * y)
def usI (x y : Int32) : Int32 := (x.toUInt32 >>> (y.toUInt32 &&& Int32.toUInt32 31)).toInt32
def usJ (x : Int64) (y : Int32) : Int64 := (x.toUInt64 >>> (y.toInt64.toUInt64 &&& Int64.toUInt64 63)).toInt64
def irI (x y : Int32) : Int32 := x - x / y * y
def irJ (x y : Int64) : Int64 := x - x / y * y
def FU : Nat := 5000
/-! the list of the cells -/
theorem wl_get {b0 : Nat} {cy : Nat → ClassId} {S : Mem} {a : Nat} (h : a < S.1) : (wl b0 cy S)[a]? = some (b0 + a, cel b0 cy S a) := by
  simp [wl, h]
theorem wl_inv {b0 : Nat} {cy : Nat → ClassId} {S : Mem} {k : Nat} {q : Nat × va_E} (h : (wl b0 cy S)[k]? = some q) : k < S.1 ∧ q = (b0 + k, cel b0 cy S k) := by
  by_cases hk : k < S.1
  · rw [wl_get hk] at h
    exact ⟨hk, (Option.some.inj h).symm⟩
  · simp [wl, hk] at h
theorem wl_D {b0 : Nat} {cy : Nat → ClassId} {S : Mem} : va_D (fun q => b0 ≤ q) (wl b0 cy S) := by
  refine ⟨fun i j p q hi hj e => ?_, fun k q hk => ?_⟩
  · obtain ⟨-, rfl⟩ := wl_inv hi
    obtain ⟨-, rfl⟩ := wl_inv hj
    dsimp only at e
    omega
  · obtain ⟨-, rfl⟩ := wl_inv hk
    exact Nat.le_add_right _ _
theorem wl_set {b0 : Nat} {cy : Nat → ClassId} {S S' : Mem} {a : Nat} {e : va_E} (ha : a < S.1) (hN : S'.1 = S.1) (hne : ∀ x, x ≠ a → cel b0 cy S' x = cel b0 cy S x) (he : cel b0 cy S' a = e) : (wl b0 cy S).set a (b0 + a, e) = wl b0 cy S' := by
  apply List.ext_getElem?
  intro k
  by_cases hk : k < S.1
  · rw [wl_get (hN ▸ hk : k < S'.1)]
    by_cases hka : a = k
    · subst hka
      rw [List.getElem?_set_self (by simp [wl]; exact ha), he]
    · rw [List.getElem?_set_ne hka, wl_get hk, hne k (fun h => hka h.symm)]
  · have h1 : (wl b0 cy S').length ≤ k := by simp [wl, hN]; omega
    have h2 : ((wl b0 cy S).set a (b0 + a, e)).length ≤ k := by simp [wl]; omega
    rw [List.getElem?_eq_none h1, List.getElem?_eq_none h2]
theorem cel_congr {b0 : Nat} {cy : Nat → ClassId} {S S' : Mem} {x : Nat} (h1 : S'.2.1 x = S.2.1 x) (h2 : S'.2.2.1 x = S.2.2.1 x) (h3 : S'.2.2.2 x = S.2.2.2 x) : cel b0 cy S' x = cel b0 cy S x := by
  have e1 : rfs b0 S' x = rfs b0 S x := by funext k; simp only [rfs, h3]
  have e2 : flds b0 S' x (kd x) = flds b0 S x (kd x) := by simp only [flds, fval, h1, h2, h3]
  unfold cel
  rw [e1, e2, h1, h2]
theorem wl_new {b0 : Nat} {cy : Nat → ClassId} {S : Mem} {e : va_E} (he : cel b0 cy (newC S) S.1 = e) : wl b0 cy S ++ [(b0 + S.1, e)] = wl b0 cy (newC S) := by
  have h1 : ∀ x, x ∈ List.range S.1 → (b0 + x, cel b0 cy S x) = (b0 + x, cel b0 cy (newC S) x) := by
    intro x hx
    have hx' : x ≠ S.1 := Nat.ne_of_lt (List.mem_range.mp hx)
    rw [cel_congr (S := S) (S' := newC S) (by simp [newC, hx']) (by simp [newC, hx']) (by simp [newC, hx'])]
  show (List.range S.1).map _ ++ _ = (List.range (S.1 + 1)).map _
  rw [List.range_succ, List.map_append, List.map_congr_left h1, ← he]
  rfl
theorem cel_O {b0 : Nat} {cy : Nat → ClassId} {S : Mem} {a ci : Nat} (h : kd a = ci) (hc : ci < 10) : cel b0 cy S a = .inr (ci, flds b0 S a ci) := by
  simp [cel, h, hc]
theorem cel_I {b0 : Nat} {cy : Nat → ClassId} {S : Mem} {a : Nat} (h : kd a = 10) : cel b0 cy S a = .inl (cy 0, ln a, .inl (S.2.1 a)) := by
  simp [cel, h]
theorem cel_J {b0 : Nat} {cy : Nat → ClassId} {S : Mem} {a : Nat} (h : kd a = 11) : cel b0 cy S a = .inl (cy 1, ln a, .inr (.inl (S.2.2.1 a))) := by
  simp [cel, h]
theorem cel_Z {b0 : Nat} {cy : Nat → ClassId} {S : Mem} {a : Nat} (h : kd a = 12) : cel b0 cy S a = .inl (cy 2, ln a, .inl (S.2.1 a)) := by
  simp [cel, h]
theorem cel_13 {b0 : Nat} {cy : Nat → ClassId} {S : Mem} {a : Nat} (h : kd a = 13) : cel b0 cy S a = .inl (cy 3, ln a, .inr (.inr (.inr (.inr (rfs b0 S a))))) := by
  simp [cel, h]
theorem cel_14 {b0 : Nat} {cy : Nat → ClassId} {S : Mem} {a : Nat} (h : kd a = 14) : cel b0 cy S a = .inl (cy 4, ln a, .inr (.inr (.inr (.inr (rfs b0 S a))))) := by
  simp [cel, h]
theorem cel_rowI {b0 : Nat} {cy : Nat → ClassId} {S : Mem} {a : Nat} {f : Nat → Int32} : ∀ x, x ≠ a → cel b0 cy (rowI S a f) x = cel b0 cy S x := by
  intro x hx
  exact cel_congr (by simp [rowI, hx]) (by simp [rowI, hx]) (by simp [rowI, hx])
theorem cel_rowJ {b0 : Nat} {cy : Nat → ClassId} {S : Mem} {a : Nat} {f : Nat → Int64} : ∀ x, x ≠ a → cel b0 cy (rowJ S a f) x = cel b0 cy S x := by
  intro x hx
  exact cel_congr (by simp [rowJ, hx]) (by simp [rowJ, hx]) (by simp [rowJ, hx])
theorem cel_rowR {b0 : Nat} {cy : Nat → ClassId} {S : Mem} {a : Nat} {f : Nat → Option Nat} : ∀ x, x ≠ a → cel b0 cy (rowR S a f) x = cel b0 cy S x := by
  intro x hx
  exact cel_congr (by simp [rowR, hx]) (by simp [rowR, hx]) (by simp [rowR, hx])
theorem ft_lt {ci k t : Nat} (hf : (ft ci).getD k 9 = t) (ht : t ≠ 9) : k < (ft ci).length ∧ (ft ci).getD k 0 = t := by
  rw [List.getD_eq_getElem?_getD] at hf
  cases h : (ft ci)[k]? with
  | none => rw [h] at hf; exact absurd hf.symm ht
  | some v =>
    rw [h] at hf
    refine ⟨(List.getElem?_eq_some_iff.mp h).1, ?_⟩
    rw [List.getD_eq_getElem?_getD, h]
    exact hf
theorem flds_get {b0 : Nat} {S : Mem} {a ci k : Nat} (h : k < (ft ci).length) : (flds b0 S a ci)[k]? = some (fval b0 S a ((ft ci).getD k 0) k) := by
  simp [flds, h]
theorem flds_len {b0 : Nat} {S : Mem} {a ci : Nat} : (flds b0 S a ci).length = (ft ci).length := by
  simp [flds]
theorem flds_set {b0 : Nat} {S S' : Mem} {a ci k : Nat} {v : Value} (hk : k < (ft ci).length) (h1 : fval b0 S' a ((ft ci).getD k 0) k = v) (h2 : ∀ j, j ≠ k → fval b0 S' a ((ft ci).getD j 0) j = fval b0 S a ((ft ci).getD j 0) j) : (flds b0 S a ci).set k v = flds b0 S' a ci := by
  apply List.ext_getElem?
  intro j
  by_cases hj : j < (ft ci).length
  · rw [flds_get hj]
    by_cases hjk : k = j
    · subst hjk
      rw [List.getElem?_set_self (by rw [flds_len]; exact hk), h1]
    · rw [List.getElem?_set_ne hjk, flds_get hj, h2 j (fun h => hjk h.symm)]
  · have e1 : ((flds b0 S a ci).set k v).length ≤ j := by rw [List.length_set, flds_len]; omega
    have e2 : (flds b0 S' a ci).length ≤ j := by rw [flds_len]; omega
    rw [List.getElem?_eq_none e1, List.getElem?_eq_none e2]
theorem flds_setI {b0 : Nat} {S : Mem} {a ci k : Nat} {v : Int32} (hf : (ft ci).getD k 9 = 0) : (flds b0 S a ci).set k (.int v) = flds b0 (rowI S a (upd (S.2.1 a) k v)) a ci := by
  obtain ⟨hk, h0⟩ := ft_lt hf (by decide)
  refine flds_set hk ?_ (fun j hj => ?_)
  · rw [h0]; simp [fval, rowI, upd]
  · simp [fval, rowI, upd, hj]
theorem flds_setJ {b0 : Nat} {S : Mem} {a ci k : Nat} {v : Int64} (hf : (ft ci).getD k 9 = 1) : (flds b0 S a ci).set k (.long v) = flds b0 (rowJ S a (vp_updL (S.2.2.1 a) k v)) a ci := by
  obtain ⟨hk, h0⟩ := ft_lt hf (by decide)
  refine flds_set hk ?_ (fun j hj => ?_)
  · rw [h0]; simp [fval, rowJ, vp_updL]
  · simp [fval, rowJ, vp_updL, hj]
theorem flds_setR {b0 : Nat} {S : Mem} {a ci k : Nat} {v : Nat} (hf : (ft ci).getD k 9 = 2) : (flds b0 S a ci).set k (.ref (b0 + v)) = flds b0 (rowR S a (va_up (S.2.2.2 a) k (some v))) a ci := by
  obtain ⟨hk, h0⟩ := ft_lt hf (by decide)
  refine flds_set hk ?_ (fun j hj => ?_)
  · rw [h0]; simp [fval, rowR, va_up, va_rf]
  · simp [fval, rowR, va_up, hj]
