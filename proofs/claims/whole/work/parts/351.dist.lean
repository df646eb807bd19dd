/-! the least sums of ways -/
def wkS (N g : Nat → Nat) (L : Nat) : Nat := fb_sm (fun i => N (g (i + 1))) L
def wlk (Ed : Nat → Nat → Bool) (w L : Nat) (g : Nat → Nat) (v : Nat) : Prop := g 0 = w ∧ g L = v ∧ ∀ i, i < L → Ed (g i) (g (i + 1)) = true
def realD (Ed : Nat → Nat → Bool) (N : Nat → Nat) (w : Nat) (f : Nat → Option Nat) : Prop := ∀ v s, f v = some s → ∃ L g, wlk Ed w L g v ∧ wkS N g L = s
def decD (f f' : Nat → Option Nat) : Prop := ∀ v t, f v = some t → ∃ t', f' v = some t' ∧ t' ≤ t
def bndD (Ed : Nat → Nat → Bool) (N : Nat → Nat) (w k : Nat) (f : Nat → Option Nat) : Prop := ∀ L g v, L ≤ k → wlk Ed w L g v → ∃ t, f v = some t ∧ t ≤ wkS N g L
def rndD (Ed : Nat → Nat → Bool) (N : Nat → Nat) (f f' : Nat → Option Nat) : Prop := decD f f' ∧ ∀ u v s, Ed u v = true → f u = some s → ∃ t, f' v = some t ∧ t ≤ s + N v
theorem decD.rf {f : Nat → Option Nat} : decD f f := fun _ t h => ⟨t, h, Nat.le_refl _⟩
theorem decD.tr {f g h : Nat → Option Nat} (a : decD f g) (b : decD g h) : decD f h := fun v t e => by
  obtain ⟨t1, e1, l1⟩ := a v t e
  obtain ⟨t2, e2, l2⟩ := b v t1 e1
  exact ⟨t2, e2, by omega⟩
theorem wlk_sh {Ed : Nat → Nat → Bool} {N : Nat → Nat} {w r : Nat} (hE : ∀ u v, Ed u v = true → u < r ∧ v < r) (hw : w < r) : ∀ B L g v, L ≤ B → wlk Ed w L g v → ∃ L' g', L' ≤ r ∧ wlk Ed w L' g' v ∧ wkS N g' L' ≤ wkS N g L := by
  intro B
  induction B with
  | zero =>
    intro L g v hL h
    exact ⟨L, g, by omega, h, Nat.le_refl _⟩
  | succ B ih =>
    intro L g v hL h
    by_cases q : L ≤ r
    · exact ⟨L, g, q, h, Nat.le_refl _⟩
    · have hg : ∀ i, i < L + 1 → g i < r := by
        intro i hi
        cases i with
        | zero => rw [h.1]; exact hw
        | succ i => exact (hE _ _ (h.2.2 i (by omega))).2
      obtain ⟨i, j, hij, hj, e⟩ := fb_twice hg (by omega)
      have hw' : wlk Ed w (i + (L - j)) (fun k => if k ≤ i then g k else g (k + (j - i))) v := by
        refine ⟨by simp [h.1], ?_, fun k hk => ?_⟩
        · by_cases z : L = j
          · subst z
            show (if i + (L - L) ≤ i then g (i + (L - L)) else _) = v
            rw [if_pos (by omega), Nat.sub_self, Nat.add_zero, e]; exact h.2.1
          · show (if i + (L - j) ≤ i then _ else g (i + (L - j) + (j - i))) = v
            rw [if_neg (by omega), show i + (L - j) + (j - i) = L by omega]; exact h.2.1
        · show Ed (if k ≤ i then g k else g (k + (j - i))) (if k + 1 ≤ i then g (k + 1) else g (k + 1 + (j - i))) = true
          by_cases a : k + 1 ≤ i
          · rw [if_pos (by omega), if_pos a]; exact h.2.2 k (by omega)
          · by_cases b : k = i
            · subst b
              rw [if_pos (Nat.le_refl _), if_neg a, e, show k + 1 + (j - k) = j + 1 by omega]
              exact h.2.2 j (by omega)
            · rw [if_neg (by omega), if_neg a, show k + 1 + (j - i) = k + (j - i) + 1 by omega]
              exact h.2.2 _ (by omega)
      have hs : wkS N (fun k => if k ≤ i then g k else g (k + (j - i))) (i + (L - j)) ≤ wkS N g L := by
        unfold wkS
        rw [show L = i + ((j - i) + (L - j)) by omega, show i + (i + ((j - i) + (L - j)) - j) = i + (L - j) by omega, fb_sm_split, fb_sm_split, fb_sm_split]
        have e1 : fb_sm (fun k => N ((fun k => if k ≤ i then g k else g (k + (j - i))) (k + 1))) i = fb_sm (fun k => N (g (k + 1))) i := fb_sm_cong (fun k hk => by
          dsimp only; rw [if_pos (by omega)])
        have e2 : fb_sm (fun k => N ((fun k => if k ≤ i then g k else g (k + (j - i))) (i + k + 1))) (L - j) = fb_sm (fun k => N (g (i + (j - i + k) + 1))) (L - j) := fb_sm_cong (fun k hk => by
          dsimp only
          rw [if_neg (by omega), show i + k + 1 + (j - i) = i + (j - i + k) + 1 by omega])
        omega
      obtain ⟨L', g', a1, a2, a3⟩ := ih (i + (L - j)) _ v (by omega) hw'
      exact ⟨L', g', a1, a2, Nat.le_trans a3 hs⟩
theorem bnd_all {Ed : Nat → Nat → Bool} {N : Nat → Nat} {w r : Nat} {f : Nat → Option Nat} (hE : ∀ u v, Ed u v = true → u < r ∧ v < r) (hw : w < r) (h : bndD Ed N w r f) {L v : Nat} {g : Nat → Nat} (hg : wlk Ed w L g v) : ∃ t, f v = some t ∧ t ≤ wkS N g L := by
  obtain ⟨L', g', a1, a2, a3⟩ := wlk_sh (N := N) hE hw L L g v (Nat.le_refl _) hg
  obtain ⟨t, t1, t2⟩ := h L' g' v a1 a2
  exact ⟨t, t1, by omega⟩
theorem dist_one {Ed : Nat → Nat → Bool} {N : Nat → Nat} {w r : Nat} {f f' : Nat → Option Nat} (hE : ∀ u v, Ed u v = true → u < r ∧ v < r) (hw : w < r) (h1 : realD Ed N w f) (h2 : bndD Ed N w r f) (h1' : realD Ed N w f') (h2' : bndD Ed N w r f') (v : Nat) : f v = f' v := by
  cases e : f v with
  | none =>
    cases e' : f' v with
    | none => rfl
    | some s =>
      obtain ⟨L, g, a1, a2⟩ := h1' v s e'
      obtain ⟨t, t1, -⟩ := bnd_all hE hw h2 a1
      rw [e] at t1; exact absurd t1 (by simp)
  | some s =>
    obtain ⟨L, g, a1, a2⟩ := h1 v s e
    obtain ⟨t, t1, t2⟩ := bnd_all hE hw h2' a1
    obtain ⟨L', g', b1, b2⟩ := h1' v t t1
    obtain ⟨z, z1, z2⟩ := bnd_all hE hw h2 b1
    rw [e] at z1
    injection z1 with z1
    rw [t1, show s = t by omega]
theorem bnd_0 {Ed : Nat → Nat → Bool} {N : Nat → Nat} {w : Nat} {f : Nat → Option Nat} (h : f w = some 0) : bndD Ed N w 0 f := by
  intro L g v hL hg
  obtain rfl : L = 0 := by omega
  exact ⟨0, by rw [← hg.2.1, hg.1]; exact h, Nat.zero_le _⟩
theorem bnd_s {Ed : Nat → Nat → Bool} {N : Nat → Nat} {w k : Nat} {f f' : Nat → Option Nat} (h : bndD Ed N w k f) (hr : rndD Ed N f f') : bndD Ed N w (k + 1) f' := by
  intro L g v hL hg
  by_cases q : L ≤ k
  · obtain ⟨t, t1, t2⟩ := h L g v q hg
    obtain ⟨t', a1, a2⟩ := hr.1 v t t1
    exact ⟨t', a1, by omega⟩
  · obtain rfl : L = k + 1 := by omega
    obtain ⟨t, t1, t2⟩ := h k g (g k) (Nat.le_refl _) ⟨hg.1, rfl, fun i hi => hg.2.2 i (by omega)⟩
    have he := hg.2.2 k (by omega)
    rw [hg.2.1] at he
    obtain ⟨t', a1, a2⟩ := hr.2 _ _ t he t1
    refine ⟨t', a1, ?_⟩
    have : wkS N g (k + 1) = wkS N g k + N v := by unfold wkS; rw [fb_sm_succ, hg.2.1]
    omega
/-- one is entered from another -/
def rlv (f : Nat → Option Nat) (v x : Nat) : Nat → Option Nat := fun a => if a = v then (match f v with | none => some x | some t => if t ≤ x then some t else some x) else f a
theorem rlv_dec {f : Nat → Option Nat} {v x : Nat} : decD f (rlv f v x) := by
  intro a t h
  unfold rlv
  by_cases q : a = v
  · subst q
    rw [if_pos rfl, h]
    dsimp only
    by_cases z : t ≤ x
    · rw [if_pos z]; exact ⟨t, rfl, Nat.le_refl _⟩
    · rw [if_neg z]; exact ⟨x, rfl, by omega⟩
  · rw [if_neg q]; exact ⟨t, h, Nat.le_refl _⟩
theorem rlv_at {f : Nat → Option Nat} {v x : Nat} : ∃ t, rlv f v x v = some t ∧ t ≤ x := by
  unfold rlv
  rw [if_pos rfl]
  cases f v with
  | none => exact ⟨x, rfl, Nat.le_refl _⟩
  | some t =>
    dsimp only
    by_cases z : t ≤ x
    · rw [if_pos z]; exact ⟨t, rfl, z⟩
    · rw [if_neg z]; exact ⟨x, rfl, Nat.le_refl _⟩
theorem rlv_or {f : Nat → Option Nat} {v x a s : Nat} (h : rlv f v x a = some s) : f a = some s ∨ (a = v ∧ s = x) := by
  unfold rlv at h
  by_cases q : a = v
  · subst q
    rw [if_pos rfl] at h
    cases e : f a with
    | none => rw [e] at h; injection h with h; exact Or.inr ⟨rfl, h.symm⟩
    | some t =>
      rw [e] at h
      dsimp only at h
      by_cases z : t ≤ x
      · rw [if_pos z] at h; exact Or.inl h
      · rw [if_neg z] at h; injection h with h; exact Or.inr ⟨rfl, h.symm⟩
  · rw [if_neg q] at h; exact Or.inl h
theorem rlv_real {Ed : Nat → Nat → Bool} {N : Nat → Nat} {w u v s : Nat} {f : Nat → Option Nat} (h : realD Ed N w f) (he : Ed u v = true) (hu : f u = some s) : realD Ed N w (rlv f v (s + N v)) := by
  intro a t ht
  rcases rlv_or ht with q | ⟨rfl, rfl⟩
  · exact h a t q
  · obtain ⟨L, g, a1, a2⟩ := h u s hu
    refine ⟨L + 1, fun k => if k ≤ L then g k else a, ⟨by simp [a1.1], if_neg (by omega), fun i hi => ?_⟩, ?_⟩
    · show Ed (if i ≤ L then g i else a) (if i + 1 ≤ L then g (i + 1) else a) = true
      by_cases q : i = L
      · subst q
        rw [if_pos (Nat.le_refl _), if_neg (by omega), a1.2.1]; exact he
      · rw [if_pos (by omega), if_pos (by omega)]; exact a1.2.2 i (by omega)
    · unfold wkS
      rw [fb_sm_succ]
      have : fb_sm (fun k => N ((fun k => if k ≤ L then g k else a) (k + 1))) L = fb_sm (fun k => N (g (k + 1))) L := fb_sm_cong (fun k hk => by
        dsimp only; rw [if_pos (by omega)])
      rw [this]
      show fb_sm (fun k => N (g (k + 1))) L + N (if L + 1 ≤ L then _ else a) = s + N a
      rw [if_neg (by omega), ← a2]; rfl
def bdD (B : Nat) (f : Nat → Option Nat) : Prop := ∀ v s, f v = some s → s ≤ B
theorem bdD.mono {B B' : Nat} {f : Nat → Option Nat} (h : bdD B f) (hB : B ≤ B') : bdD B' f := fun v s e => Nat.le_trans (h v s e) hB
theorem rlv_bd {B u v s c : Nat} {f : Nat → Option Nat} (h : bdD B f) (hu : f u = some s) (hc : c ≤ 9) : bdD (B + 9) (rlv f v (s + c)) := by
  intro a t ht
  rcases rlv_or ht with q | ⟨rfl, rfl⟩
  · have := h a t q; omega
  · have := h u s hu; omega
