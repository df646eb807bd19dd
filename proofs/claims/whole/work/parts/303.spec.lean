/-! the spec: a palace and a state, by numbers. The state n has the places that the reference's row has -/
abbrev Pal : Type := (Nat × Nat × Nat) × (Nat → Nat) × (Nat → Nat) × (Nat → Nat)
def rms (P : Pal) : Nat := P.1.1
def drs (P : Pal) : Nat := P.1.2.1
def pts (P : Pal) : Nat := P.1.2.2
def dfr (P : Pal) : Nat → Nat := P.2.1
def dto (P : Pal) : Nat → Nat := P.2.2.1
def wor (P : Pal) : Nat → Nat := P.2.2.2
def isD (P : Pal) (a b d : Nat) : Bool := (decide (dfr P d = a) && decide (dto P d = b)) || (decide (dfr P d = b) && decide (dto P d = a))
def dB (P : Pal) (a b : Nat) : Nat → Option Nat
  | 0 => none
  | k + 1 => if isD P a b k then some k else dB P a b k
def opn (P : Pal) (w nails bricked a : Nat) : Bool := match dB P w a (drs P) with
  | none => false
  | some d => !bricked.testBit d && !nails.testBit a
def pul (rule noise : Nat) (carpet : Bool) (often : Nat) (worn : Bool) : Nat :=
  rule / 16 * noise * (if worn then 2 else 1) + (if carpet then 0 else rule / 4 % 4 * 3) + rule % 4 * often
def bst (o : Nat → Bool) (pl : Nat → Nat) : Nat → Option (Nat × Nat)
  | 0 => none
  | k + 1 => match bst o pl k with
    | none => if o k then some (k, pl k) else none
    | some q => if o k && decide (pl k < q.2) then some (k, pl k) else some q
def plN (rule carpets noises counts : Nat) (worn : Bool) (a : Nat) : Nat := pul rule (noises / 2 ^ (4 * a) % 16) (carpets.testBit a) (counts / 2 ^ (4 * a) % 16) worn
def gtN (P : Pal) (rule w carpets nails bricked noises counts : Nat) (worn : Bool) : Nat :=
  match bst (opn P w nails bricked) (plN rule carpets noises counts worn) (rms P) with
  | none => w
  | some q => q.1
def noiN (P : Pal) (n : Nat → Nat) : Nat := pn (fun a => n (10 + a)) (rms P)
def cntN (P : Pal) (n : Nat → Nat) : Nat := pn (fun a => min 9 (n (18 + a))) (rms P)
def wornN (n : Nat → Nat) : Bool := decide (50 ≤ n 3)
def nxN (P : Pal) (n : Nat → Nat) (rule carpets : Nat) : Nat := gtN P rule (n 2) carpets (n 5) (n 6) (noiN P n) (cntN P n) (wornN n)
def hea1 (P : Pal) (k : Nat) (m : Nat → Nat) : Nat → Nat :=
  if m (26 + k) = m 2 ∧ (m 7).testBit k = false then va_up (va_up m 7 (m 7 ||| 2 ^ k)) 8 (min 999999 (m 8 + wor P k)) else m
def heaN (P : Pal) : Nat → (Nat → Nat) → Nat → Nat
  | 0, n => n
  | k + 1, n => hea1 P k (heaN P k n)
def shfN (n : Nat → Nat) : Nat → Nat := if n 9 = 16 then (fun j => if j = 9 then 15 else if 32 ≤ j ∧ j < 77 then n (j + 3) else n j) else n
def ent1 (n : Nat → Nat) (to : Nat) : Nat := n 2 + 8 * to + 64 * n 4 + 16384 * n 5 + 4194304 * n 6 + 17179869184 * (if wornN n then 1 else 0)
def remN (P : Pal) (to : Nat) (n : Nat → Nat) : Nat → Nat :=
  let m := shfN n
  va_up (va_up (va_up (va_up m (32 + 3 * m 9) (ent1 n to)) (32 + 3 * m 9 + 1) (noiN P n)) (32 + 3 * m 9 + 2) (cntN P n)) 9 (m 9 + 1)
def goN (P : Pal) (to : Nat) (n : Nat → Nat) : Nat → Nat :=
  if to = n 2 then n else va_up (va_up (remN P to n) 2 to) 3 (min 999 (n 3 + 1))
def gbN (P : Pal) (n : Nat → Nat) : Nat → Nat :=
  let n1 := heaN P (pts P) (va_up n (18 + n 2) (n (18 + n 2) + 1))
  let n2 := goN P (nxN P n1 (n1 0) (n1 4)) n1
  va_up n2 1 (n2 1 + 1)
def gonN (P : Pal) : Nat → (Nat → Nat) → Nat → Nat
  | 0, n => n
  | k + 1, n => gonN P k (gbN P n)
/-! bounds -/
def wfP (P : Pal) : Prop := rms P ≤ 8 ∧ drs P ≤ 12 ∧ pts P ≤ 6 ∧ (∀ d, d < drs P → dfr P d < rms P ∧ dto P d < rms P ∧ dfr P d ≠ dto P d) ∧ (∀ d e, d < drs P → e < drs P → isD P (dfr P d) (dto P d) e = true → d = e) ∧ (∀ p, p < pts P → wor P p ≤ 99)
def wfN (P : Pal) (h : Nat) (n : Nat → Nat) : Prop :=
  n 0 < 64 ∧ n 1 ≤ h ∧ (n 2 < rms P ∨ n 2 = 0) ∧ n 3 ≤ 999 ∧ n 4 < 2 ^ rms P ∧ n 5 < 2 ^ rms P ∧ n 6 < 2 ^ drs P ∧ n 7 < 2 ^ pts P ∧ n 8 ≤ 999999 ∧ n 9 ≤ 16 ∧
  (∀ a, n (10 + a) ≤ 9 ∨ 8 ≤ a) ∧ (∀ a, rms P ≤ a → a < 8 → n (10 + a) = 0) ∧ (∀ a, a < 8 → n (18 + a) ≤ h) ∧ (∀ a, rms P ≤ a → a < 8 → n (18 + a) = 0) ∧ (∀ p, p < pts P → n (26 + p) < rms P)
