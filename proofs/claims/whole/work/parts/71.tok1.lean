/-! ===== TOKENS of a text, as numbers ===== -/
def isLb (c : Nat) : Bool := decide (97 ≤ c) && decide (c ≤ 122)
def isDb (c : Nat) : Bool := decide (48 ≤ c) && decide (c ≤ 57)
def isWb (c : Nat) : Bool := decide (c = 32) || decide (c = 10)
def isSb (c : Nat) : Bool := decide (c = 59) || decide (c = 40) || decide (c = 41) || decide (c = 60) || decide (c = 62) || decide (c = 61) || decide (c = 43) || decide (c = 45) || decide (c = 42) || decide (c = 47) || decide (c = 37)
def skF (b : Nat → Nat) (t : Nat) (p : Nat → Bool) : Nat → Nat → Nat
  | 0, q => q
  | f + 1, q => if q < t ∧ p (b q) = true then skF b t p f (q + 1) else q
/-- from q on, the first place where p ends -/
def sk (b : Nat → Nat) (t : Nat) (p : Nat → Bool) (q : Nat) : Nat := skF b t p (t - q) q
section
variable {b : Nat → Nat} {t : Nat} {p : Nat → Bool}
theorem sk_s {q : Nat} (h : q < t) (hp : p (b q) = true) : sk b t p q = sk b t p (q + 1) := by
  unfold sk
  rw [show t - q = (t - (q + 1)) + 1 by omega, skF, if_pos ⟨h, hp⟩]
theorem sk_n {q : Nat} (h : ¬ (q < t ∧ p (b q) = true)) : sk b t p q = q := by
  unfold sk
  cases t - q with
  | zero => rfl
  | succ f => rw [skF, if_neg h]
theorem sk_ge : ∀ (k q : Nat), q + k = t → q ≤ sk b t p q
  | 0, q, e => by rw [sk_n (by omega)]; exact Nat.le_refl _
  | k + 1, q, e => by
    by_cases h : q < t ∧ p (b q) = true
    · rw [sk_s h.1 h.2]
      have := sk_ge k (q + 1) (by omega)
      omega
    · rw [sk_n h]
      exact Nat.le_refl _
theorem sk_le : ∀ (k q : Nat), q + k = t → sk b t p q ≤ t
  | 0, q, e => by rw [sk_n (by omega)]; omega
  | k + 1, q, e => by
    by_cases h : q < t ∧ p (b q) = true
    · rw [sk_s h.1 h.2]
      exact sk_le k (q + 1) (by omega)
    · rw [sk_n h]
      omega
theorem sk_lo {q : Nat} : q ≤ sk b t p q := by
  by_cases h : q ≤ t
  · exact sk_ge (t - q) q (by omega)
  · rw [sk_n (by omega)]
    exact Nat.le_refl _
theorem sk_hi {q : Nat} (h : q ≤ t) : sk b t p q ≤ t := sk_le (t - q) q (by omega)
/-- all between are so -/
theorem sk_in : ∀ (k q : Nat), q + k = t → ∀ i, q ≤ i → i < sk b t p q → p (b i) = true
  | 0, q, e, i, h1, h2 => by
    rw [sk_n (by omega)] at h2
    omega
  | k + 1, q, e, i, h1, h2 => by
    by_cases h : q < t ∧ p (b q) = true
    · by_cases e2 : i = q
      · rw [e2]; exact h.2
      · rw [sk_s h.1 h.2] at h2
        exact sk_in k (q + 1) (by omega) i (by omega) h2
    · rw [sk_n h] at h2
      omega
theorem sk_st : ∀ (k q : Nat), q + k = t → ¬ (sk b t p q < t ∧ p (b (sk b t p q)) = true)
  | 0, q, e => by
    rw [sk_n (by omega)]
    omega
  | k + 1, q, e => by
    by_cases h : q < t ∧ p (b q) = true
    · rw [sk_s h.1 h.2]
      exact sk_st k (q + 1) (by omega)
    · rw [sk_n h]
      exact h
end
def wdF (b : Nat → Nat) (q : Nat) : Nat → Nat
  | 0 => 0
  | n + 1 => wdF b q n * 256 + b (q + n)
def nmF (b : Nat → Nat) (q : Nat) : Nat → Nat
  | 0 => 0
  | n + 1 => 10 * nmF b q n + (b (q + n) - 48)
def kwN : List Nat := [0x64656564, 0x736f756c, 0x6e65656473, 0x7374617973, 0x66657564, 0x77697468, 0x6c6f6166, 0x68656174, 0x64726177, 0x6f72, 0x616e64, 0x6e6f74, 0x73746179, 0x6f6c64, 0x73616964]
def kwF (w : Nat) : Nat → Nat
  | 0 => 3
  | i + 1 => if kwF w i = 3 ∧ kwN.getD i 0 = w then 256 + i else kwF w i
def tP (b : Nat → Nat) (t q : Nat) : Nat := sk b t isWb q
def tLn (b : Nat → Nat) (t q : Nat) : Nat := sk b t isLb (tP b t q) - tP b t q
def tDn (b : Nat → Nat) (t q : Nat) : Nat := sk b t isDb (tP b t q) - tP b t q
def tW (b : Nat → Nat) (t q : Nat) : Nat := wdF b (tP b t q) (tLn b t q)
def tN (b : Nat → Nat) (t q : Nat) : Nat := nmF b (tP b t q) (tDn b t q)
/-- 0 the end, 1 none, 2 a number, 3 a name, a sign, 256 and on the words -/
def tK (b : Nat → Nat) (t q : Nat) : Nat :=
  if t ≤ tP b t q then 0 else if isLb (b (tP b t q)) = true then (if 8 < tLn b t q then 1 else kwF (tW b t q) 15)
  else if isDb (b (tP b t q)) = true then (if 4 < tDn b t q ∨ (tP b t q + tDn b t q < t ∧ isLb (b (tP b t q + tDn b t q)) = true) then 1 else 2)
  else if isSb (b (tP b t q)) = true then b (tP b t q) else 1
def tE (b : Nat → Nat) (t q : Nat) : Nat :=
  if t ≤ tP b t q then tP b t q else if isLb (b (tP b t q)) = true then tP b t q + tLn b t q
  else if isDb (b (tP b t q)) = true then tP b t q + tDn b t q else tP b t q + 1
theorem kwF_3 {w : Nat} : ∀ i, kwF w i = 3 ∨ (∃ j, j < i ∧ kwF w i = 256 + j ∧ kwN.getD j 0 = w)
  | 0 => Or.inl rfl
  | i + 1 => by
    rw [kwF]
    split
    · next h => exact Or.inr ⟨i, by omega, rfl, h.2⟩
    · rcases kwF_3 (w := w) i with h | ⟨j, h1, h2, h3⟩
      · exact Or.inl h
      · exact Or.inr ⟨j, by omega, h2, h3⟩
theorem kwF_st {w i : Nat} (h : ¬ kwF w i = 3) : ∀ k, kwF w (i + k) = kwF w i
  | 0 => rfl
  | k + 1 => by
    rw [← Nat.add_assoc, kwF, kwF_st h k, if_neg (fun z => h z.1)]
theorem kw_all : ∀ j, j < 15 → kwF (kwN.getD j 0) 15 = 256 + j := by decide +kernel
theorem kw_iff {w j : Nat} (hj : j < 15) : kwF w 15 = 256 + j ↔ w = kwN.getD j 0 := by
  constructor
  · intro h
    rcases kwF_3 (w := w) 15 with h1 | ⟨i, h1, h2, h3⟩
    · omega
    · rw [← h3, show i = j by omega]
  · intro h
    rw [h]
    exact kw_all j hj
section
variable {b : Nat → Nat} {t q : Nat}
theorem tP_lo : q ≤ tP b t q := sk_lo
theorem tP_hi (h : q ≤ t) : tP b t q ≤ t := sk_hi h
theorem tLn_hi (h : q ≤ t) : tP b t q + tLn b t q ≤ t := by
  have h1 := tP_hi (b := b) h
  have h2 := sk_hi (b := b) (p := isLb) h1
  have h3 := sk_lo (b := b) (t := t) (p := isLb) (q := tP b t q)
  unfold tLn
  omega
theorem tDn_hi (h : q ≤ t) : tP b t q + tDn b t q ≤ t := by
  have h1 := tP_hi (b := b) h
  have h2 := sk_hi (b := b) (p := isDb) h1
  have h3 := sk_lo (b := b) (t := t) (p := isDb) (q := tP b t q)
  unfold tDn
  omega
theorem tE_hi (h : q ≤ t) : tE b t q ≤ t := by
  have h1 := tP_hi (b := b) h
  have h2 := tLn_hi (b := b) h
  have h3 := tDn_hi (b := b) h
  unfold tE
  split
  · omega
  · split
    · omega
    · split <;> omega
theorem tK_0 : tK b t q = 0 → t ≤ tP b t q := by
  intro h
  apply Classical.byContradiction
  intro z
  unfold tK at h
  rw [if_neg z] at h
  split at h
  · split at h
    · omega
    · rcases kwF_3 (w := tW b t q) 15 with h1 | ⟨j, h1, h2, h3⟩ <;> omega
  · split at h
    · split at h <;> omega
    · split at h
      · next y =>
        rw [h] at y
        exact absurd y (by decide)
      · omega
/-- a TOKEN has a byte at least -/
theorem tE_lo (h : ¬ tK b t q = 0) : q < tE b t q := by
  have h1 := tP_lo (b := b) (t := t) (q := q)
  have hz : ¬ t ≤ tP b t q := fun z => h (by unfold tK; rw [if_pos z])
  unfold tE
  rw [if_neg hz]
  split
  · next y =>
    have := sk_s (b := b) (t := t) (p := isLb) (q := tP b t q) (by omega) y
    have h3 := sk_lo (b := b) (t := t) (p := isLb) (q := tP b t q + 1)
    unfold tLn
    omega
  · split
    · next y =>
      have := sk_s (b := b) (t := t) (p := isDb) (q := tP b t q) (by omega) y
      have h3 := sk_lo (b := b) (t := t) (p := isDb) (q := tP b t q + 1)
      unfold tDn
      omega
    · omega
end
