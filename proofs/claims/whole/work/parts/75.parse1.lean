/-! ===== a VILLAGE's text, read on paper ===== -/
/-- row 0: deeds, souls, feuds told, heat, draw, loaf told, heat told, draw told, steps, units; then deed names, soul names, needs, stays, feuds, steps, details -/
abbrev pV : Type := Nat → Nat → Nat
def upV (V : pV) (r i x : Nat) : pV := fun a c => if a = r then (if c = i then x else V r c) else V a c
theorem upV_row {V : pV} {r i x a : Nat} (h : a ≠ r) : upV V r i x a = V a := by
  funext c
  simp [upV, h]
theorem upV_at {V : pV} {r i x : Nat} : upV V r i x r i = x := by simp [upV]
theorem upV_ne {V : pV} {r i x c : Nat} (h : c ≠ i) : upV V r i x r c = V r c := by simp [upV, h]
def rk (s : Nat) : Nat := [9, 9, 9, 9, 9, 9, 1, 2, 3, 4, 4, 4, 5, 5, 6, 6, 6, 0].getD s 0
def addS (V : pV) (s d : Nat) : pV := upV (upV (upV V 6 (V 0 8) s) 7 (V 0 8) d) 0 8 (V 0 8 + 1)
def uwR (r : Nat) : List Nat → List Nat
  | [] => []
  | s :: l => if r ≤ rk s then uwR r l else s :: l
def uwV (r : Nat) : List Nat → pV → pV
  | [], V => V
  | s :: l, V => if r ≤ rk s then uwV r l (addS V s 0) else V
def cJ : List Nat → Nat
  | [] => 0
  | s :: l => (if s = 8 ∨ s = 17 then 0 else 1) + cJ l
def cN : List Nat → Nat
  | [] => 0
  | s :: l => (if s = 8 then 1 else 0) + cN l
def cB : List Nat → Nat
  | [] => 0
  | s :: l => (if s = 17 then 1 else 0) + cB l
def mayN : List Nat → Bool
  | [] => true
  | s :: _ => decide (rk s ≤ 3)
def relN (wl : List Nat) : Bool := match uwR 5 wl with
  | [] => false
  | s :: _ => decide (rk s = 4)
def unS (k : Nat) : Nat := if k = 2 then 0 else if k = 3 then 1 else if k = 268 then 2 else if k = 269 then 3 else if k = 263 then 4 else if k = 270 then 5 else 99
def joS (k : Nat) : Nat := if k = 37 then 16 else if k = 42 then 14 else if k = 43 then 12 else if k = 45 then 13 else if k = 47 then 15 else if k = 60 then 9 else if k = 61 then 11 else if k = 62 then 10 else if k = 265 then 6 else if k = 266 then 7 else 99
/-- the first place of a name, or n -/
def fndI (f : Nat → Nat) (w : Nat) : Nat → Nat
  | 0 => 0
  | n + 1 => if fndI f w n < n then fndI f w n else (if f n = w then n else n + 1)
abbrev pR : Type := (Nat × Nat) ⊕ (pV × Nat)
section
variable (b : Nat → Nat) (t : Nat)
def ftt (q c : Nat) : Nat × Nat := (if tK b t q = 1 then 1 else c, tP b t q)
/-- an e, TOKEN by TOKEN -/
def frF : Nat → pV → Nat → Bool → List Nat → pR
  | 0, _, q, _, _ => .inl (ftt b t q 2)
  | f + 1, V, q, true, wl =>
    if tK b t q = 267 ∧ mayN wl = true then (if 6 < cN wl + cB wl then .inl (ftt b t q 2) else frF f V (tE b t q) true (8 :: wl))
    else if tK b t q = 40 then (if 30 ≤ V 0 9 ∨ 6 < cN wl + cB wl then .inl (ftt b t q 2) else frF f (upV V 0 9 (V 0 9 + 1)) (tE b t q) true (17 :: wl))
    else if unS (tK b t q) = 99 ∨ 30 ≤ V 0 9 then .inl (ftt b t q 2)
    else if tK b t q = 3 ∧ ¬ fndI (V 1) (tW b t q) (V 0 0) < V 0 0 then .inl (ftt b t q 5)
    else frF f (addS (upV V 0 9 (V 0 9 + 1)) (unS (tK b t q)) (if tK b t q = 2 then tN b t q else if tK b t q = 3 then fndI (V 1) (tW b t q) (V 0 0) else 0)) (tE b t q) false wl
  | f + 1, V, q, false, wl =>
    if tK b t q = 59 ∧ cB wl = 0 then .inr (uwV 1 wl V, q)
    else if tK b t q = 41 then (if cB wl = 0 then .inl (ftt b t q 2) else frF f (uwV 1 wl V) (tE b t q) false (uwR 1 wl).tail)
    else if joS (tK b t q) = 99 then .inl (ftt b t q 2)
    else if rk (joS (tK b t q)) = 4 ∧ relN wl = true then .inl (ftt b t q 2)
    else frF f (uwV (rk (joS (tK b t q))) wl V) (tE b t q) true (joS (tK b t q) :: uwR (rk (joS (tK b t q))) wl)
/-- the line ends -/
def scL (V : pV) (q : Nat) : pR := if tK b t q = 59 then .inr (V, tE b t q) else .inl (ftt b t q 2)
def nuL (q m : Nat) (k : Nat → Nat → pR) : pR := if ¬ tK b t q = 2 then .inl (ftt b t q 2) else if m < tN b t q then .inl (ftt b t q 4) else k (tN b t q) (tE b t q)
def lnD (V : pV) (q : Nat) : pR :=
  if 5 ≤ V 0 0 then .inl (ftt b t q 2) else if ¬ tK b t (tE b t q) = 3 then .inl (ftt b t (tE b t q) 2)
  else if fndI (V 1) (tW b t (tE b t q)) (V 0 0) < V 0 0 then .inl (ftt b t (tE b t q) 3)
  else scL b t (upV (upV V 1 (V 0 0) (tW b t (tE b t q))) 0 0 (V 0 0 + 1)) (tE b t (tE b t q))
/-- a SOUL's line behind his name -/
def lnS2 (V : pV) (s q : Nat) : pR :=
  if ¬ tK b t q = 258 then .inl (ftt b t q 2) else nuL b t (tE b t q) 99 (fun v q4 =>
    if tK b t q4 = 259 then nuL b t (tE b t q4) 99 (fun w q6 => scL b t (upV (upV (upV V 3 s v) 4 s w) 5 s 0) q6) else scL b t (upV (upV (upV V 3 s v) 4 s 0) 5 s 0) q4)
def lnS (V : pV) (q : Nat) : pR :=
  if 5 ≤ V 0 1 then .inl (ftt b t q 2) else if ¬ tK b t (tE b t q) = 3 then .inl (ftt b t (tE b t q) 2)
  else if fndI (V 2) (tW b t (tE b t q)) (V 0 1) < V 0 1 then .inl (ftt b t (tE b t q) 3)
  else lnS2 b t (upV (upV V 2 (V 0 1) (tW b t (tE b t q))) 0 1 (V 0 1 + 1)) (V 0 1) (tE b t (tE b t q))
def soL (V : pV) (q : Nat) (k : Nat → pR) : pR := if ¬ tK b t q = 3 then .inl (ftt b t q 2) else if ¬ fndI (V 2) (tW b t q) (V 0 1) < V 0 1 then .inl (ftt b t q 5) else k (fndI (V 2) (tW b t q) (V 0 1))
def feV (V : pV) (a c : Nat) : pV := upV (upV (upV V 5 a (V 5 a ||| 2 ^ c)) 5 c ((upV V 5 a (V 5 a ||| 2 ^ c)) 5 c ||| 2 ^ a)) 0 2 (V 0 2 + 1)
def lnF1 (V : pV) (q : Nat) : pR :=
  if 10 ≤ V 0 2 then .inl (ftt b t q 2) else soL b t V (tE b t q) (fun a =>
    if ¬ tK b t (tE b t (tE b t q)) = 261 then .inl (ftt b t (tE b t (tE b t q)) 2) else soL b t V (tE b t (tE b t (tE b t q))) (fun c =>
      if a = c ∨ (V 5 a).testBit c = true then .inl (ftt b t (tE b t (tE b t (tE b t q))) 3) else scL b t (feV V a c) (tE b t (tE b t (tE b t (tE b t q))))))
def lnH (V : pV) (q : Nat) : pR := if ¬ V 0 6 = 0 then .inl (ftt b t q 2) else nuL b t (tE b t q) 9 (fun v q2 => scL b t (upV (upV V 0 6 1) 0 3 v) q2)
def lnR (V : pV) (q : Nat) : pR := if ¬ V 0 7 = 0 then .inl (ftt b t q 2) else nuL b t (tE b t q) 999 (fun v q2 => scL b t (upV (upV V 0 7 1) 0 4 v) q2)
def lnL (V : pV) (q : Nat) : pR := if ¬ V 0 5 = 0 then .inl (ftt b t q 2) else (match frF b t 1601 (upV V 0 5 1) (tE b t q) true [] with
  | .inl f => .inl f
  | .inr (V1, q1) => scL b t V1 q1)
def lnX (V : pV) (q : Nat) : pR :=
  if tK b t q = 256 then lnD b t V q else if tK b t q = 257 then lnS b t V q else if tK b t q = 260 then lnF1 b t V q else if tK b t q = 262 then lnL b t V q
  else if tK b t q = 263 then lnH b t V q else if tK b t q = 264 then lnR b t V q else .inl (ftt b t q 2)
/-- all lines -/
def lnA : Nat → pV → Nat → (Nat × Nat) ⊕ pV
  | 0, V, _ => .inr V
  | f + 1, V, q => if tK b t q = 0 then .inr V else (match lnX b t V q with
    | .inl e => .inl e
    | .inr (V1, q1) => lnA f V1 q1)
end
/-! what the steps are like -/
def dN (f : Nat → Nat) : Nat → Nat
  | 0 => 0
  | i + 1 => if 5 < f i then (if f i = 8 then dN f i else dN f i - 1) else dN f i + 1
def WN (f : Nat → Nat) (n : Nat) : Prop := ∀ i, i < n → (5 < f i → (f i = 8 → 1 ≤ dN f i) ∧ (¬ f i = 8 → 2 ≤ dN f i)) ∧ (¬ 5 < f i → dN f i < 30)
theorem dN_cg {f g : Nat → Nat} : ∀ n, (∀ i, i < n → f i = g i) → dN f n = dN g n
  | 0, _ => rfl
  | n + 1, h => by rw [dN, dN, dN_cg n (fun i hi => h i (by omega)), h n (by omega)]
/-- steps that can be, while an e is read -/
def SI (V : pV) (wl : List Nat) (U u : Nat) : Prop := V 0 9 ≤ 30 ∧ U ≤ V 0 9 ∧ dN (V 6) (V 0 8) = cJ wl + u ∧ cJ wl + u ≤ U ∧ cN wl + cB wl ≤ 7 ∧ V 0 8 + cJ wl + cN wl + u ≤ 9 * U + (if u = 0 then cN wl else 0) ∧ WN (V 6) (V 0 8) ∧ (∀ i, i < V 0 8 → V 6 i ≤ 16 ∧ (V 6 i = 1 → V 7 i < 5)) ∧ ∀ s, s ∈ wl → 6 ≤ s ∧ s ≤ 17
section
variable {V : pV} {wl : List Nat} {U u : Nat}
theorem addS_0 {s d j : Nat} (h : j ≠ 8) : addS V s d 0 j = V 0 j := by
  unfold addS
  rw [upV_ne h, upV_row (by decide), upV_row (by decide)]
theorem addS_n {s d : Nat} : addS V s d 0 8 = V 0 8 + 1 := by
  unfold addS
  rw [upV_at]
theorem addS_6 {s d i : Nat} : addS V s d 6 i = if i = V 0 8 then s else V 6 i := by
  unfold addS
  rw [upV_row (a := 6) (by decide), upV_row (a := 6) (by decide)]
  simp [upV]
theorem addS_7 {s d i : Nat} : addS V s d 7 i = if i = V 0 8 then d else V 7 i := by
  unfold addS
  rw [upV_row (a := 7) (by decide)]
  simp [upV]
theorem addS_r {s d r : Nat} (h0 : r ≠ 0) (h6 : r ≠ 6) (h7 : r ≠ 7) : addS V s d r = V r := by
  unfold addS
  rw [upV_row h0, upV_row h7, upV_row h6]
/-- a step more -/
theorem SI.add {s d : Nat} (h : WN (V 6) (V 0 8)) (hc : ∀ i, i < V 0 8 → V 6 i ≤ 16 ∧ (V 6 i = 1 → V 7 i < 5)) (hs : s ≤ 16) (hd : s = 1 → d < 5) (h1 : s = 8 → 1 ≤ dN (V 6) (V 0 8)) (h2 : 5 < s → ¬ s = 8 → 2 ≤ dN (V 6) (V 0 8)) (h3 : ¬ 5 < s → dN (V 6) (V 0 8) < 30) : WN (addS V s d 6) (V 0 8 + 1) ∧ (∀ i, i < V 0 8 + 1 → addS V s d 6 i ≤ 16 ∧ (addS V s d 6 i = 1 → addS V s d 7 i < 5)) ∧ dN (addS V s d 6) (V 0 8 + 1) = (if 5 < s then (if s = 8 then dN (V 6) (V 0 8) else dN (V 6) (V 0 8) - 1) else dN (V 6) (V 0 8) + 1) := by
  have hcg : ∀ j, j ≤ V 0 8 → dN (addS V s d 6) j = dN (V 6) j := fun j hj => dN_cg j (fun i hi => by rw [addS_6, if_neg (by omega)])
  refine ⟨fun i hi => ?_, fun i hi => ?_, ?_⟩
  · rw [hcg i (by omega), addS_6]
    by_cases e : i = V 0 8
    · rw [if_pos e, e]
      exact ⟨fun a => ⟨h1, h2 a⟩, h3⟩
    · rw [if_neg e]
      exact h i (by omega)
  · rw [addS_6, addS_7]
    by_cases e : i = V 0 8
    · rw [if_pos e, if_pos e]
      exact ⟨hs, hd⟩
    · rw [if_neg e, if_neg e]
      exact hc i (by omega)
  · rw [dN, hcg _ (Nat.le_refl _), addS_6, if_pos rfl]
theorem rk_17 {r : Nat} (h : 1 ≤ r) : ¬ r ≤ rk 17 := by
  have : rk 17 = 0 := rfl
  omega
/-- what waited goes to the steps -/
theorem SI.uw {r : Nat} (hr : 1 ≤ r) : ∀ {wl : List Nat} {V : pV}, SI V wl U 1 → SI (uwV r wl V) (uwR r wl) U 1
  | [], V, h => h
  | s :: l, V, h => by
    rw [uwV, uwR]
    split
    · next hk =>
      refine SI.uw hr ?_
      obtain ⟨a1, a2, a3, a4, a5, a6, a7, a8, a9⟩ := h
      have hs := a9 s (List.mem_cons_self ..)
      have h17 : ¬ s = 17 := fun e => rk_17 hr (by rw [← e]; exact hk)
      have hu : (if (1 : Nat) = 0 then cN (s :: l) else 0) = 0 := rfl
      have hu' : (if (1 : Nat) = 0 then cN l else 0) = 0 := rfl
      rw [hu] at a6
      rw [cJ] at a3 a4 a6
      rw [cN] at a5 a6
      rw [cB, if_neg h17] at a5
      by_cases h8 : s = 8
      · subst h8
        rw [if_pos (Or.inl rfl)] at a3 a4 a6
        rw [if_pos rfl] at a5 a6
        obtain ⟨b1, b2, b3⟩ := SI.add (s := 8) (d := 0) a7 a8 (by decide) (by decide) (fun _ => by omega) (fun _ x => absurd rfl x) (fun x => absurd (by decide) x)
        refine ⟨by rw [addS_0 (by decide)]; exact a1, by rw [addS_0 (by decide)]; exact a2, ?_, by omega, by omega, ?_, by rw [addS_n]; exact b1, by rw [addS_n]; exact b2, fun x hx => a9 x (List.mem_cons_of_mem _ hx)⟩
        · rw [addS_n, b3, if_pos (by decide), if_pos rfl]
          omega
        · rw [addS_n, hu']
          omega
      · rw [if_neg (by omega)] at a3 a4 a6
        rw [if_neg h8] at a5 a6
        obtain ⟨b1, b2, b3⟩ := SI.add (s := s) (d := 0) a7 a8 (by omega) (by omega) (fun x => absurd x h8) (fun _ _ => by omega) (fun x => absurd (by omega) x)
        refine ⟨by rw [addS_0 (by decide)]; exact a1, by rw [addS_0 (by decide)]; exact a2, ?_, by omega, by omega, ?_, by rw [addS_n]; exact b1, by rw [addS_n]; exact b2, fun x hx => a9 x (List.mem_cons_of_mem _ hx)⟩
        · rw [addS_n, b3, if_pos (by omega), if_neg h8]
          omega
        · rw [addS_n, hu']
          omega
    · exact h
theorem SI.len (h : SI V wl U u) : V 0 8 ≤ 290 ∧ wl.length ≤ 40 ∧ cJ wl ≤ 30 := by
  obtain ⟨a1, a2, a3, a4, a5, a6, a7, a8, a9⟩ := h
  have e : ∀ wl : List Nat, wl.length = cJ wl + (cN wl + cB wl) := by
    intro wl
    induction wl with
    | nil => rfl
    | cons s l ih =>
      rw [List.length_cons, cJ, cN, cB, ih]
      by_cases h8 : s = 8
      · subst h8
        simp
        omega
      · by_cases h17 : s = 17
        · subst h17
          simp
          omega
        · simp [h8, h17]
          omega
  have h1 := e wl
  split at a6 <;> omega
end
