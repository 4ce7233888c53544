/-! ===== small laws of the store ===== -/
theorem stI_1 {S : ovS} {o j a b : Nat} {v : Int32} : (stI S o j v).1 a b = if a = o then (if b = j then v else S.1 o b) else S.1 a b := by
  by_cases h : a = o
  · subst h
    simp [stI, seI, va_up, upd]
  · simp [stI, seI, va_up, h]
theorem stI_2 {S : ovS} {o j : Nat} {v : Int32} : (stI S o j v).2 = S.2 := rfl
theorem stI_row {S : ovS} {o j a : Nat} {v : Int32} (h : a ≠ o) : (stI S o j v).1 a = S.1 a := by
  simp [stI, seI, va_up, h]
theorem stI_self {S : ovS} {o j : Nat} {v : Int32} : (stI S o j v).1 o = upd (S.1 o) j v := by
  simp [stI, seI, va_up]
theorem stJ_1 {S : ovS} {o j : Nat} {v : Int64} : (stJ S o j v).1 = S.1 := rfl
theorem stJ_2 {S : ovS} {o j a b : Nat} {v : Int64} : (stJ S o j v).2 a b = if a = o then (if b = j then v else S.2 o b) else S.2 a b := by
  by_cases h : a = o
  · subst h
    simp [stJ, seJ, va_up, vp_updL]
  · simp [stJ, seJ, va_up, h]
theorem stJ_row {S : ovS} {o j a : Nat} {v : Int64} (h : a ≠ o) : (stJ S o j v).2 a = S.2 a := by
  simp [stJ, seJ, va_up, h]
theorem cpI_1 {S : ovS} {o o2 sp dp n a : Nat} : (cpI S o o2 sp dp n).1 a = if a = o2 then va_cpy (S.1 o) (S.1 o2) sp dp n else S.1 a := by
  by_cases h : a = o2
  · subst h
    simp [cpI, seI, va_up]
  · simp [cpI, seI, va_up, h]
theorem cpI_2 {S : ovS} {o o2 sp dp n : Nat} : (cpI S o o2 sp dp n).2 = S.2 := rfl
/-- only these rows have changed -/
def Fr (L : List Nat) (S S1 : ovS) : Prop := (∀ k, L.contains k = false → S1.1 k = S.1 k) ∧ S1.2 = S.2
theorem Fr.rf {L : List Nat} {S : ovS} : Fr L S S := ⟨fun _ _ => rfl, rfl⟩
theorem Fr.at {L : List Nat} {S S1 : ovS} (h : Fr L S S1) (k : Nat) (hk : L.contains k = false) : S1.1 k = S.1 k := h.1 k hk
theorem Fr.mono {L M : List Nat} {S S1 : ovS} (h : Fr L S S1) (hL : L.all (fun k => M.contains k) = true) : Fr M S S1 := by
  refine ⟨fun k hk => h.1 k ?_, h.2⟩
  cases hc : L.contains k with
  | false => rfl
  | true =>
    have h1 : k ∈ L := by simpa using hc
    have h2 := List.all_eq_true.mp hL k h1
    rw [hk] at h2
    cases h2
theorem Fr.tr {L : List Nat} {S S1 S2 : ovS} (h : Fr L S S1) (h2 : Fr L S1 S2) : Fr L S S2 := ⟨fun k hk => (h2.1 k hk).trans (h.1 k hk), h2.2.trans h.2⟩
theorem Fr.st {L : List Nat} {S S1 : ovS} (h : Fr L S S1) {o j : Nat} {v : Int32} (ho : L.contains o = true) : Fr L S (stI S1 o j v) := by
  refine ⟨fun k hk => ?_, h.2⟩
  have hne : k ≠ o := fun e => by subst e; rw [ho] at hk; cases hk
  rw [stI_row hne]
  exact h.1 k hk
theorem Fr.cp {L : List Nat} {S S1 : ovS} (h : Fr L S S1) {o o2 a b n : Nat} (ho : L.contains o2 = true) : Fr L S (cpI S1 o o2 a b n) := by
  refine ⟨fun k hk => ?_, h.2⟩
  have hne : k ≠ o2 := fun e => by subst e; rw [ho] at hk; cases hk
  rw [cpI_1, if_neg hne]
  exact h.1 k hk
/-- a walk that counts up to n -/
theorem loopUp {P : Nat → Prop} {n : Nat} (hx : P n) (hs : ∀ i, i < n → P (i + 1) → P i) : ∀ i, i ≤ n → P i := by
  intro i hi
  obtain ⟨d, rfl⟩ : ∃ d, n = i + d := ⟨n - i, by omega⟩
  clear hi
  induction d generalizing i with
  | zero => exact hx
  | succ d ih =>
    refine hs i (by omega) ?_
    have := ih (i := i + 1) (by rw [show i + 1 + d = i + (d + 1) by omega]; exact hx) (fun j hj => hs j (by omega))
    exact this
theorem Ex.imp {G : ovG} {k : ovM} {h : Nat} {av : List Value} {S : ovS} {Q Q' : Int32 → ovS → Prop} (hE : Ex G k h av S Q) (hq : ∀ r S1, Q r S1 → Q' r S1) : Ex G k h av S Q' := by
  intro p e ha hc hk s m args below hf happ hp hk'
  obtain ⟨n, o, h1, h2, h3, ⟨⟨r, S1, q1, q2, q3⟩, q4⟩, q5⟩ := hE p e ha hc hk s m args below hf happ hp hk'
  exact ⟨n, o, h1, h2, h3, ⟨⟨r, S1, q1, hq r S1 q2, q3⟩, q4⟩, q5⟩
/-! numbers -/
theorem n0 : (0 : Int32) = nI 0 := rfl
theorem nI_ix {n : Nat} (h : n < 2147483648) : (nI n).toNatClampNeg = n := nI_clamp h
theorem nI_le_i {a b : Nat} (ha : a < 2147483648) (hb : b < 2147483648) : nI a ≤ nI b ↔ a ≤ b := nI_leI ha hb
theorem nI_lt_i {a b : Nat} (ha : a < 2147483648) (hb : b < 2147483648) : nI a < nI b ↔ a < b := nI_ltI ha hb
theorem nI_eq_i {a b : Nat} (ha : a < 2147483648) (hb : b < 2147483648) : nI a = nI b ↔ a = b := nI_eq ha hb
