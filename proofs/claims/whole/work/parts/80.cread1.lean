/-! ===== the class's Reader: pieces ===== -/
abbrev Lr : List Nat := [2, 3, 4, 5, 6, 7, 8, 9, 11, 12, 13, 14, 15]
def FLc (e : Nat × Nat) (S : ovS) : Prop := S.1 2 1 = nI e.1 ∧ ¬ e.1 = 0 ∧ e.1 < 100 ∧ S.1 2 2 = nI e.2
theorem FLc.n0 {e : Nat × Nat} {S : ovS} (h : FLc e S) : ¬ S.1 2 1 = 0 := by
  rw [h.1]
  exact fun z => h.2.1 ((nI_eq_i (b := 0) (by have := h.2.2.1; omega) (by decide)).mp z)
/-- a VILLAGE as the class has it in its draft -/
def CV (S : ovS) (V : pV) : Prop := (S.1 3 1 = nI (V 0 0) ∧ S.1 3 0 = nI (V 0 1) ∧ S.1 2 7 = nI (V 0 2) ∧ S.1 3 2 = nI (V 0 3) ∧ S.1 3 3 = nI (V 0 4) ∧ S.1 2 8 = nI (V 0 5) ∧ S.1 2 9 = nI (V 0 6) ∧ S.1 2 10 = nI (V 0 7) ∧ S.1 7 0 = nI (V 0 9)) ∧ STc S V ∧ (∀ i, i < V 0 0 → S.2 11 i = lN (V 1 i) ∧ V 1 i < 2 ^ 64) ∧ (∀ i, i < V 0 1 → S.2 12 i = lN (V 2 i) ∧ V 2 i < 2 ^ 64) ∧ ∀ i, i < 5 → S.1 4 i = nI (V 3 i) ∧ S.1 5 i = nI (V 4 i) ∧ S.1 6 i = nI (V 5 i)
/-- a VILLAGE that can be -/
def VI (V : pV) : Prop := (V 0 0 ≤ 5 ∧ V 0 1 ≤ 5 ∧ V 0 2 ≤ 10 ∧ V 0 3 ≤ 9 ∧ V 0 4 ≤ 999 ∧ V 0 5 ≤ 1 ∧ V 0 6 ≤ 1 ∧ V 0 7 ≤ 1) ∧ (∀ i, i < 5 → V 3 i ≤ 99 ∧ V 4 i ≤ 99 ∧ (V 0 1 ≤ i → V 3 i = 0 ∧ V 4 i = 0 ∧ V 5 i = 0)) ∧ ((∀ i, i < 5 → V 5 i < 2 ^ V 0 1) ∧ (∀ i j, i < 5 → j < 5 → (V 5 i).testBit j = (V 5 j).testBit i) ∧ ∀ i, i < 5 → (V 5 i).testBit i = false) ∧ ((∀ i j, i < j → j < V 0 0 → ¬ V 1 i = V 1 j) ∧ ∀ i j, i < j → j < V 0 1 → ¬ V 2 i = V 2 j) ∧ (V 0 5 = 0 → V 0 8 = 0 ∧ V 0 9 = 0) ∧ (V 0 5 = 1 → V 0 9 ≤ 30 ∧ 1 ≤ V 0 8 ∧ V 0 8 ≤ 290 ∧ WN (V 6) (V 0 8) ∧ ∀ i, i < V 0 8 → V 6 i ≤ 16 ∧ (V 6 i = 1 → V 7 i < 5))
section
variable {G : ovG} {S : ovS} {b : Nat → Nat} {t q : Nat} {V : pV}
theorem CV.fg {L : List Nat} {S1 : ovS} (h : CV S V) (hF : FG L S S1) (hL : ([2, 3, 4, 5, 6, 7, 8, 9, 11, 12].all fun k => !(L.contains k)) = true) : CV S1 V := by
  have e : ∀ k, k ∈ [2, 3, 4, 5, 6, 7, 8, 9, 11, 12] → L.contains k = false := fun k hk => by
    have := List.all_eq_true.mp hL k hk
    simpa using this
  unfold CV STc
  rw [hF.at 2 (e 2 (by decide)), hF.at 3 (e 3 (by decide)), hF.at 4 (e 4 (by decide)), hF.at 5 (e 5 (by decide)), hF.at 6 (e 6 (by decide)), hF.at 7 (e 7 (by decide)), hF.at 8 (e 8 (by decide)), hF.at 9 (e 9 (by decide)), hF.al 11 (e 11 (by decide)), hF.al 12 (e 12 (by decide))]
  exact h
theorem sp_adv (hX : TX b t S) (hq : q ≤ t) (hC : TC b t q S) : Ex G mX7_advance 9 [.ref 13] S (fun _ S1 => FG [13] S S1 ∧ TX b t S1 ∧ TC b t (tE b t q) S1) := Ex.imp (sp_advance hX (tE_hi hq) hC.2.2.1) (fun _ _ g => ⟨g.1.g, hX.cg (g.1 1 (by decide)).1 (by rw [g.2.2, hX.2.1]), g.2.1⟩)
theorem sp_fail {c : Nat} (hb : ∀ i, i < t → b i < 256) (hq : q ≤ t) (ht : t ≤ 1600) (hc : ¬ c = 0) (hc1 : c < 100) (h0 : S.1 2 1 = 0) (hC : TC b t q S) : Ex G mX5_fail 1 [.ref 2, .int (nI c)] S (fun _ S1 => FG [2] S S1 ∧ FLc (ftt b t q c) S1) := by
  have hk := tK_lt (q := q) hb
  have hP := tP_hi (b := b) hq
  refine eX5_fail (vX5_fail_0 ⟨fun z => absurd h0 z, fun _ => ?_⟩)
  rw [hC.1, show (1 : Int32) = nI 1 from rfl, nI_eq_i (by omega) (by decide)]
  have fin : ∀ (x : Nat) (S3 S4 : ovS), x = (ftt b t q c).1 → S3 = stI S 2 1 (nI x) → S4 = stI S3 2 2 (S3.1 13 1) → FG [2] S S4 ∧ FLc (ftt b t q c) S4 := by
    intro x S3 S4 hx e3 e4
    have e1 : S3.1 13 1 = nI (tP b t q) := by rw [e3, stI_row (by decide)]; exact hC.2.1
    rw [e1] at e4
    refine ⟨by rw [e4, e3]; exact (FG.rf.st rfl).st rfl, ?_, ?_, ?_, ?_⟩
    · rw [e4, stI_1, if_pos rfl, if_neg (by decide), e3, stI_1, if_pos rfl, if_pos rfl, hx]
    · unfold ftt
      show ¬ (if tK b t q = 1 then 1 else c) = 0
      split <;> omega
    · unfold ftt
      show (if tK b t q = 1 then 1 else c) < 100
      split <;> omega
    · rw [e4, stI_1, if_pos rfl, if_pos rfl]
      rfl
  refine ⟨fun z S3 e3 S4 e4 => fin c S3 S4 ?_ e3 e4, fun z S3 e3 S4 e4 => fin 1 S3 S4 ?_ e3 e4⟩
  · unfold ftt
    show c = (if tK b t q = 1 then 1 else c)
    rw [if_neg z]
  · unfold ftt
    show 1 = (if tK b t q = 1 then 1 else c)
    rw [if_pos z]
theorem sp_passF {k : Nat} (hb : ∀ i, i < t → b i < 256) (hq : q ≤ t) (hX : TX b t S) (hk : k < 271) (h0 : S.1 2 1 = 0) (hC : TC b t q S) : Ex G mX5_pass 10 [.ref 2, .int (nI k)] S (fun _ S1 => (tK b t q = k ∧ FG [13] S S1 ∧ TX b t S1 ∧ TC b t (tE b t q) S1) ∨ (¬ tK b t q = k ∧ FG [2] S S1 ∧ FLc (ftt b t q 2) S1)) := by
  have hkt := tK_lt (q := q) hb
  refine eX5_pass (vX5_pass_0 ⟨fun z => absurd h0 z, fun _ => ?_⟩)
  rw [hC.1, nI_eq_i (by omega) (by omega)]
  exact ⟨fun z => ⟨_, sp_fail (c := 2) hb hq hX.1 (by decide) (by decide) h0 hC, fun r S1 g => Or.inr ⟨z, g⟩⟩, fun z => ⟨_, sp_adv hX hq hC, fun r S1 g => Or.inl ⟨z, g⟩⟩⟩
theorem sp_passN {k : Int32} (h0 : ¬ S.1 2 1 = 0) : Ex G mX5_pass 10 [.ref 2, .int k] S (fun _ S1 => S1 = S) := eX5_pass (vX5_pass_0 ⟨fun _ => rfl, fun z => absurd z h0⟩)
theorem sp_pF1 (hX : TX b t S) (hq : q ≤ t) (hC : TC b t q S) : Ex G mX5_passFirst 10 [.ref 2, .int 1] S (fun r S1 => r = 1 ∧ FG [13] S S1 ∧ TX b t S1 ∧ TC b t (tE b t q) S1) := eX5_passFirst (vX5_passFirst_0 ⟨fun _ => ⟨_, sp_adv hX hq hC, fun _ S1 g => ⟨rfl, g⟩⟩, fun z => absurd z (by decide)⟩)
theorem sp_pF0 (hb : ∀ i, i < t → b i < 256) (hq : q ≤ t) (hX : TX b t S) (h0 : S.1 2 1 = 0) (hC : TC b t q S) : Ex G mX5_passFirst 10 [.ref 2, .int 0] S (fun r S1 => r = 0 ∧ FG [2] S S1 ∧ FLc (ftt b t q 2) S1) := eX5_passFirst (vX5_passFirst_0 ⟨fun z => absurd rfl z, fun _ => ⟨_, sp_fail (c := 2) hb hq hX.1 (by decide) (by decide) h0 hC, fun _ S1 g => ⟨rfl, g⟩⟩⟩)
theorem sp_newN_a {n : Nat} {f : Nat → Nat} (hb : ∀ i, i < t → b i < 256) (hq : q ≤ t) (hX : TX b t S) (h0 : S.1 2 1 = 0) (hC : TC b t q S) (hn : n ≤ 5) (hf : ∀ i, i < n → S.2 11 i = lN (f i) ∧ f i < 2 ^ 64) : Ex G mX5_isNewName 2 [.ref 2, .ref 11, .int (nI n)] S (fun r S1 => (tK b t q = 3 ∧ ¬ fndI f (tW b t q) n < n ∧ r = 1 ∧ S1 = S) ∨ (¬ tK b t q = 3 ∧ r = 0 ∧ FG [2] S S1 ∧ FLc (ftt b t q 2) S1) ∨ (tK b t q = 3 ∧ fndI f (tW b t q) n < n ∧ r = 0 ∧ FG [2] S S1 ∧ FLc (ftt b t q 3) S1)) := by
  have hkt := tK_lt (q := q) hb
  refine eX5_isNewName_a (vX5_isNewName_a_0 ?_)
  rw [hC.1, show (3 : Int32) = nI 3 from rfl, nI_eq_i (by omega) (by decide)]
  refine ⟨fun z => ?_, fun z => ⟨_, sp_fail (c := 2) hb hq hX.1 (by decide) (by decide) h0 hC, fun r S1 g => ⟨fun _ => Or.inr (Or.inl ⟨z, rfl, g⟩), fun y => absurd y g.2.n0⟩⟩⟩
  rw [hC.2.2.2.2 z]
  refine ⟨_, sp_cfind_a hn (tW_lt hb hq (Or.inl z)) hf, fun r4 S3 g => ?_⟩
  obtain ⟨g1, g2⟩ := g
  subst g2
  by_cases c : fndI f (tW b t q) n < n
  · rw [if_pos c] at g1
    rw [g1]
    exact ⟨fun y => absurd (show nI (fndI f (tW b t q) n) < 0 by rw [y]; decide) (nI_neg (by omega)), fun _ => ⟨_, sp_fail (c := 3) hb hq hX.1 (by decide) (by decide) h0 hC, fun r S1 g => ⟨fun _ => Or.inr (Or.inr ⟨z, c, rfl, g⟩), fun y => absurd y g.2.n0⟩⟩⟩
  · rw [if_neg c] at g1
    rw [g1]
    exact ⟨fun _ => ⟨fun y => absurd h0 y, fun _ => Or.inl ⟨z, c, rfl, rfl⟩⟩, fun y => absurd rfl y⟩
theorem sp_newN_b {n : Nat} {f : Nat → Nat} (hb : ∀ i, i < t → b i < 256) (hq : q ≤ t) (hX : TX b t S) (h0 : S.1 2 1 = 0) (hC : TC b t q S) (hn : n ≤ 5) (hf : ∀ i, i < n → S.2 12 i = lN (f i) ∧ f i < 2 ^ 64) : Ex G mX5_isNewName 2 [.ref 2, .ref 12, .int (nI n)] S (fun r S1 => (tK b t q = 3 ∧ ¬ fndI f (tW b t q) n < n ∧ r = 1 ∧ S1 = S) ∨ (¬ tK b t q = 3 ∧ r = 0 ∧ FG [2] S S1 ∧ FLc (ftt b t q 2) S1) ∨ (tK b t q = 3 ∧ fndI f (tW b t q) n < n ∧ r = 0 ∧ FG [2] S S1 ∧ FLc (ftt b t q 3) S1)) := by
  have hkt := tK_lt (q := q) hb
  refine eX5_isNewName_b (vX5_isNewName_b_0 ?_)
  rw [hC.1, show (3 : Int32) = nI 3 from rfl, nI_eq_i (by omega) (by decide)]
  refine ⟨fun z => ?_, fun z => ⟨_, sp_fail (c := 2) hb hq hX.1 (by decide) (by decide) h0 hC, fun r S1 g => ⟨fun _ => Or.inr (Or.inl ⟨z, rfl, g⟩), fun y => absurd y g.2.n0⟩⟩⟩
  rw [hC.2.2.2.2 z]
  refine ⟨_, sp_cfind_b hn (tW_lt hb hq (Or.inl z)) hf, fun r4 S3 g => ?_⟩
  obtain ⟨g1, g2⟩ := g
  subst g2
  by_cases c : fndI f (tW b t q) n < n
  · rw [if_pos c] at g1
    rw [g1]
    exact ⟨fun y => absurd (show nI (fndI f (tW b t q) n) < 0 by rw [y]; decide) (nI_neg (by omega)), fun _ => ⟨_, sp_fail (c := 3) hb hq hX.1 (by decide) (by decide) h0 hC, fun r S1 g => ⟨fun _ => Or.inr (Or.inr ⟨z, c, rfl, g⟩), fun y => absurd y g.2.n0⟩⟩⟩
  · rw [if_neg c] at g1
    rw [g1]
    exact ⟨fun _ => ⟨fun y => absurd h0 y, fun _ => Or.inl ⟨z, c, rfl, rfl⟩⟩, fun y => absurd rfl y⟩
theorem sp_soulHere {n : Nat} {f : Nat → Nat} (hb : ∀ i, i < t → b i < 256) (hq : q ≤ t) (hX : TX b t S) (h0 : S.1 2 1 = 0) (hC : TC b t q S) (hn : n ≤ 5) (e3 : S.1 3 0 = nI n) (hf : ∀ i, i < n → S.2 12 i = lN (f i) ∧ f i < 2 ^ 64) : Ex G mX5_soulHere 2 [.ref 2] S (fun r S1 => (tK b t q = 3 ∧ fndI f (tW b t q) n < n ∧ r = nI (fndI f (tW b t q) n) ∧ S1 = S) ∨ (¬ tK b t q = 3 ∧ r = -1 ∧ FG [2] S S1 ∧ FLc (ftt b t q 2) S1) ∨ (tK b t q = 3 ∧ ¬ fndI f (tW b t q) n < n ∧ r = -1 ∧ FG [2] S S1 ∧ FLc (ftt b t q 5) S1)) := by
  have hkt := tK_lt (q := q) hb
  refine eX5_soulHere (vX5_soulHere_0 ?_)
  rw [hC.1, show (3 : Int32) = nI 3 from rfl, nI_eq_i (by omega) (by decide)]
  refine ⟨fun z => ?_, fun z => ⟨_, sp_fail (c := 2) hb hq hX.1 (by decide) (by decide) h0 hC, fun r S1 g => Or.inr (Or.inl ⟨z, rfl, g⟩)⟩⟩
  rw [hC.2.2.2.2 z, e3]
  refine ⟨_, sp_cfind_b hn (tW_lt hb hq (Or.inl z)) hf, fun r4 S3 g => ?_⟩
  obtain ⟨g1, g2⟩ := g
  subst g2
  by_cases c : fndI f (tW b t q) n < n
  · rw [if_pos c] at g1
    rw [g1]
    exact ⟨fun _ => Or.inl ⟨z, c, rfl, rfl⟩, fun y => absurd (show nI (fndI f (tW b t q) n) < 0 by rw [y]; decide) (nI_neg (by omega))⟩
  · rw [if_neg c] at g1
    rw [g1]
    exact ⟨fun y => absurd rfl y, fun _ => ⟨_, sp_fail (c := 5) hb hq hX.1 (by decide) (by decide) h0 hC, fun r S1 g => Or.inr (Or.inr ⟨z, c, rfl, g⟩)⟩⟩
theorem tN_lt (hq : q ≤ t) (h : tK b t q = 2) : tN b t q < 10000 := by
  have hz : ¬ t ≤ tP b t q := fun z => by
    unfold tK at h
    rw [if_pos z] at h
    cases h
  have hP := tP_hi (b := b) hq
  have h4 : tDn b t q ≤ 4 := by
    unfold tK at h
    rw [if_neg hz] at h
    split at h
    · split at h
      · cases h
      · rcases kwF_3 (w := tW b t q) 15 with h1 | ⟨j, h1, h2, h3⟩ <;> omega
    · split at h
      · split at h
        · cases h
        · next y => omega
      · split at h
        · next y =>
          rw [h] at y
          exact absurd y (by decide)
        · cases h
  have hin := sk_in (b := b) (t := t) (p := isDb) (t - tP b t q) (tP b t q) (by omega)
  refine Nat.lt_of_lt_of_le (nm_lt (b := b) (q := tP b t q) (tDn b t q) (fun i hi => hin _ (by omega) ?_)) (pw4 h4)
  unfold tDn at hi
  omega
/-- a number, at most m -/
theorem sp_readNumber {m : Nat} (hb : ∀ i, i < t → b i < 256) (hq : q ≤ t) (hX : TX b t S) (h0 : S.1 2 1 = 0) (hC : TC b t q S) (hm : m < 10000) : Ex G mX5_readNumber 10 [.ref 2, .int (nI m)] S (fun r S1 => (tK b t q = 2 ∧ ¬ m < tN b t q ∧ r = nI (tN b t q) ∧ FG [13] S S1 ∧ TX b t S1 ∧ TC b t (tE b t q) S1) ∨ (¬ tK b t q = 2 ∧ FG [2] S S1 ∧ FLc (ftt b t q 2) S1) ∨ (tK b t q = 2 ∧ m < tN b t q ∧ FG [2] S S1 ∧ FLc (ftt b t q 4) S1)) := by
  have hkt := tK_lt (q := q) hb
  refine eX5_readNumber (vX5_readNumber_0 ⟨fun _ => ?_, fun z => absurd h0 z⟩)
  rw [hC.1, show (2 : Int32) = nI 2 from rfl, nI_eq_i (by omega) (by decide)]
  refine ⟨fun z => ⟨fun _ => ⟨_, sp_fail (c := 2) hb hq hX.1 (by decide) (by decide) h0 hC, fun r S1 g => Or.inr (Or.inl ⟨z, g⟩)⟩, fun y => absurd y z⟩, fun z => ?_⟩
  have hN := tN_lt hq z
  rw [hC.2.2.2.1 z, nI_le_i (by omega) (by omega)]
  exact ⟨fun y => ⟨_, sp_adv hX hq hC, fun r S1 g => Or.inl ⟨z, by omega, rfl, g⟩⟩, fun y => ⟨fun x => absurd z x, fun _ => ⟨_, sp_fail (c := 4) hb hq hX.1 (by decide) (by decide) h0 hC, fun r S1 g => Or.inr (Or.inr ⟨z, by omega, g⟩)⟩⟩⟩
theorem sp_readNumN {x : Int32} (h0 : ¬ S.1 2 1 = 0) : Ex G mX5_readNumber 10 [.ref 2, .int x] S (fun r S1 => r = 0 ∧ S1 = S) := eX5_readNumber (vX5_readNumber_0 ⟨fun z => absurd z h0, fun _ => ⟨rfl, rfl⟩⟩)
end
