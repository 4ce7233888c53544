/-! ===== the class takes a VILLAGE ===== -/
section
variable {G : ovG} {S : ovS} {V : pV}
theorem sp_ctake : Ex G mX10_take 3 [.ref 16, .ref 3] S (fun _ S1 => Fr [16, 17, 18, 19, 20, 21, 22] S S1 ∧ (S1.1 16 0 = S.1 3 0 ∧ S1.1 16 1 = S.1 3 1 ∧ S1.1 16 2 = S.1 3 2 ∧ S1.1 16 3 = S.1 3 3) ∧ (∀ i, i < 5 → S1.1 17 i = S.1 4 i ∧ S1.1 18 i = S.1 5 i ∧ S1.1 19 i = S.1 6 i) ∧ S1.1 20 0 = S.1 7 0 ∧ S1.1 20 1 = S.1 7 1 ∧ ∀ i, i < 300 → S1.1 21 i = S.1 8 i ∧ S1.1 22 i = S.1 9 i) := by
  refine eX10_take (vX10_take_0 (fun S1 e1 S2 e2 S3 e3 S4 e4 S5 e5 S6 e6 S7 e7 => ⟨_, eX1_take (vX1_take_0 (Q := fun _ S9 => S9 = cpI (cpI (stI (stI S7 20 0 (S7.1 7 0)) 20 1 (S7.1 7 1)) 8 21 0 0 300) 9 22 0 0 300) (fun T1 f1 T2 f2 T3 f3 T4 f4 => ?_)), fun r10 S9 e9 => ?_⟩))
  · have : T1.1 7 1 = S7.1 7 1 := by rw [f1, stI_row (by decide)]
    rw [this] at f2
    rw [f4, f3, f2, f1]
  · have h4 : Fr [16] S S4 := by
      rw [e4, e3, e2, e1]
      exact (((Fr.rf.st rfl).st rfl).st rfl).st rfl
    have h7 : Fr [16, 17, 18, 19] S S7 := by
      rw [e7, e6, e5]
      exact (((h4.mono rfl).cp rfl).cp rfl).cp rfl
    have s1 : ∀ j, S1.1 3 j = S.1 3 j := fun j => by rw [e1, stI_row (by decide)]
    have s2 : ∀ j, S2.1 3 j = S.1 3 j := fun j => by rw [e2, stI_row (by decide), s1]
    have s3 : ∀ j, S3.1 3 j = S.1 3 j := fun j => by rw [e3, stI_row (by decide), s2]
    rw [s1] at e2
    rw [s2] at e3
    rw [s3] at e4
    have c16 : S9.1 16 = S4.1 16 := by rw [e9, cpI_row (by decide), cpI_row (by decide), stI_row (by decide), stI_row (by decide), e7, cpI_row (by decide), e6, cpI_row (by decide), e5, cpI_row (by decide)]
    refine ⟨?_, ⟨?_, ?_, ?_, ?_⟩, fun i hi => ⟨?_, ?_, ?_⟩, ?_, ?_, fun i hi => ⟨?_, ?_⟩⟩
    · rw [e9]
      exact ((((h7.mono rfl).st rfl).st rfl).cp rfl).cp rfl
    · rw [c16, e4, stI_1, if_pos rfl, if_neg (by decide), e3, stI_1, if_pos rfl, if_neg (by decide), e2, stI_1, if_pos rfl, if_neg (by decide), e1, stI_1, if_pos rfl, if_pos rfl]
    · rw [c16, e4, stI_1, if_pos rfl, if_neg (by decide), e3, stI_1, if_pos rfl, if_neg (by decide), e2, stI_1, if_pos rfl, if_pos rfl]
    · rw [c16, e4, stI_1, if_pos rfl, if_neg (by decide), e3, stI_1, if_pos rfl, if_pos rfl]
    · rw [c16, e4, stI_1, if_pos rfl, if_pos rfl]
    · rw [e9, cpI_row (by decide), cpI_row (by decide), stI_row (by decide), stI_row (by decide), e7, cpI_row (by decide), e6, cpI_row (by decide), e5, cpI_self hi, h4.at 4 rfl]
    · rw [e9, cpI_row (by decide), cpI_row (by decide), stI_row (by decide), stI_row (by decide), e7, cpI_row (by decide), e6, cpI_self hi, e5, cpI_row (by decide), h4.at 5 rfl]
    · rw [e9, cpI_row (by decide), cpI_row (by decide), stI_row (by decide), stI_row (by decide), e7, cpI_self hi, e6, cpI_row (by decide), e5, cpI_row (by decide), h4.at 6 rfl]
    · rw [e9, cpI_row (by decide), cpI_row (by decide), stI_1, if_pos rfl, if_neg (by decide), stI_1, if_pos rfl, if_pos rfl, h7.at 7 rfl]
    · rw [e9, cpI_row (by decide), cpI_row (by decide), stI_1, if_pos rfl, if_pos rfl, h7.at 7 rfl]
    · rw [e9, cpI_row (by decide), cpI_self hi, stI_row (by decide), stI_row (by decide), h7.at 8 rfl]
    · rw [e9, cpI_self hi, cpI_row (by decide), stI_row (by decide), stI_row (by decide), h7.at 9 rfl]
theorem sp_nbegin : Ex G mX9_begin 2 [.ref 24, .ref 16] S (fun _ S1 => Fr [24, 25, 26, 27, 28, 29, 30, 31] S S1 ∧ (∀ i, i < 5 → S1.1 25 i = 0 ∧ S1.1 26 i = -1 ∧ S1.1 27 i = S.1 18 i ∧ S1.1 28 i = 0 ∧ S1.1 29 i = S.1 19 i ∧ S1.1 30 i = 0 ∧ S1.1 31 i = 0) ∧ S1.1 24 7 = S.1 16 2 ∧ S1.1 24 8 = S.1 16 3 ∧ S1.1 24 9 = 0) := by
  refine eX9_begin (vX9_begin_0 ⟨_, sp_fill (n := 5) rfl rfl (by decide), fun r3 S2 e2 => ⟨_, sp_fill (n := 5) rfl rfl (by decide), fun r8 S7 e7 S11 e11 => ⟨_, sp_fill (n := 5) rfl rfl (by decide), fun r14 S13 e13 S17 e17 => ⟨_, sp_fill (n := 5) rfl rfl (by decide), fun r20 S19 e19 => ⟨_, sp_fill (n := 5) rfl rfl (by decide), fun r25 S24 e24 S28 e28 S29 e29 S30 e30 => ?_⟩⟩⟩⟩⟩)
  have h7 : Fr [25, 26] S S7 := by rw [e7, e2]; exact (Fr.rf.se rfl).se rfl
  have h13 : Fr [25, 26, 27, 28] S S13 := by rw [e13, e11]; exact ((h7.mono rfl).cp rfl).se rfl
  have h24 : Fr [25, 26, 27, 28, 29, 30, 31] S S24 := by rw [e24, e19, e17]; exact (((h13.mono rfl).cp rfl).se rfl).se rfl
  have a28 : S28.1 16 = S.1 16 := by rw [e28, stI_row (by decide), h24.at 16 rfl]
  rw [h24.at 16 rfl] at e28
  rw [a28] at e29
  have r30 : ∀ k, k ≠ 24 → S30.1 k = S24.1 k := fun k hk => by rw [e30, stI_row hk, e29, stI_row hk, e28, stI_row hk]
  refine ⟨?_, fun i hi => ⟨?_, ?_, ?_, ?_, ?_, ?_, ?_⟩, ?_, ?_, ?_⟩
  · rw [e30, e29, e28]
    exact (((h24.mono rfl).st rfl).st rfl).st rfl
  · rw [r30 25 (by decide), e24, seI_row (by decide), e19, seI_row (by decide), e17, cpI_row (by decide), e13, seI_row (by decide), e11, cpI_row (by decide), e7, seI_row (by decide), e2, seI_self]
    simp [fillR, hi]
  · rw [r30 26 (by decide), e24, seI_row (by decide), e19, seI_row (by decide), e17, cpI_row (by decide), e13, seI_row (by decide), e11, cpI_row (by decide), e7, seI_self]
    simp [fillR, hi]
  · rw [r30 27 (by decide), e24, seI_row (by decide), e19, seI_row (by decide), e17, cpI_row (by decide), e13, seI_row (by decide), e11, cpI_self hi, h7.at 18 rfl]
  · rw [r30 28 (by decide), e24, seI_row (by decide), e19, seI_row (by decide), e17, cpI_row (by decide), e13, seI_self]
    simp [fillR, hi]
  · rw [r30 29 (by decide), e24, seI_row (by decide), e19, seI_row (by decide), e17, cpI_self hi, h13.at 19 rfl]
  · rw [r30 30 (by decide), e24, seI_row (by decide), e19, seI_self]
    simp [fillR, hi]
  · rw [r30 31 (by decide), e24, seI_self]
    simp [fillR, hi]
  · rw [e30, stI_1, if_pos rfl, if_neg (by decide), e29, stI_1, if_pos rfl, if_neg (by decide), e28, stI_1, if_pos rfl, if_pos rfl]
  · rw [e30, stI_1, if_pos rfl, if_neg (by decide), e29, stI_1, if_pos rfl, if_pos rfl]
  · rw [e30, stI_1, if_pos rfl, if_pos rfl]
/-- all rows that a beginning changes -/
def bgR (k : Nat) : Bool := (decide (24 ≤ k) && decide (k ≤ 32)) || (decide (34 ≤ k) && decide (k ≤ 41)) || decide (k = 363) || decide (k = 369) || decide (k = 376)
theorem sp_cbegin : Ex G mX11_begin 4 [.ref 0] S (fun _ S1 => (∀ k, bgR k = false → S1.1 k = S.1 k) ∧ (∀ i, i < 5 → S1.1 25 i = 0 ∧ S1.1 26 i = -1 ∧ S1.1 27 i = S.1 18 i ∧ S1.1 28 i = 0 ∧ S1.1 29 i = S.1 19 i ∧ S1.1 30 i = 0 ∧ S1.1 31 i = 0) ∧ (S1.1 24 7 = S.1 16 2 ∧ S1.1 24 8 = S.1 16 3 ∧ S1.1 24 9 = 0) ∧ stEq S1 34 S1 24 ∧ (S1.1 32 2 = 0 ∧ S1.1 32 0 = 0 ∧ S1.1 32 1 = 0) ∧ (S1.1 376 1 = 0 ∧ ∀ j, j ≠ 1 → S1.1 376 j = S.1 376 j) ∧ S1.1 369 4 = 0 ∧ (∀ b, b < 3 → S1.1 363 b = 0)) := by
  refine eX11_begin (vX11_begin_0 ⟨_, sp_nbegin, fun r3 S2 g => ⟨_, sp_hbegin, fun r8 S7 p => ⟨_, eX6_clear (vX6_clear_0 (Q := fun _ S9 => S9 = stI S7 376 1 0) (fun T e => e)), fun r13 S12 e12 => ⟨_, sp_clearLying, fun r18 S17 e17 => ?_⟩⟩⟩⟩)
  obtain ⟨g1, g2, g3, g4, g5⟩ := g
  obtain ⟨p1, p2, p3, p4, p5⟩ := p
  have k17 : ∀ k, k ≠ 369 → k ≠ 376 → S17.1 k = S7.1 k := fun k h1 h2 => by rw [e17, stI_row h1, e12, stI_row h2]
  have kS : ∀ k, (k < 24 ∨ 32 < k) → (k < 34 ∨ 42 ≤ k) → k ≠ 369 → k ≠ 376 → S17.1 k = S.1 k := fun k h1 h2 h3 h4 => by
    rw [k17 k h3 h4, p2.at (by simp; omega) h2, g1.1 k]
    simp only [List.contains_eq_mem, List.mem_cons, List.not_mem_nil, or_false, decide_eq_false_iff_not]
    omega
  have s376 : S7.1 376 = S.1 376 := by rw [p2.at (by decide) (by omega), g1.at 376 rfl]
  have nw : ∀ j, j < 8 → S7.1 (24 + j) = S2.1 (24 + j) := fun j hj => p2.at (by simp; omega) (by omega)
  have key : ∀ k i : Nat, ∀ S' : ovS, i + k = 3 → Fr [363] S17 S' → (∀ b, b < i → S'.1 363 b = 0) → RM G mX11_begin 4 (fun _ S1 => (∀ k, bgR k = false → S1.1 k = S.1 k) ∧ (∀ i, i < 5 → S1.1 25 i = 0 ∧ S1.1 26 i = -1 ∧ S1.1 27 i = S.1 18 i ∧ S1.1 28 i = 0 ∧ S1.1 29 i = S.1 19 i ∧ S1.1 30 i = 0 ∧ S1.1 31 i = 0) ∧ (S1.1 24 7 = S.1 16 2 ∧ S1.1 24 8 = S.1 16 3 ∧ S1.1 24 9 = 0) ∧ stEq S1 34 S1 24 ∧ (S1.1 32 2 = 0 ∧ S1.1 32 0 = 0 ∧ S1.1 32 1 = 0) ∧ (S1.1 376 1 = 0 ∧ ∀ j, j ≠ 1 → S1.1 376 j = S.1 376 j) ∧ S1.1 369 4 = 0 ∧ (∀ b, b < 3 → S1.1 363 b = 0)) 38 [some (.ref 0), some (.int (nI i))] [] S' := by
    intro k
    induction k with
    | zero =>
      intro i S' hi hF hb
      have : i = 3 := by omega
      subst this
      have nw' : ∀ j, j < 8 → S'.1 (24 + j) = S2.1 (24 + j) := fun j hj => by
        rw [hF.1 (24 + j) (by simp; omega), k17 _ (by omega) (by omega)]
        exact nw j hj
      refine vX11_begin_38 ⟨fun _ => ⟨fun k hk => ?_, fun i hi => ?_, ?_, ?_, ?_, ?_, ?_, hb⟩, fun z => absurd (by decide) z⟩
      · have hk' : (¬ (24 ≤ k ∧ k ≤ 32)) ∧ (¬ (34 ≤ k ∧ k ≤ 41)) ∧ k ≠ 363 ∧ k ≠ 369 ∧ k ≠ 376 := by
          unfold bgR at hk
          simp only [Bool.or_eq_false_iff, Bool.and_eq_false_iff, decide_eq_false_iff_not] at hk
          omega
        rw [hF.1 k (by simp [hk'.2.2.1])]
        exact kS k (by omega) (by omega) hk'.2.2.2.1 hk'.2.2.2.2
      · have h := g2 i hi
        rw [nw' 1 (by decide), nw' 2 (by decide), nw' 3 (by decide), nw' 4 (by decide), nw' 5 (by decide), nw' 6 (by decide), nw' 7 (by decide)]
        exact h
      · rw [nw' 0 (by decide)]
        exact ⟨g3, g4, g5⟩
      · refine (p1.cg (fun j hj => ?_)).cgr (fun j hj => ?_)
        · rw [hF.1 (34 + j) (by simp; omega), k17 _ (by omega) (by omega)]
        · exact (nw' j hj).symm
      · rw [hF.at 32 rfl, k17 32 (by decide) (by decide)]
        exact ⟨p3, p4, p5⟩
      · have e : ∀ j, S'.1 376 j = if j = 1 then 0 else S.1 376 j := fun j => by rw [hF.at 376 rfl, e17, stI_row (by decide), e12, stI_1, if_pos rfl, s376]
        exact ⟨by rw [e]; rfl, fun j hj => by rw [e, if_neg hj]⟩
      · rw [hF.at 369 rfl, e17, stI_1, if_pos rfl, if_pos rfl]
    | succ k ih =>
      intro i S' hi hF hb
      refine vX11_begin_38 ⟨fun z => absurd ((nI_le_i (a := 3) (by decide) (by omega)).mp z) (by omega), fun _ => ⟨vp_in_nI (by omega) (by decide), fun S2' e2 => ?_⟩⟩
      rw [nI_ix (by omega)] at e2
      have go := ih (i + 1) S2' (by omega) (by rw [e2]; exact hF.st rfl) (fun b hb' => ?_)
      · rw [nI_succ i] at go
        exact go
      · rw [e2, stI_1, if_pos rfl]
        by_cases c : b = i
        · rw [if_pos c]; rfl
        · rw [if_neg c]
          exact hb b (by omega)
  exact key 3 0 S17 (by omega) Fr.rf (fun b hb => absurd hb (by omega))
theorem lnA_ok {b : Nat → Nat} {t : Nat} : ∀ (f : Nat) (V : pV) (q : Nat) (V1 : pV), q ≤ t → VI V → lnA b t f V q = .inr V1 → VI V1
  | 0, V, q, V1, _, hI, h => by
    rw [lnA] at h
    cases h
    exact hI
  | f + 1, V, q, V1, hq, hI, h => by
    by_cases k0 : tK b t q = 0
    · rw [lnA, if_pos k0] at h
      cases h
      exact hI
    · cases hX : lnX b t V q with
      | inl e =>
        rw [lnA_l k0 hX] at h
        cases h
      | inr R =>
        obtain ⟨V2, q2⟩ := R
        rw [lnA_r k0 hX] at h
        have hok := lnX_ok hq hI hX
        exact lnA_ok f V2 q2 V1 hok.2.2 hok.1 h
end
