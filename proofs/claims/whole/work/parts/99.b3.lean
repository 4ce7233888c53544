/-! the start: both systems made, their store -/
section
variable {G : ovG} {S : ovS} {V : pV}
theorem sp_cbegin5 : Ex4 G mX11_begin 4 [.ref 0] S (fun _ S1 => (∀ k, bgR k = false → S1.1 k = S.1 k) ∧ (∀ i, i < 5 → S1.1 25 i = 0 ∧ S1.1 26 i = -1 ∧ S1.1 27 i = S.1 18 i ∧ S1.1 28 i = 0 ∧ S1.1 29 i = S.1 19 i ∧ S1.1 30 i = 0 ∧ S1.1 31 i = 0) ∧ (S1.1 24 7 = S.1 16 2 ∧ S1.1 24 8 = S.1 16 3 ∧ S1.1 24 9 = 0) ∧ stEq S1 34 S1 24 ∧ (S1.1 32 2 = 0 ∧ S1.1 32 0 = 0 ∧ S1.1 32 1 = 0) ∧ (S1.1 376 1 = 0 ∧ ∀ j, j ≠ 1 → S1.1 376 j = S.1 376 j) ∧ S1.1 369 4 = 0 ∧ (∀ b, b < 3 → S1.1 363 b = 0) ∧ S1.2 = S.2) := by
  refine eX11_begin4 (vX11_begin_04 ⟨_, sp_nbegin4, fun r3 S2 g => ⟨_, sp_hbegin4, fun r8 S7 p => ⟨_, eX6_clear4 (vX6_clear_04 (Q := fun _ S9 => S9 = stI S7 376 1 0) (fun T e => e)), fun r13 S12 e12 => ⟨_, sp_clearLying4, fun r18 S17 e17 => ?_⟩⟩⟩⟩)
  obtain ⟨g1, g2, g3, g4, g5⟩ := g
  obtain ⟨p1, p2, p3, p4, p5⟩ := p
  have k17 : ∀ k, k ≠ 369 → k ≠ 376 → S17.1 k = S7.1 k := fun k h1 h2 => by rw [e17, stI_row h1, e12, stI_row h2]
  have kS : ∀ k, (k < 24 ∨ 32 < k) → (k < 34 ∨ 42 ≤ k) → k ≠ 369 → k ≠ 376 → S17.1 k = S.1 k := fun k h1 h2 h3 h4 => by
    rw [k17 k h3 h4, p2.at (by simp; omega) h2, g1.1 k]
    simp only [List.contains_eq_mem, List.mem_cons, List.not_mem_nil, or_false, decide_eq_false_iff_not]
    omega
  have s376 : S7.1 376 = S.1 376 := by rw [p2.at (by decide) (by omega), g1.at 376 rfl]
  have nw : ∀ j, j < 8 → S7.1 (24 + j) = S2.1 (24 + j) := fun j hj => p2.at (by simp; omega) (by omega)
  have key : ∀ k i : Nat, ∀ S' : ovS, i + k = 3 → Fr [363] S17 S' → (∀ b, b < i → S'.1 363 b = 0) → RM4 G mX11_begin 4 (fun _ S1 => (∀ k, bgR k = false → S1.1 k = S.1 k) ∧ (∀ i, i < 5 → S1.1 25 i = 0 ∧ S1.1 26 i = -1 ∧ S1.1 27 i = S.1 18 i ∧ S1.1 28 i = 0 ∧ S1.1 29 i = S.1 19 i ∧ S1.1 30 i = 0 ∧ S1.1 31 i = 0) ∧ (S1.1 24 7 = S.1 16 2 ∧ S1.1 24 8 = S.1 16 3 ∧ S1.1 24 9 = 0) ∧ stEq S1 34 S1 24 ∧ (S1.1 32 2 = 0 ∧ S1.1 32 0 = 0 ∧ S1.1 32 1 = 0) ∧ (S1.1 376 1 = 0 ∧ ∀ j, j ≠ 1 → S1.1 376 j = S.1 376 j) ∧ S1.1 369 4 = 0 ∧ (∀ b, b < 3 → S1.1 363 b = 0) ∧ S1.2 = S.2) 38 [some (.ref 0), some (.int (nI i))] [] S' := by
    intro k
    induction k with
    | zero =>
      intro i S' hi hF hb
      have : i = 3 := by omega
      subst this
      have nw' : ∀ j, j < 8 → S'.1 (24 + j) = S2.1 (24 + j) := fun j hj => by
        rw [hF.1 (24 + j) (by simp; omega), k17 _ (by omega) (by omega)]
        exact nw j hj
      refine vX11_begin_384 ⟨fun _ => ⟨fun k hk => ?_, fun i hi => ?_, ?_, ?_, ?_, ?_, ?_, hb, ?_⟩, fun z => absurd (by decide) z⟩
      · have hk' : (¬ (24 ≤ k ∧ k ≤ 32)) ∧ (¬ (34 ≤ k ∧ k ≤ 41)) ∧ k ≠ 363 ∧ k ≠ 369 ∧ k ≠ 376 := by
          unfold bgR at hk
          simp only [Bool.or_eq_false_iff, Bool.and_eq_false_iff, decide_eq_false_iff_not] at hk
          omega
        rw [hF.1 k (by simp [hk'.2.2.1])]
        exact kS k (by omega) (by omega) hk'.2.2.2.1 hk'.2.2.2.2
      · have h := g2 i hi
        rw [nw' 1 (by decide), nw' 2 (by decide), nw' 3 (by decide), nw' 4 (by decide), nw' 5 (by decide), nw' 6 (by decide), nw' 7 (by decide)]
        exact h
      · rw [nw' 0 (by decide)]
        exact ⟨g3, g4, g5⟩
      · refine (p1.cg (fun j hj => ?_)).cgr (fun j hj => ?_)
        · rw [hF.1 (34 + j) (by simp; omega), k17 _ (by omega) (by omega)]
        · exact (nw' j hj).symm
      · rw [hF.at 32 rfl, k17 32 (by decide) (by decide)]
        exact ⟨p3, p4, p5⟩
      · have e : ∀ j, S'.1 376 j = if j = 1 then 0 else S.1 376 j := fun j => by rw [hF.at 376 rfl, e17, stI_row (by decide), e12, stI_1, if_pos rfl, s376]
        exact ⟨by rw [e]; rfl, fun j hj => by rw [e, if_neg hj]⟩
      · rw [hF.at 369 rfl, e17, stI_1, if_pos rfl, if_pos rfl]
      · rw [hF.2, e17, stI_2, e12, stI_2, p2.2, g1.2]
    | succ k ih =>
      intro i S' hi hF hb
      refine vX11_begin_384 ⟨fun z => absurd ((nI_le_i (a := 3) (by decide) (by omega)).mp z) (by omega), fun _ => ⟨vp_in_nI (by omega) (by decide), fun S2' e2 => ?_⟩⟩
      rw [nI_ix (by omega)] at e2
      have go := ih (i + 1) S2' (by omega) (by rw [e2]; exact hF.st rfl) (fun b hb' => ?_)
      · rw [nI_succ i] at go
        exact go
      · rw [e2, stI_1, if_pos rfl]
        by_cases c : b = i
        · rw [if_pos c]; rfl
        · rw [if_neg c]
          exact hb b (by omega)
  exact key 3 0 S17 (by omega) Fr.rf (fun b hb => absurd hb (by omega))
end
def sS0 : ovS := (fun k j => if k = 0 ∧ j = 4 then -1 else if k = 412 ∧ j = 3 then -1 else 0, fun _ _ => 0)
theorem s0_row {k : Nat} (h1 : k ≠ 0) (h2 : k ≠ 412) : sS0.1 k = fun _ => 0 := by
  funext j
  show (if k = 0 ∧ j = 4 then (-1 : Int32) else if k = 412 ∧ j = 3 then -1 else 0) = 0
  rw [if_neg (fun h => h1 h.1), if_neg (fun h => h2 h.1)]
theorem s0_0 : sS0.1 0 = fun j => if j = 4 then -1 else 0 := by
  funext j
  show (if 0 = 0 ∧ j = 4 then (-1 : Int32) else if 0 = 412 ∧ j = 3 then -1 else 0) = if j = 4 then -1 else 0
  by_cases h : j = 4
  · rw [if_pos ⟨rfl, h⟩, if_pos h]
  · rw [if_neg (fun q => h q.2), if_neg (fun q => absurd q.1 (by decide)), if_neg h]
theorem s0_412 : sS0.1 412 = fun j => if j = 3 then -1 else 0 := by
  funext j
  show (if 412 = 0 ∧ j = 4 then (-1 : Int32) else if 412 = 412 ∧ j = 3 then -1 else 0) = if j = 3 then -1 else 0
  rw [if_neg (fun q => absurd q.1 (by decide))]
  by_cases h : j = 3
  · rw [if_pos ⟨rfl, h⟩, if_pos h]
  · rw [if_neg (fun q => h q.2), if_neg h]
theorem VI_nil : VI (fun _ _ => 0) :=
  ⟨⟨Nat.zero_le _, Nat.zero_le _, Nat.zero_le _, Nat.zero_le _, Nat.zero_le _, Nat.zero_le _, Nat.zero_le _, Nat.zero_le _⟩, fun _ _ => ⟨Nat.zero_le _, Nat.zero_le _, fun _ => ⟨rfl, rfl, rfl⟩⟩, ⟨fun _ _ => Nat.one_pos, fun i j _ _ => (Nat.zero_testBit j).trans (Nat.zero_testBit i).symm, fun i _ => Nat.zero_testBit i⟩, ⟨fun _ _ _ h => absurd h (Nat.not_lt_zero _), fun _ _ _ h => absurd h (Nat.not_lt_zero _)⟩, fun _ => ⟨rfl, rfl⟩, fun h => absurd h Nat.zero_ne_one⟩
theorem start_inv {S1 : ovS} (h : (∀ k, bgR k = false → S1.1 k = sS0.1 k) ∧ (∀ i, i < 5 → S1.1 25 i = 0 ∧ S1.1 26 i = -1 ∧ S1.1 27 i = sS0.1 18 i ∧ S1.1 28 i = 0 ∧ S1.1 29 i = sS0.1 19 i ∧ S1.1 30 i = 0 ∧ S1.1 31 i = 0) ∧ (S1.1 24 7 = sS0.1 16 2 ∧ S1.1 24 8 = sS0.1 16 3 ∧ S1.1 24 9 = 0) ∧ stEq S1 34 S1 24 ∧ (S1.1 32 2 = 0 ∧ S1.1 32 0 = 0 ∧ S1.1 32 1 = 0) ∧ (S1.1 376 1 = 0 ∧ ∀ j, j ≠ 1 → S1.1 376 j = sS0.1 376 j) ∧ S1.1 369 4 = 0 ∧ (∀ b, b < 3 → S1.1 363 b = 0) ∧ S1.2 = sS0.2) : Inv (sM S1 5) := by
  obtain ⟨h1, h2, ⟨h3a, h3b, h3c⟩, h4, ⟨h5a, h5b, h5c⟩, ⟨h6a, h6b⟩, h7, h8, h9⟩ := h
  have r : ∀ k, k ≠ 426 → (sM S1 5).1 k = S1.1 k := fun k hk => seI_row hk
  have z : ∀ k, bgR k = false → k ≠ 0 → k ≠ 412 → S1.1 k = fun _ => 0 := fun k a b c => by rw [h1 k a, s0_row b c]
  have zz : ∀ k j, bgR k = false → k ≠ 0 → k ≠ 412 → k ≠ 426 → (sM S1 5).1 k j = 0 := fun k j a b c d => by rw [r k d, z k a b c]
  have r0 : ∀ j, j ≠ 4 → (sM S1 5).1 0 j = 0 := fun j hj => by
    rw [r 0 (by decide), h1 0 rfl, s0_0]
    exact if_neg hj
  have r04 : (sM S1 5).1 0 4 = -1 := by
    rw [r 0 (by decide), h1 0 rfl, s0_0]
    exact if_pos rfl
  have r412 : ∀ j, j ≠ 3 → (sM S1 5).1 412 j = 0 := fun j hj => by
    rw [r 412 (by decide), h1 412 rfl, s0_412]
    exact if_neg hj
  have r4123 : (sM S1 5).1 412 3 = -1 := by
    rw [r 412 (by decide), h1 412 rfl, s0_412]
    exact if_pos rfl
  have r426 : ∀ j, (sM S1 5).1 426 j = if 5 ≤ j ∧ j < 5 + 5 then -1 else 0 := fun j => by
    rw [sM, seI_self, z 426 rfl (by decide) (by decide)]
  have q426 : ∀ j, ¬ (5 ≤ j ∧ j < 5 + 5) → (sM S1 5).1 426 j = 0 := fun j hj => by rw [r426, if_neg hj]
  have e0 : (0 : Int32) = nI 0 := nI_0.symm
  have e18 : ∀ i, sS0.1 18 i = 0 := fun i => by rw [s0_row (by decide) (by decide)]
  have e19 : ∀ i, sS0.1 19 i = 0 := fun i => by rw [s0_row (by decide) (by decide)]
  have e16 : ∀ i, sS0.1 16 i = 0 := fun i => by rw [s0_row (by decide) (by decide)]
  have e376 : (sM S1 5).1 376 2 = 0 := by rw [r 376 (by decide), h6b 2 (by decide), s0_row (by decide) (by decide)]
  refine ⟨0, 0, IC_new (V := fun _ _ => 0) (SC := sM S1 5) (S2 := sM S1 5) (S1 := sM S1 5) VI_nil ⟨fun _ _ => rfl, ⟨(r412 34 (by decide)).trans e0, (r412 35 (by decide)).trans e0, (r412 21 (by decide)).trans e0, (r412 39 (by decide)).trans e0, (r412 18 (by decide)).trans e0, r412 45 (by decide), r412 46 (by decide), r412 63 (by decide), r412 48 (by decide), r412 1 (by decide), r412 2 (by decide), r4123, rfl⟩, fun i hi => absurd hi (Nat.not_lt_zero _), fun i hi => absurd hi (Nat.not_lt_zero _), fun i hi => ⟨q426 i (by omega), ?_, (q426 (10 + i) (by omega)).trans e0, (q426 (15 + i) (by omega)).trans e0, q426 (20 + i) (by omega), q426 (25 + i) (by omega), q426 (30 + i) (by omega)⟩, ⟨(q426 35 (by omega)).trans e0, (q426 36 (by omega)).trans e0, q426 37 (by omega)⟩, fun b hb => zz 445 b rfl (by decide) (by decide) (by decide)⟩ (fun _ _ => rfl) ⟨(zz 16 0 rfl (by decide) (by decide) (by decide)).trans e0, (zz 16 1 rfl (by decide) (by decide) (by decide)).trans e0⟩ (fun i _ => (zz 17 i rfl (by decide) (by decide) (by decide)).trans e0) ⟨(zz 20 0 rfl (by decide) (by decide) (by decide)).trans e0, (zz 20 1 rfl (by decide) (by decide) (by decide)).trans e0⟩ (fun i hi => absurd hi (Nat.not_lt_zero _)) (fun i hi => ?_) ⟨?_, ?_, ?_⟩ ?_ ⟨?_, ?_, ?_⟩ ?_ ⟨0, Nat.zero_le _, e376.trans e0⟩ ((r412 64 (by decide)).trans e376.symm) ?_ (fun b hb => ?_) ⟨r0 1 (by decide), r0 3 (by decide), r04⟩⟩
  · rw [r426, if_pos (by omega)]
  · have g := h2 i hi
    rw [r 25 (by decide), r 26 (by decide), r 27 (by decide), r 28 (by decide), r 29 (by decide), r 30 (by decide), r 31 (by decide)]
    exact ⟨g.1, g.2.1, (g.2.2.1.trans (e18 i)).trans e0, g.2.2.2.1, (g.2.2.2.2.1.trans (e19 i)).trans e0, g.2.2.2.2.2.1, g.2.2.2.2.2.2⟩
  · rw [r 24 (by decide)]
    exact (h3a.trans (e16 2)).trans e0
  · rw [r 24 (by decide)]
    exact (h3b.trans (e16 3)).trans e0
  · rw [r 24 (by decide)]
    exact h3c
  · refine ⟨fun a ha hb j hj => ?_, fun j ha hb => ?_⟩
    · rw [r (34 + a) (by omega), r (24 + a) (by omega)]
      exact h4.1 a ha hb j hj
    · rw [r 34 (by decide), r 24 (by decide)]
      exact h4.2 j ha hb
  · rw [r 32 (by decide)]
    exact h5a
  · rw [r 32 (by decide)]
    exact h5b
  · rw [r 32 (by decide)]
    exact h5c
  · rw [r 376 (by decide)]
    exact h6a
  · rw [r 369 (by decide)]
    exact h7
  · rw [r 363 (by decide)]
    exact h8 b hb
