/-! ===== report ===== -/
section
variable {G : ovG} {S : ovS} {n m : Nat}
def tlS (S : ovS) (c : Nat) (x1 x2 x3 x4 : Int32) : ovS := stI (stI (stI (stI (stI (stI (stI S 377 c x1) 378 c x2) 379 c x3) 380 c x4) 381 c (S.1 376 2)) 382 c (-1)) 376 1 (nI (c + 1))
def tmS (S : ovS) (c : Nat) (x1 x2 x3 x4 : Int32) : ovS := stI (stI (stI (stI (stI (stI (stI S 434 c x1) 435 c x2) 436 c x3) 437 c x4) 438 c (S.1 412 64)) 439 c (-1)) 412 63 (nI (c + 1))
def tOk (c : Nat) (x1 x2 x3 x4 : Int32) : Prop := sIn 100 x1 ∧ sIn 100 x2 ∧ sIn 10 x3 ∧ sIn 100 x4 ∧ c < 30
theorem in10 {y : Int32} : (¬ y < 0 ∧ ¬ 9 < y) ↔ sIn 10 y := in_lt (n := 10) (by decide)
theorem sp_tell {x1 x2 x3 x4 : Int32} {c : Nat} (hc : CR S c) : Ex G mX6_tell 2 [.ref 376, .int x1, .int x2, .int x3, .int x4] S (fun r S1 => (tOk c x1 x2 x3 x4 ∧ r = nI c ∧ S1 = tlS S c x1 x2 x3 x4) ∨ (¬ tOk c x1 x2 x3 x4 ∧ r = -1 ∧ S1 = S)) := by
  have hc30 := hc.2
  have bad : ¬ tOk c x1 x2 x3 x4 → RM G mX6_tell 2 (fun r S1 => (tOk c x1 x2 x3 x4 ∧ r = nI c ∧ S1 = tlS S c x1 x2 x3 x4) ∨ (¬ tOk c x1 x2 x3 x4 ∧ r = -1 ∧ S1 = S)) 36 [some (.ref 376), some (.int x1), some (.int x2), some (.int x3), some (.int x4), none] [] S := fun h => vX6_tell_36 ⟨fun _ => Or.inr ⟨h, rfl, rfl⟩, fun z => absurd rfl z⟩
  refine eX6_tell (vX6_tell_0 ⟨_, sp_cIsHundredth, fun r3 S2 q => ?_⟩)
  obtain ⟨a1, a2⟩ := q
  subst a2
  refine ⟨fun z => bad (fun y => a1.mp z y.1), fun z => ⟨_, sp_cIsHundredth, fun r9 S8 q => ?_⟩⟩
  have g1 := nn_in a1 z
  obtain ⟨b1, b2⟩ := q
  subst b2
  refine ⟨fun z => bad (fun y => b1.mp z y.2.1), fun z => ⟨_, sp_cIsHundredth, fun r15 S14 q => ?_⟩⟩
  have g2 := nn_in b1 z
  obtain ⟨c1, c2⟩ := q
  subst c2
  refine ⟨fun z => bad (fun y => c1.mp z y.2.2.2.1), fun z => ?_⟩
  have g4 := nn_in c1 z
  have hg := ge_iff (x := x3) (n := 10) (by decide)
  refine ⟨fun d => bad (fun y => (hg.mpr y.2.2.1).1 d), fun d => ⟨fun e => bad (fun y => (hg.mpr y.2.2.1).2 e), fun e => ⟨fun z => absurd z (by decide), fun _ => ?_⟩⟩⟩
  have g3 := hg.mp ⟨d, e⟩
  rw [hc.1]
  have hix : (nI c).toNatClampNeg = c := nI_ix (by omega)
  refine ⟨fun f => ?_, fun f => Or.inr ⟨fun y => f ((nI_lt_i (b := 30) (by omega) (by decide)).mpr y.2.2.2.2), rfl, rfl⟩⟩
  have hlt : c < 30 := (nI_lt_i (b := 30) (by omega) (by decide)).mp f
  have hii : vp_in (nI c) 30 := vp_in_nI hlt (by decide)
  rw [hix]
  refine ⟨hii, fun S23 e23 => ?_⟩
  have f23 : S23.1 376 1 = nI c := by rw [e23, stI_row (by decide)]; exact hc.1
  rw [f23, hix]
  refine ⟨hii, fun S24 e24 => ?_⟩
  have f24 : S24.1 376 1 = nI c := by rw [e24, stI_row (by decide)]; exact f23
  rw [f24, hix]
  refine ⟨hii, fun S25 e25 => ?_⟩
  have f25 : S25.1 376 1 = nI c := by rw [e25, stI_row (by decide)]; exact f24
  rw [f25, hix]
  refine ⟨hii, fun S26 e26 => ?_⟩
  have f26 : S26.1 376 1 = nI c := by rw [e26, stI_row (by decide)]; exact f25
  have t26 : S26.1 376 2 = S14.1 376 2 := by rw [e26, stI_row (by decide), e25, stI_row (by decide), e24, stI_row (by decide), e23, stI_row (by decide)]
  rw [f26, hix, t26]
  refine ⟨hii, fun S27 e27 => ?_⟩
  have f27 : S27.1 376 1 = nI c := by rw [e27, stI_row (by decide)]; exact f26
  rw [f27, hix]
  refine ⟨hii, fun S28 e28 S29 e29 => ?_⟩
  have f28 : S28.1 376 1 = nI c := by rw [e28, stI_row (by decide)]; exact f27
  rw [f28, nI_1] at e29
  refine Or.inl ⟨⟨g1, g2, g3, g4, hlt⟩, ?_, ?_⟩
  · rw [e29, stI_1, if_pos rfl, if_pos rfl, nI_pred]
  · rw [e29, e28, e27, e26, e25, e24, e23]
    rfl
theorem sp_mReport {x1 x2 x3 x4 : Int32} {c : Nat} (hc : S.1 412 63 = nI c) (hc30 : c ≤ 30) : Ex G mX12_report 2 [.ref 412, .int x1, .int x2, .int x3, .int x4] S (fun r S1 => (tOk c x1 x2 x3 x4 ∧ r = nI c ∧ S1 = tmS S c x1 x2 x3 x4) ∨ (¬ tOk c x1 x2 x3 x4 ∧ r = -1 ∧ S1 = S)) := by
  have bad : ¬ tOk c x1 x2 x3 x4 → (tOk c x1 x2 x3 x4 ∧ (-1 : Int32) = nI c ∧ S = tmS S c x1 x2 x3 x4) ∨ (¬ tOk c x1 x2 x3 x4 ∧ (-1 : Int32) = -1 ∧ S = S) := fun h => Or.inr ⟨h, rfl, rfl⟩
  refine eX12_report (vX12_report_0 ⟨_, sp_isIn, fun r3 S2 q => ?_⟩)
  obtain ⟨q1, q2⟩ := q
  subst q2
  rw [q1, bI_0, decide_eq_false_iff_not, in100]
  refine ⟨fun z => bad (fun y => z y.1), fun z => ⟨_, sp_isIn, fun r9 S8 q => ?_⟩⟩
  have g1 := Classical.not_not.mp z
  obtain ⟨q1, q2⟩ := q
  subst q2
  rw [q1, bI_0, decide_eq_false_iff_not, in100]
  refine ⟨fun z => bad (fun y => z y.2.1), fun z => ⟨_, sp_isIn, fun r15 S14 q => ?_⟩⟩
  have g2 := Classical.not_not.mp z
  obtain ⟨q1, q2⟩ := q
  subst q2
  rw [q1, bI_0, decide_eq_false_iff_not, in10]
  refine ⟨fun z => bad (fun y => z y.2.2.1), fun z => ⟨_, sp_isIn, fun r21 S20 q => ?_⟩⟩
  have g3 := Classical.not_not.mp z
  obtain ⟨q1, q2⟩ := q
  subst q2
  rw [q1, bI_0, decide_eq_false_iff_not, in100]
  refine ⟨fun z => bad (fun y => z y.2.2.2.1), fun z => ?_⟩
  have g4 := Classical.not_not.mp z
  rw [hc, show (30 : Int32) = nI 30 from rfl, nI_eq_i (by omega) (by decide)]
  refine ⟨fun f => ?_, fun f => bad (fun y => by have := y.2.2.2.2; omega)⟩
  have hlt : c < 30 := by omega
  have hix : (nI c).toNatClampNeg = c := nI_ix (by omega)
  have hii : vp_in (nI c) 30 := vp_in_nI hlt (by decide)
  rw [hix]
  refine ⟨hii, fun S23 e23 => ?_⟩
  have f23 : S23.1 412 63 = nI c := by rw [e23, stI_row (by decide)]; exact hc
  rw [f23, hix]
  refine ⟨hii, fun S24 e24 => ?_⟩
  have f24 : S24.1 412 63 = nI c := by rw [e24, stI_row (by decide)]; exact f23
  rw [f24, hix]
  refine ⟨hii, fun S25 e25 => ?_⟩
  have f25 : S25.1 412 63 = nI c := by rw [e25, stI_row (by decide)]; exact f24
  rw [f25, hix]
  refine ⟨hii, fun S26 e26 => ?_⟩
  have f26 : S26.1 412 63 = nI c := by rw [e26, stI_row (by decide)]; exact f25
  have t26 : S26.1 412 64 = S20.1 412 64 := by rw [e26, stI_row (by decide), e25, stI_row (by decide), e24, stI_row (by decide), e23, stI_row (by decide)]
  rw [f26, hix, t26]
  refine ⟨hii, fun S27 e27 => ?_⟩
  have f27 : S27.1 412 63 = nI c := by rw [e27, stI_row (by decide)]; exact f26
  rw [f27, hix]
  refine ⟨hii, fun S28 e28 S29 e29 => ?_⟩
  have f28 : S28.1 412 63 = nI c := by rw [e28, stI_row (by decide)]; exact f27
  rw [f28, nI_1] at e29
  refine Or.inl ⟨⟨g1, g2, g3, g4, hlt⟩, ?_, ?_⟩
  · rw [e29, stI_1, if_pos rfl, if_pos rfl, nI_pred]
  · rw [e29, e28, e27, e26, e25, e24, e23]
    rfl
theorem pb_report {x1 x2 x3 x4 : Int32} (hI : IC S n m) (hL : Ly S n) : PB G mX11_report 3 [.ref 0, .int x1, .int x2, .int x3, .int x4] mX12_report 2 [.ref 412, .int x1, .int x2, .int x3, .int x4] S := by
  obtain ⟨c, hR⟩ := hI.2.2.2.2.2.2.2.1
  obtain ⟨hc, h63, ⟨t, ht, e2⟩, e64, hrow⟩ := id hR
  have hc30 := hc.2
  refine eX11_report (vX11_report_0 ⟨_, sp_tell hc, fun r S1 q => ?_⟩)
  rcases q with ⟨ok, q1, q2⟩ | ⟨no, q1, q2⟩
  · have g63 : S1.1 412 63 = nI c := by rw [q2]; exact h63
    have g64 : S1.1 412 64 = S.1 376 2 := by rw [q2]; exact e64
    refine Ex.imp (sp_mReport g63 hc30) (fun r2 S2 p => ?_)
    rcases p with ⟨_, p1, p2⟩ | ⟨no, _⟩
    · refine ⟨by rw [p1, q1], n, m, ?_, ?_⟩
      · rw [tmS, g64] at p2
        refine hI.rr (fun k h1 h2 => ?_) (fun j h1 h2 h3 => ?_) ⟨c + 1, ?_⟩
        · have n0 : k ≠ 412 := fun z => by subst z; cases h1
          have n1 : k ≠ 376 := fun z => by subst z; cases h1
          have a1 : k ≠ 377 := fun z => by subst z; cases h2
          have a2 : k ≠ 378 := fun z => by subst z; cases h2
          have a3 : k ≠ 379 := fun z => by subst z; cases h2
          have a4 : k ≠ 380 := fun z => by subst z; cases h2
          have a5 : k ≠ 381 := fun z => by subst z; cases h2
          have a6 : k ≠ 382 := fun z => by subst z; cases h2
          have b1 : k ≠ 434 := fun z => by subst z; cases h2
          have b2 : k ≠ 435 := fun z => by subst z; cases h2
          have b3 : k ≠ 436 := fun z => by subst z; cases h2
          have b4 : k ≠ 437 := fun z => by subst z; cases h2
          have b5 : k ≠ 438 := fun z => by subst z; cases h2
          have b6 : k ≠ 439 := fun z => by subst z; cases h2
          rw [p2, stI_row n0, stI_row b6, stI_row b5, stI_row b4, stI_row b3, stI_row b2, stI_row b1, q2, tlS, stI_row n1, stI_row a6, stI_row a5, stI_row a4, stI_row a3, stI_row a2, stI_row a1]
        · rw [p2, stI_1, if_pos rfl, if_neg h2]
          simp only [stI_row (show (412 : Nat) ≠ 439 by decide), stI_row (show (412 : Nat) ≠ 438 by decide), stI_row (show (412 : Nat) ≠ 437 by decide), stI_row (show (412 : Nat) ≠ 436 by decide), stI_row (show (412 : Nat) ≠ 435 by decide), stI_row (show (412 : Nat) ≠ 434 by decide)]
          rw [q2]
          rfl
        · have row : ∀ (a : Nat), S1.1 a = (tlS S c x1 x2 x3 x4).1 a := fun a => by rw [q2]
          refine ⟨⟨?_, by have := ok.2.2.2.2; omega⟩, ?_, ⟨t, ht, ?_⟩, ?_, fun j hj => ?_⟩
          · rw [p2]
            simp [stI_1, row, tlS]
          · rw [p2]
            simp [stI_1]
          · rw [p2]
            simp [stI_1, row, tlS, e2]
          · rw [p2]
            simp [stI_1, row, tlS]
            exact e64
          · rw [p2]
            by_cases ej : j = c
            · subst ej
              simp [stI_1, row, tlS]
            · obtain ⟨d1, d2, d3, d4, d5, d6, d7⟩ := hrow j (by omega)
              simp only [stI_1, row, tlS]
              simp [ej]
              exact ⟨d1, d2, d3, d4, d5, d6, d7⟩
      · rw [tmS, g64] at p2
        refine hL.cg ?_ ?_ ?_ ?_
        · rw [p2, q2]; rfl
        · rw [p2, q2]; rfl
        · rw [p2, q2]; rfl
        · rw [p2, q2]; rfl
    · exact absurd ok no
  · subst q1 q2
    refine Ex.imp (sp_mReport h63 hc30) (fun r2 S2 p => ?_)
    rcases p with ⟨ok, _⟩ | ⟨_, p1, p2⟩
    · exact absurd ok no
    · rw [p2]
      exact ⟨p1, n, m, hI, hL⟩
end
