/-! ===== acts, undone and done again ===== -/
section
variable {G : ovG} {S : ovS} {n m : Nat}
theorem i40 {u k : Nat} (h : 40 * u + k < 2147483648) : (40 : Int32) * nI u + nI k = nI (40 * u + k) := by
  rw [show (40 : Int32) = nI 40 from rfl, pk_mul, nI_add]
theorem sp_act {u : Nat} (hu : S.1 412 45 = nI u) (hul : u ≤ 40) : Ex G mX12_act 1 [.ref 412] S (fun _ S1 => FJ [430] [45, 46] S S1 ∧ S1.1 412 45 = nI (if u < 40 then u + 1 else 40) ∧ S1.1 412 46 = 0 ∧ (u < 40 → (∀ j, j < u → ∀ k, k < 38 → S1.1 430 (40 * j + k) = S.1 430 (40 * j + k)) ∧ ∀ k, k < 38 → S1.1 430 (40 * u + k) = S.1 426 k) ∧ (u = 40 → (∀ j, j < 39 → ∀ k, k < 38 → S1.1 430 (40 * j + k) = S.1 430 (40 * (j + 1) + k)) ∧ ∀ k, k < 38 → S1.1 430 (40 * 39 + k) = S.1 426 k)) := by
  obtain ⟨Q, hQ⟩ : ∃ Q : Int32 → ovS → Prop, Q = (fun _ S1 => FJ [430] [45, 46] S S1 ∧ S1.1 412 45 = nI (if u < 40 then u + 1 else 40) ∧ S1.1 412 46 = 0 ∧ (u < 40 → (∀ j, j < u → ∀ k, k < 38 → S1.1 430 (40 * j + k) = S.1 430 (40 * j + k)) ∧ ∀ k, k < 38 → S1.1 430 (40 * u + k) = S.1 426 k) ∧ (u = 40 → (∀ j, j < 39 → ∀ k, k < 38 → S1.1 430 (40 * j + k) = S.1 430 (40 * (j + 1) + k)) ∧ ∀ k, k < 38 → S1.1 430 (40 * 39 + k) = S.1 426 k)) := ⟨_, rfl⟩
  rw [← hQ]
  -- the last part: the week is put behind the others
  have key : ∀ v : Nat, v < 40 → ∀ B : ovS, B.1 412 45 = nI v → FJ [430] [45, 46] S B → (∀ S1, FJ [430] [45, 46] S S1 → S1.1 412 45 = nI (v + 1) → S1.1 412 46 = 0 → (∀ x, x < 40 * v → S1.1 430 x = B.1 430 x) → (∀ k, k < 38 → S1.1 430 (40 * v + k) = S.1 426 k) → Q 0 S1) → ∀ d i : Nat, ∀ S' : ovS, i + d = 38 → FJ [430] [45, 46] S S' → S'.1 412 45 = nI v → (∀ x, x < 40 * v → S'.1 430 x = B.1 430 x) → (∀ k, k < i → S'.1 430 (40 * v + k) = S.1 426 k) → RM G mX12_act 1 Q 51 [some (.ref 412), some (.int (nI i))] [] S' := by
    intro v hv B hB hBF hfin d
    induction d with
    | zero =>
      intro i S' hi hF h45 h1 h2
      have : i = 38 := by omega
      subst this
      refine vX12_act_51 ⟨fun _ S2 e2 S3 e3 => ?_, fun c => absurd (by decide) c⟩
      rw [h45, nI_1] at e2
      subst e3 e2
      refine hfin _ ((hF.s4 rfl).s4 rfl) ?_ ?_ (fun x hx => ?_) (fun k hk => ?_)
      · simp [stI_1]
      · simp [stI_1]
      · rw [stI_row (by decide), stI_row (by decide)]
        exact h1 x hx
      · rw [stI_row (by decide), stI_row (by decide)]
        exact h2 k hk
    | succ d ih =>
      intro i S' hi hF h45 h1 h2
      have e40 : (40 : Int32) * S'.1 412 45 + nI i = nI (40 * v + i) := by rw [h45]; exact i40 (by omega)
      refine vX12_act_51 ⟨fun c => absurd ((nI_le_i (a := 38) (by decide) (by omega)).mp c) (by omega), fun _ => ⟨vp_in_nI (by omega) (by decide), ?_⟩⟩
      rw [e40, nI_ix (n := 40 * v + i) (by omega), nI_ix (n := i) (by omega)]
      refine ⟨vp_in_nI (by omega) (by decide), fun S4 e4 => ?_⟩
      subst e4
      have hh := ih (i + 1) (stI S' 430 (40 * v + i) (S'.1 426 i)) (by omega) (hF.st rfl rfl) (by rw [stI_row (by decide)]; exact h45) (fun x hx => ?_) (fun k hk => ?_)
      · rw [nI_succ i] at hh
        exact hh
      · rw [stI_self]
        simp only [upd, if_neg (show ¬ x = 40 * v + i by omega)]
        exact h1 x hx
      · rw [stI_self]
        by_cases e : k = i
        · subst e
          simp only [upd, if_true]
          rw [hF.at 426 rfl]
        · simp only [upd, if_neg (show ¬ 40 * v + k = 40 * v + i by omega)]
          exact h2 k (by omega)
  refine eX12_act (vX12_act_0 ?_)
  rw [hu, show (40 : Int32) = nI 40 from rfl, nI_eq_i (by omega) (by decide)]
  refine ⟨fun c => ?_, fun c => ?_⟩
  · have hlt : u < 40 := by omega
    refine key u hlt S hu FJ.rf (fun S1 g1 g2 g3 g4 g5 => ?_) 38 0 S (by omega) FJ.rf hu (fun _ _ => rfl) (fun k hk => absurd hk (by omega))
    rw [hQ]
    refine ⟨g1, by rw [if_pos hlt]; exact g2, g3, fun _ => ⟨fun j hj k hk => g4 _ (by omega), g5⟩, fun z => absurd z (by omega)⟩
  · subst c
    have sh : ∀ d i : Nat, ∀ S' : ovS, i + d = 1560 → FJ [430] [45, 46] S S' → S'.1 412 45 = nI 40 → (∀ x, x < i → S'.1 430 x = S.1 430 (40 + x)) → (∀ x, i ≤ x → S'.1 430 x = S.1 430 x) → RM G mX12_act 1 Q 11 [some (.ref 412), some (.int (nI i))] [] S' := by
      intro d
      induction d with
      | zero =>
        intro i S' hi hF h45 h1 h2
        have : i = 1560 := by omega
        subst this
        refine vX12_act_11 ⟨fun _ S2 e2 => ?_, fun c => absurd (by decide) c⟩
        rw [h45, show nI 40 - 1 = nI 39 from nI_pred 39] at e2
        have h2' : S2.1 412 45 = nI 39 := by rw [e2, stI_1]; rfl
        have hF2 : FJ [430] [45, 46] S S2 := by rw [e2]; exact hF.s4 rfl
        refine key 39 (by decide) S2 h2' hF2 (fun S1 g1 g2 g3 g4 g5 => ?_) 38 0 S2 (by omega) hF2 h2' (fun _ _ => rfl) (fun k hk => absurd hk (by omega))
        rw [hQ]
        refine ⟨g1, g2, g3, fun z => absurd z (by omega), fun _ => ⟨fun j hj k hk => ?_, g5⟩⟩
        rw [g4 _ (by omega), e2, stI_row (by decide), h1 _ (by omega), show 40 + (40 * j + k) = 40 * (j + 1) + k by omega]
      | succ d ih =>
        intro i S' hi hF h45 h1 h2
        have e40 : (40 : Int32) + nI i = nI (40 + i) := by rw [show (40 : Int32) = nI 40 from rfl, nI_add]
        refine vX12_act_11 ⟨fun c => absurd ((nI_le_i (a := 1560) (by decide) (by omega)).mp c) (by omega), fun _ => ?_⟩
        rw [e40, nI_ix (n := 40 + i) (by omega), nI_ix (n := i) (by omega)]
        refine ⟨vp_in_nI (by omega) (by decide), vp_in_nI (by omega) (by decide), fun S3 e3 => ?_⟩
        subst e3
        have hh := ih (i + 1) (stI S' 430 i (S'.1 430 (40 + i))) (by omega) (hF.st rfl rfl) (by rw [stI_row (by decide)]; exact h45) (fun x hx => ?_) (fun x hx => ?_)
        · rw [nI_succ i] at hh
          exact hh
        · rw [stI_self]
          by_cases e : x = i
          · subst e
            simp only [upd, if_true]
            exact h2 _ (by omega)
          · simp only [upd, if_neg e]
            exact h1 x (by omega)
        · rw [stI_self]
          simp only [upd, if_neg (show ¬ x = i by omega)]
          exact h2 x (by omega)
    exact sh 1560 0 S (by omega) FJ.rf hu (fun x hx => absurd hx (by omega)) (fun _ _ => rfl)
theorem sp_exchange {u : Nat} (hul : u < 40) : Ex G mX12_exchange 1 [.ref 412, .int (nI (40 * u))] S (fun _ S1 => FJ [426, 430] [] S S1 ∧ (∀ k, k < 38 → S1.1 426 k = S.1 430 (40 * u + k)) ∧ (∀ k, k < 38 → S1.1 430 (40 * u + k) = S.1 426 k) ∧ (∀ x, x < 40 * u ∨ 40 * u + 38 ≤ x → S1.1 430 x = S.1 430 x)) := by
  refine eX12_exchange (vX12_exchange_0 ?_)
  have key : ∀ d i : Nat, ∀ S' : ovS, i + d = 38 → FJ [426, 430] [] S S' → (∀ k, k < i → S'.1 426 k = S.1 430 (40 * u + k)) → (∀ k, k < i → S'.1 430 (40 * u + k) = S.1 426 k) → (∀ k, i ≤ k → S'.1 426 k = S.1 426 k) → (∀ x, x < 40 * u ∨ 40 * u + i ≤ x → S'.1 430 x = S.1 430 x) → RM G mX12_exchange 1 (fun _ S1 => FJ [426, 430] [] S S1 ∧ (∀ k, k < 38 → S1.1 426 k = S.1 430 (40 * u + k)) ∧ (∀ k, k < 38 → S1.1 430 (40 * u + k) = S.1 426 k) ∧ (∀ x, x < 40 * u ∨ 40 * u + 38 ≤ x → S1.1 430 x = S.1 430 x)) 2 [some (.ref 412), some (.int (nI (40 * u))), some (.int (nI i)), none] [] S' := by
    intro d
    induction d with
    | zero =>
      intro i S' hi hF h1 h2 h3 h4
      have : i = 38 := by omega
      subst this
      exact vX12_exchange_2 ⟨fun _ => ⟨hF, h1, h2, h4⟩, fun c => absurd (by decide) c⟩
    | succ d ih =>
      intro i S' hi hF h1 h2 h3 h4
      refine vX12_exchange_2 ⟨fun c => absurd ((nI_le_i (a := 38) (by decide) (by omega)).mp c) (by omega), fun _ => ?_⟩
      rw [nI_add, nI_ix (n := 40 * u + i) (by omega), nI_ix (n := i) (by omega)]
      refine ⟨vp_in_nI (by omega) (by decide), vp_in_nI (by omega) (by decide), vp_in_nI (by omega) (by decide), fun S2 e2 => ⟨vp_in_nI (by omega) (by decide), fun S3 e3 => ?_⟩⟩
      have e430 : S'.1 430 (40 * u + i) = S.1 430 (40 * u + i) := h4 _ (by omega)
      have e426 : S'.1 426 i = S.1 426 i := h3 i (by omega)
      rw [e426] at e2
      rw [e430] at e3
      subst e3 e2
      have hh := ih (i + 1) (stI (stI S' 430 (40 * u + i) (S.1 426 i)) 426 i (S.1 430 (40 * u + i))) (by omega) ((hF.st rfl rfl).st rfl rfl) (fun k hk => ?_) (fun k hk => ?_) (fun k hk => ?_) (fun x hx => ?_)
      · rw [nI_succ i] at hh
        exact hh
      · rw [stI_self]
        by_cases e : k = i
        · subst e; simp [upd]
        · simp only [upd, if_neg e]
          rw [stI_row (by decide)]
          exact h1 k (by omega)
      · rw [stI_row (by decide), stI_self]
        by_cases e : k = i
        · subst e; simp [upd]
        · simp only [upd, if_neg (show ¬ 40 * u + k = 40 * u + i by omega)]
          exact h2 k (by omega)
      · rw [stI_self]
        simp only [upd, if_neg (show ¬ k = i by omega)]
        rw [stI_row (by decide)]
        exact h3 k (by omega)
      · rw [stI_row (by decide), stI_self]
        simp only [upd, if_neg (show ¬ x = 40 * u + i by omega)]
        exact h4 x (by omega)
  exact key 38 0 S (by omega) FJ.rf (fun k hk => absurd hk (by omega)) (fun k hk => absurd hk (by omega)) (fun _ _ => rfl) (fun _ _ => rfl)
def HRa (S : ovS) (n a u r : Nat) : Prop := a < 41 ∧ u + r ≤ 40 ∧ S.1 32 2 = nI a ∧ S.1 32 0 = nI u ∧ S.1 32 1 = nI r ∧ S.1 412 45 = nI u ∧ S.1 412 46 = nI r ∧ (∀ k, k < 38 → srow S (34 + 8 * a) k = srow S 24 k) ∧ (∀ j, j < u → ∀ k, k < 38 → srow S (34 + 8 * ((a + 41 - u + j) % 41)) k = S.1 430 (40 * j + k)) ∧ (∀ j, j < r → ∀ k, k < 38 → srow S (34 + 8 * ((a + 1 + j) % 41)) k = S.1 430 (40 * (u + j) + k)) ∧ (∀ j, j < u + r → WS n (fun k => S.1 430 (40 * j + k)))
/-- an ACT on both sides -/
theorem HR.act {S2 : ovS} {a u r : Nat} (h : HRa S n a u r) (hN : ∀ k, k < 38 → S.1 426 k = srow S 24 k) (hW : WS n (srow S 24)) (c1 : ∀ k, k < 38 → srow S2 (34 + 8 * ((a + 1) % 41)) k = srow S2 24 k) (c2 : ∀ b, b < 41 → b ≠ (a + 1) % 41 → srow S2 (34 + 8 * b) = srow S (34 + 8 * b)) (c3 : S2.1 32 2 = nI ((a + 1) % 41)) (c4 : S2.1 32 0 = nI (if u < 40 then u + 1 else 40)) (c5 : S2.1 32 1 = 0) (d1 : S2.1 412 45 = nI (if u < 40 then u + 1 else 40)) (d2 : S2.1 412 46 = 0) (d3 : (u < 40 → (∀ j, j < u → ∀ k, k < 38 → S2.1 430 (40 * j + k) = S.1 430 (40 * j + k)) ∧ ∀ k, k < 38 → S2.1 430 (40 * u + k) = S.1 426 k)) (d4 : u = 40 → (∀ j, j < 39 → ∀ k, k < 38 → S2.1 430 (40 * j + k) = S.1 430 (40 * (j + 1) + k)) ∧ ∀ k, k < 38 → S2.1 430 (40 * 39 + k) = S.1 426 k) : HR S2 n := by
  obtain ⟨g1, g2, g3, g4, g5, g6, g7, g8, g9, g10, g11⟩ := h
  refine ⟨(a + 1) % 41, if u < 40 then u + 1 else 40, 0, Nat.mod_lt _ (by decide), by split <;> omega, c3, c4, c5, d1, d2, c1, ?_, fun j hj => absurd hj (by omega), ?_⟩
  · by_cases hu : u < 40
    · rw [if_pos hu]
      obtain ⟨e1, e2⟩ := d3 hu
      intro j hj k hk
      have em : ((a + 1) % 41 + 41 - (u + 1) + j) % 41 = (a + 41 - u + j) % 41 := by omega
      rw [em]
      by_cases hj2 : j = u
      · subst hj2
        rw [e2 k hk, hN k hk, show (a + 41 - j + j) % 41 = a by omega, c2 a g1 (by omega)]
        exact g8 k hk
      · rw [e1 j (by omega) k hk, c2 _ (Nat.mod_lt _ (by decide)) (by omega)]
        exact g9 j (by omega) k hk
    · rw [if_neg hu]
      have hu40 : u = 40 := by omega
      obtain ⟨e1, e2⟩ := d4 hu40
      subst hu40
      intro j hj k hk
      have em : ((a + 1) % 41 + 41 - 40 + j) % 41 = (a + 2 + j) % 41 := by omega
      rw [em]
      by_cases hj2 : j = 39
      · subst hj2
        rw [e2 k hk, hN k hk, show (a + 2 + 39) % 41 = a by omega, c2 a g1 (by omega)]
        exact g8 k hk
      · rw [e1 j (by omega) k hk, c2 _ (Nat.mod_lt _ (by decide)) (by omega)]
        have := g9 (j + 1) (by omega) k hk
        rw [show (a + 41 - 40 + (j + 1)) % 41 = (a + 2 + j) % 41 by omega] at this
        exact this
  · by_cases hu : u < 40
    · rw [if_pos hu]
      obtain ⟨e1, e2⟩ := d3 hu
      intro j hj
      by_cases hj2 : j = u
      · subst hj2
        refine hW.cg (fun k hk => ?_)
        rw [e2 k hk, hN k hk]
      · exact (g11 j (by omega)).cg (fun k hk => e1 j (by omega) k hk)
    · rw [if_neg hu]
      have hu40 : u = 40 := by omega
      obtain ⟨e1, e2⟩ := d4 hu40
      subst hu40
      intro j hj
      by_cases hj2 : j = 39
      · subst hj2
        refine hW.cg (fun k hk => ?_)
        rw [e2 k hk, hN k hk]
      · exact (g11 (j + 1) (by omega)).cg (fun k hk => e1 j (by omega) k hk)
abbrev HXr : List Nat := [24, 25, 26, 27, 28, 29, 30, 31, 32, 426, 430]
/-- the week, the ring, the reference's week and row are new -/
theorem IC.hist {S2 : ovS} (hI : IC S n m) (hk : ∀ k, SCr.contains k = false → HXr.contains k = false → (k < 34 ∨ 362 ≤ k) → S2.1 k = S.1 k) (hj : ∀ j, JK.contains j = true → j ≠ 45 → j ≠ 46 → S2.1 412 j = S.1 412 j) (h1 : S2.1 376 1 = S.1 376 1) (h2 : S2.1 376 2 = S.1 376 2) (hW : WS n (srow S2 24)) (hN : ∀ k, k < 38 → S2.1 426 k = srow S2 24 k) (hH : HR S2 n) : IC S2 n m := by
  obtain ⟨hM, hD, h34, hU, _, _, hB, ⟨c, hR⟩, hT, hf1, hf2⟩ := hI
  have k16 := hk 16 rfl rfl (by omega)
  have k17 := hk 17 rfl rfl (by omega)
  have k20 := hk 20 rfl rfl (by omega)
  have k21 := hk 21 rfl rfl (by omega)
  have k22 := hk 22 rfl rfl (by omega)
  have j35 := hj 35 rfl (by decide) (by decide)
  have r2 : ∀ b, b < 3 → ∀ j, j < 8 → HXr.contains (388 + 8 * b + j) = false := by decide +kernel
  have r4 : ∀ k, k ∈ RRr → HXr.contains k = false ∧ 362 ≤ k := by decide +kernel
  refine ⟨⟨⟨by rw [k16]; exact hM.1.1, hM.1.2.1, ?_⟩, by rw [j35]; exact hM.2.1, ?_, NW_iff.mpr hN, ?_, ?_, ?_⟩, ?_, ?_, ?_, hW, hH, ?_, ⟨c, ?_⟩, ?_, ?_, ?_⟩
  · obtain ⟨fl, f1, f2, f3⟩ := hM.1.2.2
    exact ⟨fl, by rw [k20]; exact f1, f2, by rw [k21]; exact f3⟩
  · obtain ⟨fl, hf⟩ := hM.2.2.1
    refine ⟨fl, ?_⟩
    unfold FR at hf ⊢
    rw [k20, k21, k22, hk 417 rfl rfl (by omega), hk 418 rfl rfl (by omega), hj 18 rfl (by decide) (by decide), hj 39 rfl (by decide) (by decide)]
    exact hf
  · exact hW.2.1.cg (fun i hi => by rw [sr_c hi])
  · exact hW.1.cg (fun i hi => by rw [sr_b hi])
  · rw [hk 425 rfl rfl (by omega), k17]
    exact hM.2.2.2.2.2.2
  · unfold CD
    rw [k16]
    exact hD
  · rw [hj 34 rfl (by decide) (by decide)]; exact h34
  · rw [k20, hj 21 rfl (by decide) (by decide)]; exact hU
  · exact hB.cg (hk 445 rfl rfl (by omega)) (hk 363 rfl rfl (by omega)) (hk 446 rfl rfl (by omega)) (fun b hb j hj => hk _ (box_nsc b hb j hj) (r2 b hb j hj) (by omega))
  · exact hR.cg (fun k h => hk k (RRr_nsc k h) (r4 k h).1 (Or.inr (r4 k h).2)) h1 h2 (hj 63 rfl (by decide) (by decide)) (hj 64 rfl (by decide) (by decide))
  · exact hT.cg (by rw [hk 0 rfl rfl (by omega)]) (hj 1 rfl (by decide) (by decide)) (hk 413 rfl rfl (by omega)) (hk 1 rfl rfl (by omega))
  · rw [hk 0 rfl rfl (by omega), hj 2 rfl (by decide) (by decide)]; exact hf1
  · rw [hk 0 rfl rfl (by omega), hj 3 rfl (by decide) (by decide)]; exact hf2
end
