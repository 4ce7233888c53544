/-! ===== the reference takes a VILLAGE ===== -/
abbrev Le : List Nat := [412, 414, 415, 416, 417, 418, 419, 422, 423, 424, 425, 426, 445]
def MEnd (S S1 : ovS) (V : pV) : Prop := (∀ k, Le.contains k = false → S1.1 k = S.1 k) ∧ (S1.1 412 34 = nI (V 0 0) ∧ S1.1 412 35 = nI (V 0 1) ∧ S1.1 412 21 = nI (V 0 9) ∧ S1.1 412 39 = nI (V 0 5) ∧ S1.1 412 18 = nI (V 0 8) ∧ S1.1 412 45 = 0 ∧ S1.1 412 46 = 0 ∧ S1.1 412 63 = 0 ∧ S1.1 412 48 = 0 ∧ S1.1 412 1 = 0 ∧ S1.1 412 2 = 0 ∧ S1.1 412 3 = -1 ∧ S1.1 412 64 = S.1 412 64) ∧ (∀ i, i < V 0 8 → S1.1 417 i = nI (mC (V 6 i)) ∧ S1.1 418 i = mA (V 6 i) (V 7 i)) ∧ (∀ i, i < V 0 1 → S1.1 425 i = nI (V 3 i)) ∧ (∀ i, i < 5 → S1.1 426 i = 0 ∧ S1.1 426 (5 + i) = -1 ∧ S1.1 426 (10 + i) = nI (V 5 i) ∧ S1.1 426 (15 + i) = nI (V 4 i) ∧ S1.1 426 (20 + i) = 0 ∧ S1.1 426 (25 + i) = 0 ∧ S1.1 426 (30 + i) = 0) ∧ (S1.1 426 35 = nI (V 0 3) ∧ S1.1 426 36 = nI (V 0 4) ∧ S1.1 426 37 = 0) ∧ ∀ b, b < 3 → S1.1 445 b = 0
section
variable {G : ovG} {S : ovS} {b : Nat → Nat} {t : Nat} {V : pV}
theorem sp_mvTail {S2 : ovS} {Q : Int32 → ovS → Prop} (hV : MV S2 V) (hI : VI V) (h1 : S2.1 412 1 = 0) (h2 : S2.1 412 2 = 0) (h3 : S2.1 412 3 = -1) (hQ : ∀ S1, MEnd S2 S1 V → Q (nI (V 0 1)) S1) : (∀ S7 : ovS, S7 = stI S2 412 34 (S2.1 412 29) → (∀ S8 : ovS, S8 = stI S7 412 35 (S7.1 412 30) → (∀ S9 : ovS, S9 = stI S8 412 21 (S8.1 412 20) → (((S9.1 412 36) = 0 ∨ (S9.1 412 36) = 1) ∧ (∀ S10 : ovS, S10 = stI S9 412 39 (S9.1 412 36) → (((S10.1 412 36) = 0 → (∀ S12 : ovS, S12 = stI S10 412 18 0 → RM G mX12_village 8 Q 66 [some (.ref 412), some (.int 0)] [] S12)) ∧ (¬ (S10.1 412 36) = 0 → (∀ S13 : ovS, S13 = stI S10 412 18 (S10.1 412 17) → RM G mX12_village 8 Q 66 [some (.ref 412), some (.int 0)] [] S13)))))))) := by
  have hn5 := hI.1.2.1
  have h51 := hI.1.2.2.2.2.2.1
  have hlen : V 0 8 ≤ 290 := by
    rcases Nat.eq_zero_or_pos (V 0 5) with z | z
    · have := (hI.2.2.2.2.1 z).1
      omega
    · exact (hI.2.2.2.2.2 (by omega)).2.2.1
  intro S7 e7 S8 e8 S9 e9
  rw [hV.1.1] at e7
  have s7 : ∀ j, S7.1 412 j = if j = 34 then nI (V 0 0) else S2.1 412 j := fun j => by rw [e7, stI_1, if_pos rfl]
  rw [s7 30, if_neg (by decide), hV.1.2.1] at e8
  have s8 : ∀ j, S8.1 412 j = if j = 35 then nI (V 0 1) else S7.1 412 j := fun j => by rw [e8, stI_1, if_pos rfl]
  rw [s8 20, if_neg (by decide), s7 20, if_neg (by decide), hV.1.2.2.2.2.2.2.2.2] at e9
  have s9 : ∀ j, S9.1 412 j = if j = 21 then nI (V 0 9) else S8.1 412 j := fun j => by rw [e9, stI_1, if_pos rfl]
  have e36 : S9.1 412 36 = nI (V 0 5) := by rw [s9 36, if_neg (by decide), s8 36, if_neg (by decide), s7 36, if_neg (by decide)]; exact hV.1.2.2.2.2.2.1
  rw [e36]
  refine ⟨?_, fun S10 e10 => ?_⟩
  · have : V 0 5 = 0 ∨ V 0 5 = 1 := by omega
    rcases this with z | z <;> rw [z]
    · exact Or.inl rfl
    · exact Or.inr rfl
  have s10 : ∀ j, S10.1 412 j = if j = 39 then nI (V 0 5) else S9.1 412 j := fun j => by rw [e10, stI_1, if_pos rfl]
  have r10 : ∀ k, k ≠ 412 → S10.1 k = S2.1 k := fun k hk => by rw [e10, stI_row hk, e9, stI_row hk, e8, stI_row hk, e7, stI_row hk]
  have e36' : S10.1 412 36 = nI (V 0 5) := by rw [s10 36, if_neg (by decide)]; exact e36
  have e17' : S10.1 412 17 = nI (V 0 8) := by rw [s10 17, if_neg (by decide), s9 17, if_neg (by decide), s8 17, if_neg (by decide), s7 17, if_neg (by decide)]; exact hV.2.1.1
  rw [e36', e17', show (0 : Int32) = nI 0 from rfl, nI_eq_i (by omega) (by decide)]
  -- what the numbers are, from here on
  have go : ∀ S13 : ovS, S13 = stI S10 412 18 (nI (V 0 8)) → RM G mX12_village 8 Q 66 [some (.ref 412), some (.int (nI 0))] [] S13 := by
    intro S13 e13
    have s13 : ∀ j, S13.1 412 j = if j = 18 then nI (V 0 8) else S10.1 412 j := fun j => by rw [e13, stI_1, if_pos rfl]
    have r13 : ∀ k, k ≠ 412 → S13.1 k = S2.1 k := fun k hk => by rw [e13, stI_row hk, r10 k hk]
    have t34 : S13.1 412 34 = nI (V 0 0) := by rw [s13, if_neg (by decide), s10, if_neg (by decide), s9, if_neg (by decide), s8, if_neg (by decide), s7, if_pos rfl]
    have t35 : S13.1 412 35 = nI (V 0 1) := by rw [s13, if_neg (by decide), s10, if_neg (by decide), s9, if_neg (by decide), s8, if_pos rfl]
    have t21 : S13.1 412 21 = nI (V 0 9) := by rw [s13, if_neg (by decide), s10, if_neg (by decide), s9, if_pos rfl]
    have t39 : S13.1 412 39 = nI (V 0 5) := by rw [s13, if_neg (by decide), s10, if_pos rfl]
    have t18 : S13.1 412 18 = nI (V 0 8) := by rw [s13, if_pos rfl]
    have tt : ∀ j, j ≠ 18 → j ≠ 39 → j ≠ 21 → j ≠ 35 → j ≠ 34 → S13.1 412 j = S2.1 412 j := fun j a b c d e => by rw [s13, if_neg a, s10, if_neg b, s9, if_neg c, s8, if_neg d, s7, if_neg e]
    clear s13 e13
    -- boxes
    have k257 : ∀ k i : Nat, ∀ S' S0 : ovS, i + k = 3 → Fr [445] S0 S' → (∀ b, b < i → S'.1 445 b = 0) → (∀ S1, Fr [445] S0 S1 → (∀ b, b < 3 → S1.1 445 b = 0) → Q (S1.1 412 35) S1) → RM G mX12_village 8 Q 257 [some (.ref 412), some (.int (nI i))] [] S' := by
      intro k
      induction k with
      | zero =>
        intro i S' S0 hi hF hb hq
        have : i = 3 := by omega
        subst this
        exact vX12_village_257 ⟨fun _ => hq S' hF hb, fun z => absurd (by decide) z⟩
      | succ k ih =>
        intro i S' S0 hi hF hb hq
        refine vX12_village_257 ⟨fun z => absurd ((nI_le_i (a := 3) (by decide) (by omega)).mp z) (by omega), fun _ => ⟨vp_in_nI (by omega) (by decide), fun T e => ?_⟩⟩
        rw [nI_ix (by omega)] at e
        have go := ih (i + 1) T S0 (by omega) (by rw [e]; exact hF.st rfl) (fun b hb' => ?_) hq
        · rw [nI_succ i] at go
          exact go
        · rw [e, stI_1, if_pos rfl]
          by_cases c : b = i
          · rw [if_pos c]; rfl
          · rw [if_neg c]
            exact hb b (by omega)
    -- souls
    have k127 : ∀ k i : Nat, ∀ S' : ovS, i + k = 5 → Fr [417, 418, 425, 426] S13 S' → (∀ i, i < V 0 8 → S'.1 417 i = nI (mC (V 6 i)) ∧ S'.1 418 i = mA (V 6 i) (V 7 i)) → (∀ j, j < i → S'.1 425 j = S2.1 422 j ∧ S'.1 426 (5 + j) = -1 ∧ S'.1 426 (10 + j) = nI (V 5 j) ∧ S'.1 426 (15 + j) = nI (V 4 j)) → (∀ j, j < 38 → (j < 5 ∨ 20 ≤ j) → S'.1 426 j = 0) → RM G mX12_village 8 Q 127 [some (.ref 412), some (.int (nI i))] [] S' := by
      intro k
      induction k with
      | zero =>
        intro i S' hi hF hst hs hz
        have : i = 5 := by omega
        subst this
        refine vX12_village_127 ⟨fun _ S20 e20 S21 e21 S22 e22 S23 e23 S24 e24 S25 e25 => ?_, fun z => absurd (by decide) z⟩
        have a32 : S'.1 412 32 = nI (V 0 3) := by rw [hF.at 412 rfl, tt 32 (by decide) (by decide) (by decide) (by decide) (by decide)]; exact hV.1.2.2.2.1
        have a33 : S20.1 412 33 = nI (V 0 4) := by rw [e20, stI_row (by decide), hF.at 412 rfl, tt 33 (by decide) (by decide) (by decide) (by decide) (by decide)]; exact hV.1.2.2.2.2.1
        rw [a32] at e20
        rw [a33] at e21
        refine k257 3 0 S25 S25 (by omega) Fr.rf (fun b hb => absurd hb (by omega)) (fun S1 f1 f2 => ?_)
        have q412 : ∀ j, S1.1 412 j = if j = 48 then 0 else if j = 63 then 0 else if j = 46 then 0 else if j = 45 then 0 else S13.1 412 j := fun j => by
          rw [f1.at 412 rfl, e25, stI_1, if_pos rfl, e24, stI_1, if_pos rfl, e23, stI_1, if_pos rfl, e22, stI_1, if_pos rfl, e21, stI_row (by decide), e20, stI_row (by decide), hF.at 412 rfl]
        have q426 : ∀ j, S1.1 426 j = if j = 36 then nI (V 0 4) else if j = 35 then nI (V 0 3) else S'.1 426 j := fun j => by
          rw [f1.at 426 rfl, e25, stI_row (by decide), e24, stI_row (by decide), e23, stI_row (by decide), e22, stI_row (by decide), e21, stI_1, if_pos rfl, e20, stI_1, if_pos rfl]
        have qr : ∀ k, k ≠ 445 → k ≠ 412 → k ≠ 426 → S1.1 k = S'.1 k := fun k h1 h2 h3 => by
          rw [f1.1 k (by simp [h1]), e25, stI_row h2, e24, stI_row h2, e23, stI_row h2, e22, stI_row h2, e21, stI_row h3, e20, stI_row h3]
        have e35 : S1.1 412 35 = nI (V 0 1) := by rw [q412, if_neg (by decide), if_neg (by decide), if_neg (by decide), if_neg (by decide)]; exact t35
        rw [e35]
        refine hQ S1 ⟨fun k hk => ?_, ⟨?_, e35, ?_, ?_, ?_, ?_, ?_, ?_, ?_, ?_, ?_, ?_, ?_⟩, fun i hi => ?_, fun i hi => ?_, fun i hi => ?_, ⟨?_, ?_, ?_⟩, f2⟩
        · have hne : k ≠ 412 ∧ k ≠ 445 ∧ k ≠ 426 ∧ k ≠ 417 ∧ k ≠ 418 ∧ k ≠ 425 := by
            refine ⟨?_, ?_, ?_, ?_, ?_, ?_⟩ <;> (intro e; subst e; cases hk)
          rw [qr k hne.2.1 hne.1 hne.2.2.1, hF.1 k (by simp [hne.2.2.1, hne.2.2.2.1, hne.2.2.2.2.1, hne.2.2.2.2.2]), r13 k hne.1]
        · rw [q412, if_neg (by decide), if_neg (by decide), if_neg (by decide), if_neg (by decide)]; exact t34
        · rw [q412, if_neg (by decide), if_neg (by decide), if_neg (by decide), if_neg (by decide)]; exact t21
        · rw [q412, if_neg (by decide), if_neg (by decide), if_neg (by decide), if_neg (by decide)]; exact t39
        · rw [q412, if_neg (by decide), if_neg (by decide), if_neg (by decide), if_neg (by decide)]; exact t18
        · rw [q412]; rfl
        · rw [q412]; rfl
        · rw [q412]; rfl
        · rw [q412]; rfl
        · rw [q412, if_neg (by decide), if_neg (by decide), if_neg (by decide), if_neg (by decide), tt 1 (by decide) (by decide) (by decide) (by decide) (by decide)]; exact h1
        · rw [q412, if_neg (by decide), if_neg (by decide), if_neg (by decide), if_neg (by decide), tt 2 (by decide) (by decide) (by decide) (by decide) (by decide)]; exact h2
        · rw [q412, if_neg (by decide), if_neg (by decide), if_neg (by decide), if_neg (by decide), tt 3 (by decide) (by decide) (by decide) (by decide) (by decide)]; exact h3
        · rw [q412, if_neg (by decide), if_neg (by decide), if_neg (by decide), if_neg (by decide), tt 64 (by decide) (by decide) (by decide) (by decide) (by decide)]
        · rw [qr 417 (by decide) (by decide) (by decide), qr 418 (by decide) (by decide) (by decide)]
          exact hst i hi
        · rw [qr 425 (by decide) (by decide) (by decide), (hs i (by omega)).1]
          exact (hV.2.2.2.2 i hi).1
        · have h := hs i hi
          have n : ∀ j, j < 35 → S1.1 426 j = S'.1 426 j := fun j hj => by rw [q426, if_neg (by omega), if_neg (by omega)]
          rw [n i (by omega), n (5 + i) (by omega), n (10 + i) (by omega), n (15 + i) (by omega), n (20 + i) (by omega), n (25 + i) (by omega), n (30 + i) (by omega)]
          exact ⟨hz i (by omega) (by omega), h.2.1, h.2.2.1, h.2.2.2, hz _ (by omega) (by omega), hz _ (by omega) (by omega), hz _ (by omega) (by omega)⟩
        · rw [q426, if_neg (by decide), if_pos rfl]
        · rw [q426, if_pos rfl]
        · rw [q426, if_neg (by decide), if_neg (by decide)]
          exact hz 37 (by decide) (by decide)
      | succ k ih =>
        intro i S' hi hF hst hs hz
        have i5 : vp_in (nI i) 5 := vp_in_nI (by omega) (by decide)
        have a5 : ∀ a, a ≤ 15 → (nI a + nI i).toNatClampNeg = a + i := fun a ha => ix_add (by omega)
        have b5 : ∀ a, a ≤ 15 → vp_in (nI a + nI i) 40 := fun a ha => in_add (by omega) (by decide)
        have hz5 : V 0 1 ≤ i → V 4 i = 0 ∧ V 5 i = 0 := fun h => ((hI.2.1 i (by omega)).2.2 h).2
        refine vX12_village_127 ⟨fun z => absurd ((nI_le_i (a := 5) (by decide) (by omega)).mp z) (by omega), fun _ => ⟨i5, i5, fun S30 e30 => ⟨b5 5 (by decide), fun S31 e31 => ?_⟩⟩⟩
        rw [nI_ix (n := i) (by omega), hF.at 422 rfl, r13 422 (by decide)] at e30
        rw [show (5 : Int32) = nI 5 from rfl, a5 5 (by decide)] at e31
        have hF31 : Fr [417, 418, 425, 426] S13 S31 := by rw [e31, e30]; exact (hF.st rfl).st rfl
        -- the end of this soul
        have nxt : ∀ (x y : Int32) (S33 : ovS), x = nI (V 5 i) → y = nI (V 4 i) → S33 = stI (stI S31 426 (10 + i) x) 426 (15 + i) y → RM G mX12_village 8 Q 127 [some (.ref 412), some (.int (nI i + 1))] [] S33 := by
          intro x y S33 hx hy e33
          have q : ∀ j, S33.1 426 j = if j = 15 + i then y else if j = 10 + i then x else if j = 5 + i then -1 else S'.1 426 j := fun j => by
            rw [e33, stI_1, if_pos rfl, stI_1, if_pos rfl, e31, stI_1, if_pos rfl, e30, stI_row (by decide)]
          have q25 : ∀ j, S33.1 425 j = if j = i then S2.1 422 i else S'.1 425 j := fun j => by
            rw [e33, stI_row (by decide), stI_row (by decide), e31, stI_row (by decide), e30, stI_1, if_pos rfl]
          have go := ih (i + 1) S33 (by omega) (by rw [e33]; exact (hF31.st rfl).st rfl) (fun j hj => ?_) (fun j hj => ?_) (fun j hj hj2 => ?_)
          · rw [nI_succ i] at go
            exact go
          · rw [e33, stI_row (a := 417) (by decide), stI_row (a := 417) (by decide), stI_row (a := 418) (by decide), stI_row (a := 418) (by decide), e31, stI_row (a := 417) (by decide), stI_row (a := 418) (by decide), e30, stI_row (a := 417) (by decide), stI_row (a := 418) (by decide)]
            exact hst j hj
          · rw [q25, q, q, q]
            by_cases c : j = i
            · subst c
              rw [if_pos rfl, if_neg (by omega), if_neg (by omega), if_pos rfl, if_neg (by omega), if_pos rfl, if_pos rfl]
              exact ⟨rfl, rfl, hx, hy⟩
            · have h := hs j (by omega)
              rw [if_neg c, if_neg (by omega), if_neg (by omega), if_neg (by omega), if_neg (by omega), if_neg (by omega), if_neg (by omega), if_neg (by omega), if_neg (by omega), if_neg (by omega)]
              exact h
          · rw [q, if_neg (by omega), if_neg (by omega), if_neg (by omega)]
            exact hz j hj hj2
        have c35 : S31.1 412 35 = nI (V 0 1) := by rw [hF31.at 412 rfl]; exact t35
        rw [c35, nI_le_i (by omega) (by omega), show (10 : Int32) = nI 10 from rfl, show (15 : Int32) = nI 15 from rfl, a5 10 (by decide), a5 15 (by decide)]
        refine ⟨fun c => ⟨b5 10 (by decide), fun S32 e32 => ?_⟩, fun c => ⟨i5, b5 10 (by decide), fun S32 e32 => ?_⟩⟩
        · have d35 : S32.1 412 35 = nI (V 0 1) := by rw [e32, stI_row (by decide)]; exact c35
          rw [d35, nI_le_i (by omega) (by omega)]
          refine ⟨fun _ => ⟨b5 15 (by decide), fun S33 e33 => ?_⟩, fun d => absurd c d⟩
          rw [e32] at e33
          have hz' := hz5 c
          exact nxt 0 0 S33 (by rw [hz'.2]; rfl) (by rw [hz'.1]; rfl) e33
        · have d35 : S32.1 412 35 = nI (V 0 1) := by rw [e32, stI_row (by decide)]; exact c35
          rw [d35, nI_le_i (by omega) (by omega)]
          refine ⟨fun d => absurd d c, fun _ => ⟨i5, b5 15 (by decide), fun S33 e33 => ?_⟩⟩
          have hv := hV.2.2.2.2 i (by omega)
          have e424 : S31.1 424 i = nI (V 5 i) := by rw [hF31.at 424 rfl, r13 424 (by decide)]; exact hv.2.2
          rw [nI_ix (n := i) (by omega), e424] at e32
          have e423 : S32.1 423 i = nI (V 4 i) := by rw [e32, stI_row (by decide), hF31.at 423 rfl, r13 423 (by decide)]; exact hv.2.1
          rw [nI_ix (n := i) (by omega), e423, e32] at e33
          exact nxt _ _ S33 rfl rfl e33
    have k106 : ∀ k i : Nat, ∀ S' : ovS, i + k = 38 → Fr [417, 418, 426] S13 S' → (∀ i, i < V 0 8 → S'.1 417 i = nI (mC (V 6 i)) ∧ S'.1 418 i = mA (V 6 i) (V 7 i)) → (∀ j, j < i → S'.1 426 j = 0) → RM G mX12_village 8 Q 106 [some (.ref 412), some (.int (nI i))] [] S' := by
      intro k
      induction k with
      | zero =>
        intro i S' hi hF hst hz
        have : i = 38 := by omega
        subst this
        exact vX12_village_106 ⟨fun _ => k127 5 0 S' (by omega) (hF.mono rfl) hst (fun j hj => absurd hj (by omega)) (fun j hj _ => hz j hj), fun z => absurd (by decide) z⟩
      | succ k ih =>
        intro i S' hi hF hst hz
        refine vX12_village_106 ⟨fun z => absurd ((nI_le_i (a := 38) (by decide) (by omega)).mp z) (by omega), fun _ => ⟨vp_in_nI (by omega) (by decide), fun T e => ?_⟩⟩
        rw [nI_ix (by omega)] at e
        have go := ih (i + 1) T (by omega) (by rw [e]; exact hF.st rfl) (fun j hj => by rw [e, stI_row (a := 417) (by decide), stI_row (a := 418) (by decide)]; exact hst j hj) (fun j hj => ?_)
        · rw [nI_succ i] at go
          exact go
        · rw [e, stI_1, if_pos rfl]
          by_cases c : j = i
          · rw [if_pos c]
          · rw [if_neg c]
            exact hz j (by omega)
    have k66 : ∀ k i : Nat, ∀ S' : ovS, i + k = V 0 8 → Fr [417, 418] S13 S' → (∀ j, j < i → S'.1 417 j = nI (mC (V 6 j)) ∧ S'.1 418 j = mA (V 6 j) (V 7 j)) → RM G mX12_village 8 Q 66 [some (.ref 412), some (.int (nI i))] [] S' := by
      intro k
      induction k with
      | zero =>
        intro i S' hi hF hst
        have : i = V 0 8 := by omega
        subst this
        refine vX12_village_66 ⟨fun _ => k106 38 0 S' (by omega) (hF.mono rfl) hst (fun j hj => absurd hj (by omega)), fun z => absurd ?_ z⟩
        rw [hF.at 412 rfl, t18]
        exact Int32.le_refl _
      | succ k ih =>
        intro i S' hi hF hst
        have i320 : vp_in (nI i) 320 := vp_in_nI (by omega) (by decide)
        refine vX12_village_66 ⟨fun z => absurd z (nI_next (by rw [hF.at 412 rfl]; exact t18) (by omega) (by omega)), fun _ => ⟨i320, i320, fun T e => ⟨i320, i320, fun U e2 => ?_⟩⟩⟩
        rw [nI_ix (by omega)] at e e2
        have v := hV.2.1.2 i (by omega)
        have e415 : S'.1 415 i = nI (mC (V 6 i)) := by rw [hF.at 415 rfl, r13 415 (by decide)]; exact v.1
        have e416 : T.1 416 i = mA (V 6 i) (V 7 i) := by rw [e, stI_row (by decide), hF.at 416 rfl, r13 416 (by decide)]; exact v.2
        rw [e415] at e
        rw [e416] at e2
        have go := ih (i + 1) U (by omega) (by rw [e2, e]; exact (hF.st rfl).st rfl) (fun j hj => ?_)
        · rw [nI_succ i] at go
          exact go
        · rw [e2, stI_row (a := 417) (by decide), stI_1, if_pos rfl, e, stI_1, if_pos rfl, stI_row (a := 418) (by decide)]
          by_cases c : j = i
          · rw [if_pos c, if_pos c, c]
            exact ⟨rfl, rfl⟩
          · rw [if_neg c, if_neg c]
            exact hst j (by omega)
    exact k66 (V 0 8) 0 S13 (by omega) Fr.rf (fun j hj => absurd hj (by omega))
  refine ⟨fun z S12 e12 => go S12 ?_, fun z S13 e13 => go S13 e13⟩
  rw [e12, (hI.2.2.2.2.1 z).1]
theorem sp_mVillage (hb : ∀ i, i < t → b i < 256) (ht : t ≤ 1600) (h1 : S.1 412 1 = nI t) (hT : ∀ i, i < t → S.1 413 i = nI (b i)) {Q : Int32 → ovS → Prop} (hL : ∀ e S1, lnA b t t V0 0 = .inl e → FZ Lz Ja S S1 → S1.1 412 1 = 0 → FLm e S1 → Q (-1) S1) (hR : ∀ V S2 S1, lnA b t t V0 0 = .inr V → FZ Lz Ja S S2 → MEnd S2 S1 V → Q (nI (V 0 1)) S1) : Ex G mX12_village 8 [.ref 412] S Q := by
  refine eX12_village (vX12_village_0 ⟨_, sp_readAll hb ht h1 hT, fun r3 S2 g => ?_⟩)
  obtain ⟨g1, g2, g3⟩ := g
  cases hA : lnA b t t V0 0 with
  | inl e =>
    rw [hA] at g3
    exact ⟨fun z => absurd z (FLm.nl g3), fun _ => hL e S2 hA g1 g2 g3⟩
  | inr V =>
    rw [hA] at g3
    obtain ⟨k1, k2, k3⟩ := g3
    have hI := lnA_ok t V0 0 V (Nat.zero_le _) VI_0 hA
    exact ⟨fun _ => sp_mvTail k3 hI g2 k1 k2 (fun S1 hE => hR V S2 S1 hA g1 hE), fun z => absurd (z_le k1) z⟩
end
