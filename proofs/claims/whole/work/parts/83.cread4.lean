/-! ===== lines leave a VILLAGE that can be ===== -/
section
variable {b : Nat → Nat} {t q : Nat} {V V1 : pV} {q1 : Nat}
theorem sc_ok {V' : pV} {q' : Nat} (hq : q' ≤ t) (h : scL b t V' q' = .inr (V1, q1)) : V1 = V' ∧ q' < q1 ∧ q1 ≤ t := by
  unfold scL at h
  split at h
  · next c =>
    simp only [Sum.inr.injEq, Prod.mk.injEq] at h
    have := tE_lo (b := b) (t := t) (q := q') (by omega)
    have h2 := tE_hi (b := b) hq
    exact ⟨h.1.symm, by omega, by omega⟩
  · cases h
theorem nu_ok {m : Nat} {k : Nat → Nat → pR} (hq : q ≤ t) (h : nuL b t q m k = .inr (V1, q1)) : tN b t q ≤ m ∧ k (tN b t q) (tE b t q) = .inr (V1, q1) ∧ q < tE b t q ∧ tE b t q ≤ t := by
  unfold nuL at h
  split at h
  · cases h
  · next c =>
    split at h
    · cases h
    · next d =>
      have c' := Classical.not_not.mp c
      exact ⟨by omega, h, tE_lo (by omega), tE_hi hq⟩
theorem VI.deed {w : Nat} (hI : VI V) (hn : V 0 0 < 5) (hw : ¬ fndI (V 1) w (V 0 0) < V 0 0) : VI (upV (upV V 1 (V 0 0) w) 0 0 (V 0 0 + 1)) := by
  have v0 : ∀ j, j ≠ 0 → upV (upV V 1 (V 0 0) w) 0 0 (V 0 0 + 1) 0 j = V 0 j := fun j hj => by rw [upV_ne hj, upV_row (by decide)]
  have v00 : upV (upV V 1 (V 0 0) w) 0 0 (V 0 0 + 1) 0 0 = V 0 0 + 1 := upV_at
  have v1 : ∀ i, upV (upV V 1 (V 0 0) w) 0 0 (V 0 0 + 1) 1 i = if i = V 0 0 then w else V 1 i := fun i => by
    rw [upV_row (by decide)]
    simp [upV]
  have vr : ∀ r, r ≠ 0 → r ≠ 1 → upV (upV V 1 (V 0 0) w) 0 0 (V 0 0 + 1) r = V r := fun r h0 hh => by rw [upV_row h0, upV_row hh]
  generalize upV (upV V 1 (V 0 0) w) 0 0 (V 0 0 + 1) = V' at *
  obtain ⟨⟨a0, a1, a2, a3, a4, a5, a6, a7⟩, g1, g2, ⟨g3, g4⟩, g5, g6⟩ := hI
  unfold VI
  rw [v00, v0 1 (by decide), v0 2 (by decide), v0 3 (by decide), v0 4 (by decide), v0 5 (by decide), v0 6 (by decide), v0 7 (by decide), v0 8 (by decide), v0 9 (by decide), vr 2 (by decide) (by decide), vr 3 (by decide) (by decide), vr 4 (by decide) (by decide), vr 5 (by decide) (by decide), vr 6 (by decide) (by decide), vr 7 (by decide) (by decide)]
  refine ⟨⟨by omega, a1, a2, a3, a4, a5, a6, a7⟩, g1, g2, ⟨fun i j hij hj => ?_, g4⟩, g5, g6⟩
  rw [v1, v1]
  by_cases c : j = V 0 0
  · rw [if_pos c, if_neg (by omega)]
    intro z
    have hi : i < V 0 0 := by omega
    have hle := fnd_le (f := V 1) (w := w) (V 0 0)
    exact fnd_no (f := V 1) (w := w) i hi (by omega) z
  · rw [if_neg c, if_neg (by omega)]
    exact g3 i j hij (by omega)
theorem VI.soul {w x y : Nat} (hI : VI V) (hn : V 0 1 < 5) (hw : ¬ fndI (V 2) w (V 0 1) < V 0 1) (hx : x ≤ 99) (hy : y ≤ 99) : VI (upV (upV (upV (upV (upV V 2 (V 0 1) w) 0 1 (V 0 1 + 1)) 3 (V 0 1) x) 4 (V 0 1) y) 5 (V 0 1) 0) := by
  generalize hs : V 0 1 = s at *
  obtain ⟨V', hV'⟩ : ∃ V', V' = upV (upV (upV (upV (upV V 2 s w) 0 1 (s + 1)) 3 s x) 4 s y) 5 s 0 := ⟨_, rfl⟩
  rw [← hV']
  have v0 : ∀ j, j ≠ 1 → V' 0 j = V 0 j := fun j hj => by rw [hV', upV_row (by decide), upV_row (by decide), upV_row (by decide), upV_ne hj, upV_row (by decide)]
  have v01 : V' 0 1 = s + 1 := by rw [hV', upV_row (by decide), upV_row (by decide), upV_row (by decide), upV_at]
  have v2 : ∀ i, V' 2 i = if i = s then w else V 2 i := fun i => by
    rw [hV', upV_row (by decide), upV_row (by decide), upV_row (by decide), upV_row (by decide)]
    simp [upV]
  have v3 : ∀ i, V' 3 i = if i = s then x else V 3 i := fun i => by
    rw [hV', upV_row (by decide), upV_row (by decide)]
    simp [upV]
  have v4 : ∀ i, V' 4 i = if i = s then y else V 4 i := fun i => by
    rw [hV', upV_row (by decide)]
    simp [upV]
  have v5 : ∀ i, V' 5 i = if i = s then 0 else V 5 i := fun i => by
    rw [hV']
    simp [upV]
  have vr : ∀ r, r ≠ 0 → r ≠ 2 → r ≠ 3 → r ≠ 4 → r ≠ 5 → V' r = V r := fun r h0 h2 h3 h4 h5 => by rw [hV', upV_row h5, upV_row h4, upV_row h3, upV_row h0, upV_row h2]
  clear hV'
  obtain ⟨⟨a0, a1, a2, a3, a4, a5, a6, a7⟩, g1, ⟨g2a, g2b, g2c⟩, ⟨g3, g4⟩, g5, g6⟩ := hI
  rw [hs] at a1 g1 g2a g4
  have z5 : V 5 s = 0 := ((g1 s (by omega)).2.2 (Nat.le_refl _)).2.2
  have v5' : ∀ i, V' 5 i = V 5 i := fun i => by
    rw [v5]
    split
    · next e => rw [e, z5]
    · rfl
  unfold VI
  rw [v0 0 (by decide), v01, v0 2 (by decide), v0 3 (by decide), v0 4 (by decide), v0 5 (by decide), v0 6 (by decide), v0 7 (by decide), v0 8 (by decide), v0 9 (by decide), vr 1 (by decide) (by decide) (by decide) (by decide) (by decide), vr 6 (by decide) (by decide) (by decide) (by decide) (by decide), vr 7 (by decide) (by decide) (by decide) (by decide) (by decide)]
  refine ⟨⟨a0, by omega, a2, a3, a4, a5, a6, a7⟩, fun i hi => ?_, ⟨fun i hi => ?_, fun i j hi hj => ?_, fun i hi => ?_⟩, ⟨g3, fun i j hij hj => ?_⟩, g5, g6⟩
  · rw [v3, v4, v5']
    have := g1 i hi
    by_cases e : i = s
    · rw [if_pos e, if_pos e]
      exact ⟨hx, hy, fun z => absurd z (by omega)⟩
    · rw [if_neg e, if_neg e]
      exact ⟨this.1, this.2.1, fun z => this.2.2 (by omega)⟩
  · rw [v5', Nat.pow_succ]
    have := g2a i hi
    omega
  · rw [v5', v5']
    exact g2b i j hi hj
  · rw [v5']
    exact g2c i hi
  · rw [v2, v2]
    by_cases c : j = s
    · rw [if_pos c, if_neg (by omega)]
      intro z
      have hle := fnd_le (f := V 2) (w := w) s
      exact fnd_no (f := V 2) (w := w) (n := s) i (by omega) (by omega) z
    · rw [if_neg c, if_neg (by omega)]
      exact g4 i j hij (by omega)
theorem VI.feud {a c : Nat} (hI : VI V) (hf : V 0 2 < 10) (ha : a < V 0 1) (hc : c < V 0 1) (hne : ¬ a = c) : VI (feV V a c) := by
  have hn5 := hI.1.2.1
  obtain ⟨V', hV'⟩ : ∃ V', V' = feV V a c := ⟨_, rfl⟩
  rw [← hV']
  unfold feV at hV'
  have v0 : ∀ j, j ≠ 2 → V' 0 j = V 0 j := fun j hj => by rw [hV', upV_ne hj, upV_row (by decide), upV_row (by decide)]
  have v02 : V' 0 2 = V 0 2 + 1 := by rw [hV', upV_at]
  have v5 : ∀ i, V' 5 i = if i = c then V 5 c ||| 2 ^ a else if i = a then V 5 a ||| 2 ^ c else V 5 i := fun i => by
    have hne' : ¬ c = a := fun z => hne z.symm
    rw [hV', upV_row (by decide)]
    simp [upV, hne']
  have vr : ∀ r, r ≠ 0 → r ≠ 5 → V' r = V r := fun r h0 h5 => by rw [hV', upV_row h0, upV_row h5, upV_row h5]
  clear hV'
  obtain ⟨⟨a0, a1, a2, a3, a4, a5, a6, a7⟩, g1, ⟨g2a, g2b, g2c⟩, g3, g5, g6⟩ := hI
  have tb : ∀ i, i < 5 → ∀ j, (V' 5 i).testBit j = ((V 5 i).testBit j || (decide (i = c) && decide (j = a)) || (decide (i = a) && decide (j = c))) := by
    intro i hi j
    rw [v5]
    by_cases e1 : i = c
    · have e2 : ¬ i = a := by omega
      subst e1
      rw [if_pos rfl, Nat.testBit_or, Nat.testBit_two_pow]
      have ea : decide (a = j) = decide (j = a) := by
        by_cases z : j = a
        · simp [z]
        · have : ¬ a = j := fun y => z y.symm
          simp [z, this]
      simp [e2, ea]
    · rw [if_neg e1]
      by_cases e2 : i = a
      · subst e2
        rw [if_pos rfl, Nat.testBit_or, Nat.testBit_two_pow]
        have ea : decide (c = j) = decide (j = c) := by
          by_cases z : j = c
          · simp [z]
          · have : ¬ c = j := fun y => z y.symm
            simp [z, this]
        simp [e1, ea]
      · rw [if_neg e2]
        simp [e1, e2]
  unfold VI
  rw [v0 0 (by decide), v0 1 (by decide), v02, v0 3 (by decide), v0 4 (by decide), v0 5 (by decide), v0 6 (by decide), v0 7 (by decide), v0 8 (by decide), v0 9 (by decide), vr 1 (by decide) (by decide), vr 2 (by decide) (by decide), vr 3 (by decide) (by decide), vr 4 (by decide) (by decide), vr 6 (by decide) (by decide), vr 7 (by decide) (by decide)]
  refine ⟨⟨a0, a1, by omega, a3, a4, a5, a6, a7⟩, fun i hi => ?_, ⟨fun i hi => ?_, fun i j hi hj => ?_, fun i hi => ?_⟩, g3, g5, g6⟩
  · have := g1 i hi
    refine ⟨this.1, this.2.1, fun z => ?_⟩
    rw [v5, if_neg (by omega), if_neg (by omega)]
    exact this.2.2 z
  · rw [v5]
    split
    · exact Nat.or_lt_two_pow (g2a c (by omega)) (Nat.pow_lt_pow_right (by decide) ha)
    · split
      · exact Nat.or_lt_two_pow (g2a a (by omega)) (Nat.pow_lt_pow_right (by decide) hc)
      · exact g2a i hi
  · rw [tb i hi, tb j hj, g2b i j hi hj, Bool.or_assoc, Bool.or_assoc]
    congr 1
    rw [Bool.or_comm]
    congr 1 <;> rw [Bool.and_comm]
  · rw [tb i hi, g2c i hi]
    by_cases e1 : i = c
    · have : ¬ i = a := by omega
      simp [this]
    · simp [e1]
theorem VI.num {j v : Nat} (hI : VI V) (h : (j = 3 ∧ v ≤ 9) ∨ (j = 4 ∧ v ≤ 999) ∨ (j = 6 ∧ v ≤ 1) ∨ (j = 7 ∧ v ≤ 1)) : VI (upV V 0 j v) := by
  have vs : ∀ i, upV V 0 j v 0 i = if i = j then v else V 0 i := fun i => by simp [upV]
  have vr : ∀ r, r ≠ 0 → upV V 0 j v r = V r := fun r h0 => upV_row h0
  generalize upV V 0 j v = V' at *
  obtain ⟨⟨a0, a1, a2, a3, a4, a5, a6, a7⟩, g1, g2, g3, g5, g6⟩ := hI
  unfold VI
  rw [vs 0, vs 1, vs 5, vs 8, vs 9, vr 1 (by decide), vr 2 (by decide), vr 3 (by decide), vr 4 (by decide), vr 5 (by decide), vr 6 (by decide), vr 7 (by decide), if_neg (by omega), if_neg (by omega), if_neg (by omega), if_neg (by omega), if_neg (by omega)]
  refine ⟨⟨a0, a1, ?_, ?_, ?_, a5, ?_, ?_⟩, g1, g2, g3, g5, g6⟩
  · rw [vs]; split <;> omega
  · rw [vs]; split <;> omega
  · rw [vs]; split <;> omega
  · rw [vs]; split <;> omega
  · rw [vs]; split <;> omega
theorem lnX_ok (hq : q ≤ t) (hI : VI V) (h : lnX b t V q = .inr (V1, q1)) : VI V1 ∧ q < q1 ∧ q1 ≤ t := by
  have hE := tE_hi (b := b) hq
  have hE2 := tE_hi (b := b) hE
  have hE3 := tE_hi (b := b) hE2
  unfold lnX at h
  split at h
  · next k =>
    have l1 := tE_lo (b := b) (t := t) (q := q) (by omega)
    unfold lnD at h
    split at h
    · cases h
    · next c1 =>
      split at h
      · cases h
      · next c2 =>
        split at h
        · cases h
        · next c3 =>
          have l2 := tE_lo (b := b) (t := t) (q := tE b t q) (by omega)
          obtain ⟨e, z1, z2⟩ := sc_ok hE2 h
          rw [e]
          exact ⟨hI.deed (by omega) c3, by omega, z2⟩
  · split at h
    · next k =>
      have l1 := tE_lo (b := b) (t := t) (q := q) (by omega)
      unfold lnS at h
      split at h
      · cases h
      · next c1 =>
        split at h
        · cases h
        · next c2 =>
          split at h
          · cases h
          · next c3 =>
            have l2 := tE_lo (b := b) (t := t) (q := tE b t q) (by omega)
            unfold lnS2 at h
            split at h
            · cases h
            · next c4 =>
              have l3 := tE_lo (b := b) (t := t) (q := tE b t (tE b t q)) (by omega)
              obtain ⟨n1, n2, n3, n4⟩ := nu_ok hE3 h
              split at n2
              · next c5 =>
                have l5 := tE_lo (b := b) (t := t) (q := tE b t (tE b t (tE b t (tE b t q)))) (by omega)
                obtain ⟨m1, m2, m3, m4⟩ := nu_ok (tE_hi n4) n2
                obtain ⟨e, z1, z2⟩ := sc_ok m4 m2
                rw [e]
                exact ⟨hI.soul (by omega) c3 n1 m1, by omega, z2⟩
              · obtain ⟨e, z1, z2⟩ := sc_ok n4 n2
                rw [e]
                exact ⟨hI.soul (by omega) c3 n1 (Nat.zero_le _), by omega, z2⟩
    · split at h
      · next k =>
        have l1 := tE_lo (b := b) (t := t) (q := q) (by omega)
        unfold lnF1 at h
        split at h
        · cases h
        · next c1 =>
          unfold soL at h
          split at h
          · cases h
          · next c2 =>
            split at h
            · cases h
            · next c3 =>
              split at h
              · cases h
              · next c4 =>
                split at h
                · cases h
                · next c5 =>
                  split at h
                  · cases h
                  · next c6 =>
                    dsimp only at h
                    split at h
                    · cases h
                    · next c7 =>
                      have l2 := tE_lo (b := b) (t := t) (q := tE b t q) (by omega)
                      have l3 := tE_lo (b := b) (t := t) (q := tE b t (tE b t q)) (by omega)
                      have l4 := tE_lo (b := b) (t := t) (q := tE b t (tE b t (tE b t q))) (by omega)
                      obtain ⟨e, z1, z2⟩ := sc_ok (tE_hi hE3) h
                      rw [e]
                      exact ⟨hI.feud (by omega) (Classical.not_not.mp c3) (Classical.not_not.mp c6) (fun y => c7 (Or.inl y)), by omega, z2⟩
      · split at h
        · next k =>
          have l1 := tE_lo (b := b) (t := t) (q := q) (by omega)
          unfold lnL at h
          split at h
          · cases h
          · next c1 =>
            have c1' := Classical.not_not.mp c1
            have h89 := hI.2.2.2.2.1 c1'
            have v8 : upV V 0 5 1 0 8 = 0 := by rw [upV_ne (by decide)]; exact h89.1
            have v9 : upV V 0 5 1 0 9 = 0 := by rw [upV_ne (by decide)]; exact h89.2
            have hSI : SI (upV V 0 5 1) [] 0 (if true = true then 0 else 1) := by
              refine ⟨by omega, by omega, ?_, by simp [cJ], by simp [cN, cB], ?_, ?_, ?_, fun s hs => absurd hs (by simp)⟩
              · rw [v8]
                rfl
              · rw [v8]
                simp [cJ, cN]
              · rw [v8]
                exact fun i hi => absurd hi (by omega)
              · rw [v8]
                exact fun i hi => absurd hi (by omega)
            cases hR : frF b t 1601 (upV V 0 5 1) (tE b t q) true [] with
            | inl e =>
              rw [hR] at h
              cases h
            | inr R =>
              obtain ⟨V2, q2⟩ := R
              rw [hR] at h
              obtain ⟨f1, f2, f3, f4, f5, f6, f7, f8, f9⟩ := fr_ok 1601 (upV V 0 5 1) (tE b t q) true [] 0 V2 q2 hE (by rw [upV_ne (by decide)]; exact hI.1.1) hSI hR
              obtain ⟨e, z1, z2⟩ := sc_ok f9 h
              rw [e]
              refine ⟨?_, by omega, z2⟩
              have w0 : ∀ j, j ≠ 5 → j ≠ 8 → j ≠ 9 → V2 0 j = V 0 j := fun j h5 h8 h9 => by rw [f1.2 j h8 h9, upV_ne h5]
              have w5 : V2 0 5 = 1 := by rw [f1.2 5 (by decide) (by decide), upV_at]
              have wr : ∀ r, r ≠ 0 → r ≠ 6 → r ≠ 7 → V2 r = V r := fun r a6 a7 a8 => by rw [f1.1 r a6 a7 a8, upV_row a6]
              obtain ⟨⟨a0, a1, a2, a3, a4, a5, a6, a7⟩, g1, g2, g3, g5, g6⟩ := hI
              unfold VI
              rw [w0 0 (by decide) (by decide) (by decide), w0 1 (by decide) (by decide) (by decide), w0 2 (by decide) (by decide) (by decide), w0 3 (by decide) (by decide) (by decide), w0 4 (by decide) (by decide) (by decide), w5, w0 6 (by decide) (by decide) (by decide), w0 7 (by decide) (by decide) (by decide), wr 1 (by decide) (by decide) (by decide), wr 2 (by decide) (by decide) (by decide), wr 3 (by decide) (by decide) (by decide), wr 4 (by decide) (by decide) (by decide), wr 5 (by decide) (by decide) (by decide)]
              exact ⟨⟨a0, a1, a2, a3, a4, by decide, a6, a7⟩, g1, g2, g3, fun z => absurd z (by decide), fun _ => ⟨f2, f3, f4, f5, f6⟩⟩
        · split at h
          · next k =>
            have l1 := tE_lo (b := b) (t := t) (q := q) (by omega)
            unfold lnH at h
            split at h
            · cases h
            · obtain ⟨n1, n2, n3, n4⟩ := nu_ok hE h
              obtain ⟨e, z1, z2⟩ := sc_ok n4 n2
              rw [e]
              exact ⟨(hI.num (j := 6) (v := 1) (by omega)).num (by omega), by omega, z2⟩
          · split at h
            · next k =>
              have l1 := tE_lo (b := b) (t := t) (q := q) (by omega)
              unfold lnR at h
              split at h
              · cases h
              · obtain ⟨n1, n2, n3, n4⟩ := nu_ok hE h
                obtain ⟨e, z1, z2⟩ := sc_ok n4 n2
                rw [e]
                exact ⟨(hI.num (j := 7) (v := 1) (by omega)).num (by omega), by omega, z2⟩
            · cases h
end
