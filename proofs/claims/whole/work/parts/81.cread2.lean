/-! ===== the class's Reader: lines ===== -/
/-- a line's body is read -/
def BDc (b : Nat → Nat) (t : Nat) (S S1 : ovS) (R : pR) : Prop := FG Lr S S1 ∧ TX b t S1 ∧ ((∃ e, R = .inl e ∧ FLc e S1) ∨ (∃ V' q', R = scL b t V' q' ∧ S1.1 2 1 = 0 ∧ S1.1 2 2 = S.1 2 2 ∧ CV S1 V' ∧ TC b t q' S1 ∧ q' ≤ t))
theorem upV_id {V : pV} {r i : Nat} : upV V r i (V r i) = V := by
  funext a c
  unfold upV
  split
  · next h =>
    subst h
    split
    · next h2 => rw [h2]
    · rfl
  · rfl
section
variable {G : ovG} {S : ovS} {b : Nat → Nat} {t q : Nat} {V : pV}
theorem BDc.bad {S1 : ovS} {e : Nat × Nat} {R : pR} (hF : FG Lr S S1) (hX : TX b t S1) (hR : R = .inl e) (hL : FLc e S1) : BDc b t S S1 R := ⟨hF, hX, Or.inl ⟨e, hR, hL⟩⟩
theorem CV.dn (h : CV S V) (hI : VI V) : DNc S V := ⟨h.1.1, hI.1.1, h.2.2.1⟩
/-- a name more among the DEEDS -/
theorem CV.deed {n w : Nat} {S1 : ovS} (h : CV S V) (hn : n = V 0 0) (hw : w < 2 ^ 64) (e : S1 = stI (stJ S 11 n (lN w)) 3 1 (nI (n + 1))) : CV S1 (upV (upV V 1 n w) 0 0 (n + 1)) := by
  have h1 : ∀ k, k ≠ 3 → S1.1 k = S.1 k := fun k hk => by rw [e, stI_row hk, stJ_1]
  have h3 : ∀ j, j ≠ 1 → S1.1 3 j = S.1 3 j := fun j hj => by rw [e, stI_1, if_pos rfl, if_neg hj, stJ_1]
  have h31 : S1.1 3 1 = nI (n + 1) := by rw [e, stI_1, if_pos rfl, if_pos rfl]
  have l11 : ∀ i, S1.2 11 i = if i = n then lN w else S.2 11 i := fun i => by rw [e, stI_2, stJ_2, if_pos rfl]
  have l12 : S1.2 12 = S.2 12 := by rw [e, stI_2, stJ_row (by decide)]
  clear e
  obtain ⟨⟨a1, a2, a3, a4, a5, a6, a7, a8, a9⟩, g1, g2, g3, g4⟩ := h
  have v0 : ∀ j, j ≠ 0 → upV (upV V 1 n w) 0 0 (n + 1) 0 j = V 0 j := fun j hj => by rw [upV_ne hj, upV_row (by decide)]
  have v00 : upV (upV V 1 n w) 0 0 (n + 1) 0 0 = n + 1 := upV_at
  have v1 : ∀ i, upV (upV V 1 n w) 0 0 (n + 1) 1 i = if i = n then w else V 1 i := fun i => by
    rw [upV_row (by decide)]
    simp [upV]
  have vr : ∀ r, r ≠ 0 → r ≠ 1 → upV (upV V 1 n w) 0 0 (n + 1) r = V r := fun r h0 hh => by rw [upV_row h0, upV_row hh]
  generalize upV (upV V 1 n w) 0 0 (n + 1) = V1 at *
  refine ⟨⟨by rw [h31, v00], by rw [h3 0 (by decide), v0 1 (by decide)]; exact a2, by rw [h1 2 (by decide), v0 2 (by decide)]; exact a3, by rw [h3 2 (by decide), v0 3 (by decide)]; exact a4, by rw [h3 3 (by decide), v0 4 (by decide)]; exact a5, by rw [h1 2 (by decide), v0 5 (by decide)]; exact a6, by rw [h1 2 (by decide), v0 6 (by decide)]; exact a7, by rw [h1 2 (by decide), v0 7 (by decide)]; exact a8, by rw [h1 7 (by decide), v0 9 (by decide)]; exact a9⟩, ?_, fun i hi => ?_, ?_, ?_⟩
  · unfold STc
    rw [h1 7 (by decide), h1 8 (by decide), h1 9 (by decide), v0 8 (by decide), vr 6 (by decide) (by decide), vr 7 (by decide) (by decide)]
    exact g1
  · rw [l11, v1]
    by_cases c : i = n
    · rw [if_pos c, if_pos c]
      exact ⟨rfl, hw⟩
    · rw [if_neg c, if_neg c]
      exact g2 i (by omega)
  · rw [l12, v0 1 (by decide), vr 2 (by decide) (by decide)]
    exact g3
  · rw [h1 4 (by decide), h1 5 (by decide), h1 6 (by decide), vr 3 (by decide) (by decide), vr 4 (by decide) (by decide), vr 5 (by decide) (by decide)]
    exact g4
theorem CV.soul {n w : Nat} {S1 : ovS} (h : CV S V) (hn : n = V 0 1) (hw : w < 2 ^ 64) (e : S1 = stI (stJ S 12 n (lN w)) 3 0 (nI (n + 1))) : CV S1 (upV (upV V 2 n w) 0 1 (n + 1)) := by
  have h1 : ∀ k, k ≠ 3 → S1.1 k = S.1 k := fun k hk => by rw [e, stI_row hk, stJ_1]
  have h3 : ∀ j, j ≠ 0 → S1.1 3 j = S.1 3 j := fun j hj => by rw [e, stI_1, if_pos rfl, if_neg hj, stJ_1]
  have h31 : S1.1 3 0 = nI (n + 1) := by rw [e, stI_1, if_pos rfl, if_pos rfl]
  have l11 : ∀ i, S1.2 12 i = if i = n then lN w else S.2 12 i := fun i => by rw [e, stI_2, stJ_2, if_pos rfl]
  have l12 : S1.2 11 = S.2 11 := by rw [e, stI_2, stJ_row (by decide)]
  clear e
  obtain ⟨⟨a1, a2, a3, a4, a5, a6, a7, a8, a9⟩, g1, g2, g3, g4⟩ := h
  have v0 : ∀ j, j ≠ 1 → upV (upV V 2 n w) 0 1 (n + 1) 0 j = V 0 j := fun j hj => by rw [upV_ne hj, upV_row (by decide)]
  have v00 : upV (upV V 2 n w) 0 1 (n + 1) 0 1 = n + 1 := upV_at
  have v1 : ∀ i, upV (upV V 2 n w) 0 1 (n + 1) 2 i = if i = n then w else V 2 i := fun i => by
    rw [upV_row (by decide)]
    simp [upV]
  have vr : ∀ r, r ≠ 0 → r ≠ 2 → upV (upV V 2 n w) 0 1 (n + 1) r = V r := fun r h0 hh => by rw [upV_row h0, upV_row hh]
  generalize upV (upV V 2 n w) 0 1 (n + 1) = V1 at *
  refine ⟨⟨by rw [h3 1 (by decide), v0 0 (by decide)]; exact a1, by rw [h31, v00], by rw [h1 2 (by decide), v0 2 (by decide)]; exact a3, by rw [h3 2 (by decide), v0 3 (by decide)]; exact a4, by rw [h3 3 (by decide), v0 4 (by decide)]; exact a5, by rw [h1 2 (by decide), v0 5 (by decide)]; exact a6, by rw [h1 2 (by decide), v0 6 (by decide)]; exact a7, by rw [h1 2 (by decide), v0 7 (by decide)]; exact a8, by rw [h1 7 (by decide), v0 9 (by decide)]; exact a9⟩, ?_, ?_, fun i hi => ?_, ?_⟩
  · unfold STc
    rw [h1 7 (by decide), h1 8 (by decide), h1 9 (by decide), v0 8 (by decide), vr 6 (by decide) (by decide), vr 7 (by decide) (by decide)]
    exact g1
  · rw [l12, v0 0 (by decide), vr 1 (by decide) (by decide)]
    exact g2
  · rw [l11, v1]
    by_cases c : i = n
    · rw [if_pos c, if_pos c]
      exact ⟨rfl, hw⟩
    · rw [if_neg c, if_neg c]
      exact g3 i (by omega)
  · rw [h1 4 (by decide), h1 5 (by decide), h1 6 (by decide), vr 3 (by decide) (by decide), vr 4 (by decide) (by decide), vr 5 (by decide) (by decide)]
    exact g4
/-- one number of needs, stays, feuds -/
theorem CV.row {o r s v : Nat} {S1 : ovS} (h : CV S V) (ho : (o = 4 ∧ r = 3) ∨ (o = 5 ∧ r = 4) ∨ (o = 6 ∧ r = 5)) (e : S1 = stI S o s (nI v)) : CV S1 (upV V r s v) := by
  obtain ⟨g0, g1, g2, g3, g4⟩ := h
  have h1 : ∀ k, k ≠ o → S1.1 k = S.1 k := fun k hk => by rw [e, stI_row hk]
  have hs : ∀ i, S1.1 o i = if i = s then nI v else S.1 o i := fun i => by rw [e, stI_1, if_pos rfl]
  have l : S1.2 = S.2 := by rw [e, stI_2]
  have vr : ∀ k, k ≠ r → upV V r s v k = V k := fun k hk => upV_row hk
  have vs : ∀ i, upV V r s v r i = if i = s then v else V r i := fun i => by simp [upV]
  clear e
  generalize upV V r s v = V1 at *
  refine ⟨?_, ?_, ?_, ?_, fun i hi => ?_⟩
  · rw [h1 3 (by omega), h1 2 (by omega), h1 7 (by omega), vr 0 (by omega)]
    exact g0
  · unfold STc
    rw [h1 7 (by omega), h1 8 (by omega), h1 9 (by omega), vr 0 (by omega), vr 6 (by omega), vr 7 (by omega)]
    exact g1
  · rw [l, vr 0 (by omega), vr 1 (by omega)]
    exact g2
  · rw [l, vr 0 (by omega), vr 2 (by omega)]
    exact g3
  · have := g4 i hi
    rcases ho with ⟨e1, e2⟩ | ⟨e1, e2⟩ | ⟨e1, e2⟩
    · subst e1 e2
      rw [hs, vs, h1 5 (by decide), h1 6 (by decide), vr 4 (by decide), vr 5 (by decide)]
      refine ⟨?_, this.2⟩
      split
      · rfl
      · exact this.1
    · subst e1 e2
      rw [hs, vs, h1 4 (by decide), h1 6 (by decide), vr 3 (by decide), vr 5 (by decide)]
      refine ⟨this.1, ?_, this.2.2⟩
      split
      · rfl
      · exact this.2.1
    · subst e1 e2
      rw [hs, vs, h1 4 (by decide), h1 5 (by decide), vr 3 (by decide), vr 4 (by decide)]
      refine ⟨this.1, this.2.1, ?_⟩
      split
      · rfl
      · exact this.2.2
/-- one number alone -/
theorem CV.num {o j r v : Nat} {S1 : ovS} (h : CV S V) (ho : (o = 2 ∧ j = 7 ∧ r = 2) ∨ (o = 3 ∧ j = 2 ∧ r = 3) ∨ (o = 3 ∧ j = 3 ∧ r = 4) ∨ (o = 2 ∧ j = 8 ∧ r = 5) ∨ (o = 2 ∧ j = 9 ∧ r = 6) ∨ (o = 2 ∧ j = 10 ∧ r = 7)) (e : S1 = stI S o j (nI v)) : CV S1 (upV V 0 r v) := by
  obtain ⟨⟨a1, a2, a3, a4, a5, a6, a7, a8, a9⟩, g1, g2, g3, g4⟩ := h
  have h1 : ∀ k, k ≠ o → S1.1 k = S.1 k := fun k hk => by rw [e, stI_row hk]
  have hs : ∀ i, S1.1 o i = if i = j then nI v else S.1 o i := fun i => by rw [e, stI_1, if_pos rfl]
  have l : S1.2 = S.2 := by rw [e, stI_2]
  have vr : ∀ k, k ≠ 0 → upV V 0 r v k = V k := fun k hk => upV_row hk
  have vs : ∀ i, upV V 0 r v 0 i = if i = r then v else V 0 i := fun i => by simp [upV]
  clear e
  generalize upV V 0 r v = V1 at *
  refine ⟨?_, ?_, ?_, ?_, ?_⟩
  · rcases ho with ⟨rfl, rfl, rfl⟩ | ⟨rfl, rfl, rfl⟩ | ⟨rfl, rfl, rfl⟩ | ⟨rfl, rfl, rfl⟩ | ⟨rfl, rfl, rfl⟩ | ⟨rfl, rfl, rfl⟩
    · rw [h1 3 (by decide), h1 7 (by decide)]
      simp [hs, vs, *]
    · rw [h1 2 (by decide), h1 7 (by decide)]
      simp [hs, vs, *]
    · rw [h1 2 (by decide), h1 7 (by decide)]
      simp [hs, vs, *]
    · rw [h1 3 (by decide), h1 7 (by decide)]
      simp [hs, vs, *]
    · rw [h1 3 (by decide), h1 7 (by decide)]
      simp [hs, vs, *]
    · rw [h1 3 (by decide), h1 7 (by decide)]
      simp [hs, vs, *]
  · unfold STc
    rw [h1 7 (by omega), h1 8 (by omega), h1 9 (by omega), vs 8, if_neg (by omega), vr 6 (by decide), vr 7 (by decide)]
    exact g1
  · rw [l, vs 0, if_neg (by omega), vr 1 (by decide)]
    exact g2
  · rw [l, vs 1, if_neg (by omega), vr 2 (by decide)]
    exact g3
  · rw [h1 4 (by omega), h1 5 (by omega), h1 6 (by omega), vr 3 (by decide), vr 4 (by decide), vr 5 (by decide)]
    exact g4
theorem sp_cDeed (hb : ∀ i, i < t → b i < 256) (hq : q ≤ t) (hX : TX b t S) (h0 : S.1 2 1 = 0) (hC : TC b t q S) (hV : CV S V) (hI : VI V) : Ex G mX5_readDeed 11 [.ref 2] S (fun _ S1 => BDc b t S S1 (lnD b t V q)) := by
  have hn5 := hI.1.1
  have hE := tE_hi (b := b) hq
  refine eX5_readDeed (vX5_readDeed_0 ?_)
  rw [hV.1.1, show (5 : Int32) = nI 5 from rfl, nI_le_i (by decide) (by omega)]
  refine ⟨fun c => ⟨_, sp_pF0 hb hq hX h0 hC, fun r4 S3 g => ⟨fun _ => ?_, fun z => absurd g.1 z⟩⟩, fun c => ⟨_, sp_pF1 hX hq hC, fun r23 S22 g => ?_⟩⟩
  · exact BDc.bad (g.2.1.mono rfl) (hX.fg g.2.1 rfl) (by rw [lnD, if_pos c]) g.2.2
  · obtain ⟨g1, g2, g3, g4⟩ := g
    subst g1
    have hV2 := hV.fg g2 rfl
    have h02 : S22.1 2 1 = 0 := by rw [g2.at 2 rfl]; exact h0
    refine ⟨fun z => absurd z (by decide), fun _ => ?_⟩
    rw [hV2.1.1]
    refine ⟨_, sp_newN_a hb hE g3 h02 g4 hn5 hV2.2.2.1, fun r29 S28 g => ?_⟩
    rcases g with ⟨k1, k2, k3, k4⟩ | ⟨k1, k3, k4, k5⟩ | ⟨k1, k2, k3, k4, k5⟩
    · subst k3 k4
      refine ⟨fun z => absurd z (by decide), fun _ => ?_⟩
      rw [hV2.1.1]
      refine ⟨vp_in_nI (by omega) (by decide), fun S33 e33 S34 e34 => ?_⟩
      rw [nI_ix (by omega), g4.2.2.2.2 k1] at e33
      have e31 : S33.1 3 1 = nI (V 0 0) := by rw [e33, stJ_1]; exact hV2.1.1
      rw [e31, nI_1, e33] at e34
      have hV3 := hV2.deed (n := V 0 0) rfl (tW_lt hb hE (Or.inl k1)) e34
      have hF34 : FG Lr S S34 := by
        rw [e34]
        exact ((g2.mono rfl).sj rfl).st rfl
      have hF2 : FG [3, 11] S28 S34 := by
        rw [e34]
        exact (FG.rf.sj rfl).st rfl
      refine ⟨_, sp_adv (g3.fg hF2 rfl) hE (g4.fg hF2 rfl), fun r37 S36 g => ⟨hF34.tr (g.1.mono rfl), g.2.1, Or.inr ⟨_, _, ?_, ?_, ?_, hV3.fg g.1 rfl, g.2.2, tE_hi hE⟩⟩⟩
      · rw [lnD, if_neg c, if_neg (fun z => z k1), if_neg k2]
      · rw [g.1.at 2 rfl, hF2.at 2 rfl]; exact h02
      · rw [g.1.at 2 rfl, hF2.at 2 rfl, g2.at 2 rfl]
    · subst k3
      refine ⟨fun _ => ?_, fun z => absurd rfl z⟩
      exact BDc.bad ((g2.mono rfl).tr (k4.mono rfl)) (g3.fg k4 rfl) (by rw [lnD, if_neg c, if_pos k1]) k5
    · subst k3
      refine ⟨fun _ => ?_, fun z => absurd rfl z⟩
      exact BDc.bad ((g2.mono rfl).tr (k4.mono rfl)) (g3.fg k4 rfl) (by rw [lnD, if_neg c, if_neg (fun z => z k1), if_pos k2]) k5
theorem sp_cHeat (hb : ∀ i, i < t → b i < 256) (hq : q ≤ t) (hX : TX b t S) (h0 : S.1 2 1 = 0) (hC : TC b t q S) (hV : CV S V) (hI : VI V) : Ex G mX5_readHeat 11 [.ref 2] S (fun _ S1 => BDc b t S S1 (lnH b t V q)) := by
  have hE := tE_hi (b := b) hq
  have h61 := hI.1.2.2.2.2.2.2.1
  refine eX5_readHeat (vX5_readHeat_0 ?_)
  rw [hV.1.2.2.2.2.2.2.1, show (0 : Int32) = nI 0 from rfl, nI_eq_i (by omega) (by decide)]
  refine ⟨fun c => ⟨_, sp_pF0 hb hq hX h0 hC, fun r4 S3 g => ⟨fun _ => ?_, fun z => absurd g.1 z⟩⟩, fun c => ⟨_, sp_pF1 hX hq hC, fun r23 S22 g => ?_⟩⟩
  · exact BDc.bad (g.2.1.mono rfl) (hX.fg g.2.1 rfl) (by rw [lnH, if_pos c]) g.2.2
  · obtain ⟨g1, g2, g3, g4⟩ := g
    subst g1
    refine ⟨fun z => absurd z (by decide), fun _ S21 e21 => ?_⟩
    have hV2 := (hV.fg g2 rfl).num (o := 2) (j := 9) (r := 6) (v := 1) (by omega) e21
    have hF21 : FG [2] S22 S21 := by rw [e21]; exact FG.rf.st rfl
    have h02 : S21.1 2 1 = 0 := by rw [e21, stI_1, if_pos rfl, if_neg (by decide), g2.at 2 rfl]; exact h0
    have h22 : S21.1 2 2 = S.1 2 2 := by rw [e21, stI_1, if_pos rfl, if_neg (by decide), g2.at 2 rfl]
    have hX2 := g3.fg hF21 rfl
    have hC2 := g4.fg hF21 rfl
    have hF2 : FG Lr S S21 := (g2.mono rfl).tr (hF21.mono rfl)
    refine ⟨_, sp_readNumber (m := 9) hb hE hX2 h02 hC2 (by decide), fun r24 S23 g S27 e27 => ?_⟩
    rcases g with ⟨k1, k2, k3, k4, k5, k6⟩ | ⟨k1, k4, k5⟩ | ⟨k1, k2, k4, k5⟩
    · rw [k3] at e27
      have hF27 : FG [3] S23 S27 := by rw [e27]; exact FG.rf.st rfl
      refine ⟨(hF2.tr (k4.mono rfl)).tr (hF27.mono rfl), k5.fg hF27 rfl, Or.inr ⟨_, _, ?_, ?_, ?_, (hV2.fg k4 rfl).num (o := 3) (j := 2) (r := 3) (by omega) e27, k6.fg hF27 rfl, tE_hi hE⟩⟩
      · rw [lnH, if_neg (fun z => z c), nuL, if_neg (fun z => z k1), if_neg k2]
      · rw [hF27.at 2 rfl, k4.at 2 rfl]; exact h02
      · rw [hF27.at 2 rfl, k4.at 2 rfl]; exact h22
    · have hF27 : FG [3] S23 S27 := by rw [e27]; exact FG.rf.st rfl
      refine BDc.bad ((hF2.tr (k4.mono rfl)).tr (hF27.mono rfl)) ((hX2.fg k4 rfl).fg hF27 rfl) (e := ftt b t (tE b t q) 2) ?_ ?_
      · rw [lnH, if_neg (fun z => z c), nuL, if_pos k1]
      · unfold FLc
        rw [hF27.at 2 rfl]
        exact k5
    · have hF27 : FG [3] S23 S27 := by rw [e27]; exact FG.rf.st rfl
      refine BDc.bad ((hF2.tr (k4.mono rfl)).tr (hF27.mono rfl)) ((hX2.fg k4 rfl).fg hF27 rfl) (e := ftt b t (tE b t q) 4) ?_ ?_
      · rw [lnH, if_neg (fun z => z c), nuL, if_neg (fun z => z k1), if_pos k2]
      · unfold FLc
        rw [hF27.at 2 rfl]
        exact k5
theorem sp_cDraw (hb : ∀ i, i < t → b i < 256) (hq : q ≤ t) (hX : TX b t S) (h0 : S.1 2 1 = 0) (hC : TC b t q S) (hV : CV S V) (hI : VI V) : Ex G mX5_readDraw 11 [.ref 2] S (fun _ S1 => BDc b t S S1 (lnR b t V q)) := by
  have hE := tE_hi (b := b) hq
  have h61 := hI.1.2.2.2.2.2.2.2
  refine eX5_readDraw (vX5_readDraw_0 ?_)
  rw [hV.1.2.2.2.2.2.2.2.1, show (0 : Int32) = nI 0 from rfl, nI_eq_i (by omega) (by decide)]
  refine ⟨fun c => ⟨_, sp_pF0 hb hq hX h0 hC, fun r4 S3 g => ⟨fun _ => ?_, fun z => absurd g.1 z⟩⟩, fun c => ⟨_, sp_pF1 hX hq hC, fun r23 S22 g => ?_⟩⟩
  · exact BDc.bad (g.2.1.mono rfl) (hX.fg g.2.1 rfl) (by rw [lnR, if_pos c]) g.2.2
  · obtain ⟨g1, g2, g3, g4⟩ := g
    subst g1
    refine ⟨fun z => absurd z (by decide), fun _ S21 e21 => ?_⟩
    have hV2 := (hV.fg g2 rfl).num (o := 2) (j := 10) (r := 7) (v := 1) (by omega) e21
    have hF21 : FG [2] S22 S21 := by rw [e21]; exact FG.rf.st rfl
    have h02 : S21.1 2 1 = 0 := by rw [e21, stI_1, if_pos rfl, if_neg (by decide), g2.at 2 rfl]; exact h0
    have h22 : S21.1 2 2 = S.1 2 2 := by rw [e21, stI_1, if_pos rfl, if_neg (by decide), g2.at 2 rfl]
    have hX2 := g3.fg hF21 rfl
    have hC2 := g4.fg hF21 rfl
    have hF2 : FG Lr S S21 := (g2.mono rfl).tr (hF21.mono rfl)
    refine ⟨_, sp_readNumber (m := 999) hb hE hX2 h02 hC2 (by decide), fun r24 S23 g S27 e27 => ?_⟩
    rcases g with ⟨k1, k2, k3, k4, k5, k6⟩ | ⟨k1, k4, k5⟩ | ⟨k1, k2, k4, k5⟩
    · rw [k3] at e27
      have hF27 : FG [3] S23 S27 := by rw [e27]; exact FG.rf.st rfl
      refine ⟨(hF2.tr (k4.mono rfl)).tr (hF27.mono rfl), k5.fg hF27 rfl, Or.inr ⟨_, _, ?_, ?_, ?_, (hV2.fg k4 rfl).num (o := 3) (j := 3) (r := 4) (by omega) e27, k6.fg hF27 rfl, tE_hi hE⟩⟩
      · rw [lnR, if_neg (fun z => z c), nuL, if_neg (fun z => z k1), if_neg k2]
      · rw [hF27.at 2 rfl, k4.at 2 rfl]; exact h02
      · rw [hF27.at 2 rfl, k4.at 2 rfl]; exact h22
    · have hF27 : FG [3] S23 S27 := by rw [e27]; exact FG.rf.st rfl
      refine BDc.bad ((hF2.tr (k4.mono rfl)).tr (hF27.mono rfl)) ((hX2.fg k4 rfl).fg hF27 rfl) (e := ftt b t (tE b t q) 2) ?_ ?_
      · rw [lnR, if_neg (fun z => z c), nuL, if_pos k1]
      · unfold FLc
        rw [hF27.at 2 rfl]
        exact k5
    · have hF27 : FG [3] S23 S27 := by rw [e27]; exact FG.rf.st rfl
      refine BDc.bad ((hF2.tr (k4.mono rfl)).tr (hF27.mono rfl)) ((hX2.fg k4 rfl).fg hF27 rfl) (e := ftt b t (tE b t q) 4) ?_ ?_
      · rw [lnR, if_neg (fun z => z c), nuL, if_neg (fun z => z k1), if_pos k2]
      · unfold FLc
        rw [hF27.at 2 rfl]
        exact k5
theorem sp_cLoaf (hb : ∀ i, i < t → b i < 256) (hq : q ≤ t) (hX : TX b t S) (h0 : S.1 2 1 = 0) (hC : TC b t q S) (hV : CV S V) (hI : VI V) : Ex G mX5_readLoaf 11 [.ref 2] S (fun _ S1 => BDc b t S S1 (lnL b t V q)) := by
  have hE := tE_hi (b := b) hq
  have h51 := hI.1.2.2.2.2.2.1
  refine eX5_readLoaf (vX5_readLoaf_0 ?_)
  rw [hV.1.2.2.2.2.2.1, show (0 : Int32) = nI 0 from rfl, nI_eq_i (by omega) (by decide)]
  refine ⟨fun c => ⟨_, sp_pF0 hb hq hX h0 hC, fun r4 S3 g => ⟨fun _ => ?_, fun z => absurd g.1 z⟩⟩, fun c => ⟨_, sp_pF1 hX hq hC, fun r23 S22 g => ?_⟩⟩
  · exact BDc.bad (g.2.1.mono rfl) (hX.fg g.2.1 rfl) (by rw [lnL, if_pos c]) g.2.2
  · obtain ⟨g1, g2, g3, g4⟩ := g
    subst g1
    refine ⟨fun z => absurd z (by decide), fun _ S21 e21 => ?_⟩
    have hV2 := (hV.fg g2 rfl).num (o := 2) (j := 8) (r := 5) (v := 1) (by omega) e21
    have hF21 : FG [2] S22 S21 := by rw [e21]; exact FG.rf.st rfl
    have h02 : S21.1 2 1 = 0 := by rw [e21, stI_1, if_pos rfl, if_neg (by decide), g2.at 2 rfl]; exact h0
    have h22 : S21.1 2 2 = S.1 2 2 := by rw [e21, stI_1, if_pos rfl, if_neg (by decide), g2.at 2 rfl]
    have hX2 := g3.fg hF21 rfl
    have hC2 := g4.fg hF21 rfl
    have hF2 : FG Lr S S21 := (g2.mono rfl).tr (hF21.mono rfl)
    have h89 := hI.2.2.2.2.1 c
    have v8 : upV V 0 5 1 0 8 = 0 := by rw [upV_ne (by decide)]; exact h89.1
    have v9 : upV V 0 5 1 0 9 = 0 := by rw [upV_ne (by decide)]; exact h89.2
    have hDN : DNc S21 (upV V 0 5 1) := ⟨hV2.1.1, by rw [upV_ne (by decide)]; exact hI.1.1, hV2.2.2.1⟩
    refine ⟨_, sp_readFormula (V := upV V 0 5 1) hX2 hb hE hC2 hDN hV2.2.1 v8 v9 hV2.1.2.2.2.2.2.2.2.2, fun r29 S28 g => ?_⟩
    obtain ⟨p1, p2, p3⟩ := g
    have hX3 : TX b t S28 := hX2.cg (p1.at 1 rfl) (by rw [p2, hX2.2.1])
    have hF3 : FG Lr S S28 := hF2.tr (p1.mono rfl)
    have h03 : S28.1 2 1 = 0 := by rw [p1.at 2 rfl]; exact h02
    cases hR : frF b t 1601 (upV V 0 5 1) (tE b t q) true [] with
    | inl e =>
      rw [hR] at p3
      obtain ⟨q', c', k1, k2, k3, k4, k5, hq'⟩ := p3
      rw [k3]
      refine ⟨fun z => absurd ((nI_eq_i (b := 0) (by omega) (by decide)).mp z) k1, fun _ => ?_⟩
      refine ⟨_, sp_fail (c := c') hb hq' hX.1 k1 k2 h03 k4, fun r35 S34 g => ?_⟩
      exact BDc.bad (hF3.tr (g.1.mono rfl)) (hX3.fg g.1 rfl) (by rw [lnL, if_neg (fun z => z c), hR, ← k5]) g.2
    | inr R =>
      obtain ⟨V1, q1⟩ := R
      rw [hR] at p3
      obtain ⟨k1, k2, k3, k4⟩ := p3
      rw [k1]
      refine ⟨fun _ => ?_, fun z => absurd rfl z⟩
      have hSI : SI (upV V 0 5 1) [] 0 (if true = true then 0 else 1) := by
        refine ⟨by omega, by omega, ?_, by simp [cJ], by simp [cN, cB], ?_, ?_, ?_, fun s hs => absurd hs (by simp)⟩
        · rw [v8]
          rfl
        · rw [v8]
          simp [cJ, cN]
        · rw [v8]
          exact fun i hi => absurd hi (by omega)
        · rw [v8]
          exact fun i hi => absurd hi (by omega)
      obtain ⟨f1, f2, f3, f4, f5, f6, f7, f8, f9⟩ := fr_ok 1601 (upV V 0 5 1) (tE b t q) true [] 0 V1 q1 hE (by rw [upV_ne (by decide)]; exact hI.1.1) hSI hR
      refine ⟨hF3, hX3, Or.inr ⟨V1, q1, by rw [lnL, if_neg (fun z => z c), hR], h03, by rw [p1.at 2 rfl]; exact h22, ?_, k2, f9⟩⟩
      obtain ⟨⟨a1, a2, a3, a4, a5, a6, a7, a8, a9⟩, u1, u2, u3, u4⟩ := hV2
      refine ⟨⟨?_, ?_, ?_, ?_, ?_, ?_, ?_, ?_, k4⟩, k3, ?_, ?_, ?_⟩
      · rw [p1.at 3 rfl, f1.2 0 (by decide) (by decide)]; exact a1
      · rw [p1.at 3 rfl, f1.2 1 (by decide) (by decide)]; exact a2
      · rw [p1.at 2 rfl, f1.2 2 (by decide) (by decide)]; exact a3
      · rw [p1.at 3 rfl, f1.2 3 (by decide) (by decide)]; exact a4
      · rw [p1.at 3 rfl, f1.2 4 (by decide) (by decide)]; exact a5
      · rw [p1.at 2 rfl, f1.2 5 (by decide) (by decide)]; exact a6
      · rw [p1.at 2 rfl, f1.2 6 (by decide) (by decide)]; exact a7
      · rw [p1.at 2 rfl, f1.2 7 (by decide) (by decide)]; exact a8
      · rw [p1.al 11 rfl, f1.2 0 (by decide) (by decide), f1.1 1 (by decide) (by decide) (by decide)]; exact u2
      · rw [p1.al 12 rfl, f1.2 1 (by decide) (by decide), f1.1 2 (by decide) (by decide) (by decide)]; exact u3
      · rw [p1.at 4 rfl, p1.at 5 rfl, p1.at 6 rfl, f1.1 3 (by decide) (by decide) (by decide), f1.1 4 (by decide) (by decide) (by decide), f1.1 5 (by decide) (by decide) (by decide)]; exact u4
end
