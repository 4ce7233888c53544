/-! ===== the reference's lines ===== -/
section
variable {G : ovG} {S : ovS} {b : Nat → Nat} {t q : Nat} {V : pV}
theorem MV.num {j r v : Nat} {S1 : ovS} (h : MV S V) (hj : (j = 31 ∧ r = 2) ∨ (j = 32 ∧ r = 3) ∨ (j = 33 ∧ r = 4) ∨ (j = 36 ∧ r = 5) ∨ (j = 37 ∧ r = 6) ∨ (j = 38 ∧ r = 7)) (e : S1 = stI S 412 j (nI v)) : MV S1 (upV V 0 r v) := by
  obtain ⟨⟨a1, a2, a3, a4, a5, a6, a7, a8, a9⟩, g1, g2, g3, g4⟩ := h
  have h1 : ∀ k, k ≠ 412 → S1.1 k = S.1 k := fun k hk => by rw [e, stI_row hk]
  have hs : ∀ i, S1.1 412 i = if i = j then nI v else S.1 412 i := fun i => by rw [e, stI_1, if_pos rfl]
  have l : S1.2 = S.2 := by rw [e, stI_2]
  have vr : ∀ k, k ≠ 0 → upV V 0 r v k = V k := fun k hk => upV_row hk
  have vs : ∀ i, upV V 0 r v 0 i = if i = r then v else V 0 i := fun i => by simp [upV]
  clear e
  generalize upV V 0 r v = V1 at *
  refine ⟨?_, ?_, ?_, ?_, ?_⟩
  · rcases hj with ⟨rfl, rfl⟩ | ⟨rfl, rfl⟩ | ⟨rfl, rfl⟩ | ⟨rfl, rfl⟩ | ⟨rfl, rfl⟩ | ⟨rfl, rfl⟩ <;> simp [hs, vs, *]
  · unfold STm
    rw [hs 17, if_neg (by omega), h1 415 (by decide), h1 416 (by decide), vs 8, if_neg (by omega), vr 6 (by decide), vr 7 (by decide)]
    exact g1
  · rw [l, vs 0, if_neg (by omega), vr 1 (by decide)]
    exact g2
  · rw [l, vs 1, if_neg (by omega), vr 2 (by decide)]
    exact g3
  · rw [h1 422 (by decide), h1 423 (by decide), h1 424 (by decide), vs 1, if_neg (by omega), vr 3 (by decide), vr 4 (by decide), vr 5 (by decide)]
    exact g4
theorem sp_mrDeed (hb : ∀ i, i < t → b i < 256) (hq : q ≤ t) (hM : MS b t q S) (hk : ¬ tK b t q = 1) (hV : MV S V) (hI : VI V) (hn : ¬ 5 ≤ V 0 0) : Ex G mX12_readDeed 4 [.ref 412] S (fun _ S1 => BDm b t S S1 (lnD b t V q)) := by
  refine eX12_readDeed (vX12_readDeed_0 ?_)
  rw [hV.1.1]
  refine ⟨_, sp_newName (fr := 0) (f := V 1) hb hq hM hk (by omega) (by decide) hV.2.2.1 hI.2.2.2.1.1, fun r3 S2 g => ?_⟩
  rcases g with ⟨k1, k2, k3, k4, k5⟩ | ⟨k5, g⟩
  · refine ⟨fun z => absurd k3.2.2 z, fun _ S7 e7 => ?_⟩
    have e29 : S2.1 412 29 = nI (V 0 0) := by rw [k5.sl 29 rfl]; exact hV.1.1
    rw [e29, nI_1] at e7
    have hF : FZ [] [29] S2 S7 := by rw [e7]; exact FZ.rf.sm rfl
    have hE := tE_hi (b := b) hq
    refine ⟨(k5.mono rfl rfl).tr (hF.mono rfl rfl), Or.inr (Or.inr ⟨_, _, by rw [lnD, if_neg hn, if_neg (fun z => z k1), if_neg k2], k3.fz hF rfl rfl, tE_hi hE, ?_⟩)⟩
    have sl : ∀ j, j ≠ 29 → ([4, 6, 7, 8, 9].contains j = false) → S7.1 412 j = S.1 412 j := fun j h1 h2 => by rw [hF.sl j (by simp [h1]), k5.sl j h2]
    have row : ∀ k, k ≠ 414 → k ≠ 412 → S7.1 k = S.1 k := fun k h1 h2 => by rw [hF.at k (by simp [h2]), k5.at k (by simp [h1, h2])]
    have s29 : S7.1 412 29 = nI (V 0 0 + 1) := by rw [e7, stI_1, if_pos rfl, if_pos rfl]
    have l : ∀ i, S7.2 414 i = if i = 0 + V 0 0 then lN (tW b t (tE b t q)) else S.2 414 i := fun i => by rw [hF.al 414 rfl]; exact k4 i
    have hw := tW_lt hb hE (Or.inl k1)
    obtain ⟨⟨a1, a2, a3, a4, a5, a6, a7, a8, a9⟩, g1, g2, g3, g4⟩ := hV
    have v0 : ∀ j, j ≠ 0 → upV (upV V 1 (V 0 0) (tW b t (tE b t q))) 0 0 (V 0 0 + 1) 0 j = V 0 j := fun j hj => by rw [upV_ne hj, upV_row (by decide)]
    have v00 : upV (upV V 1 (V 0 0) (tW b t (tE b t q))) 0 0 (V 0 0 + 1) 0 0 = V 0 0 + 1 := upV_at
    have v1 : ∀ i, upV (upV V 1 (V 0 0) (tW b t (tE b t q))) 0 0 (V 0 0 + 1) 1 i = if i = V 0 0 then tW b t (tE b t q) else V 1 i := fun i => by
      rw [upV_row (by decide)]
      simp [upV]
    have vr : ∀ r, r ≠ 0 → r ≠ 1 → upV (upV V 1 (V 0 0) (tW b t (tE b t q))) 0 0 (V 0 0 + 1) r = V r := fun r h0 hh => by rw [upV_row h0, upV_row hh]
    generalize upV (upV V 1 (V 0 0) (tW b t (tE b t q))) 0 0 (V 0 0 + 1) = V1 at *
    refine ⟨⟨by rw [s29, v00], by rw [sl 30 (by decide) rfl, v0 1 (by decide)]; exact a2, by rw [sl 31 (by decide) rfl, v0 2 (by decide)]; exact a3, by rw [sl 32 (by decide) rfl, v0 3 (by decide)]; exact a4, by rw [sl 33 (by decide) rfl, v0 4 (by decide)]; exact a5, by rw [sl 36 (by decide) rfl, v0 5 (by decide)]; exact a6, by rw [sl 37 (by decide) rfl, v0 6 (by decide)]; exact a7, by rw [sl 38 (by decide) rfl, v0 7 (by decide)]; exact a8, by rw [sl 20 (by decide) rfl, v0 9 (by decide)]; exact a9⟩, ?_, fun i hi => ?_, fun i hi => ?_, ?_⟩
    · unfold STm
      rw [sl 17 (by decide) rfl, row 415 (by decide) (by decide), row 416 (by decide) (by decide), v0 8 (by decide), vr 6 (by decide) (by decide), vr 7 (by decide) (by decide)]
      exact g1
    · rw [l, v1]
      by_cases c : i = V 0 0
      · rw [if_pos (by omega), if_pos c]
        exact ⟨rfl, hw⟩
      · rw [if_neg (by omega), if_neg c]
        exact g2 i (by omega)
    · rw [v0 1 (by decide)] at hi
      rw [l, if_neg (by omega), vr 2 (by decide) (by decide)]
      exact g3 i hi
    · rw [row 422 (by decide) (by decide), row 423 (by decide) (by decide), row 424 (by decide) (by decide), v0 1 (by decide), vr 3 (by decide) (by decide), vr 4 (by decide) (by decide), vr 5 (by decide) (by decide)]
      exact g4
  · rcases g with ⟨k1, k6⟩ | ⟨k1, k2, k6⟩
    · exact ⟨fun _ => BDm.bad (k5.mono rfl rfl) (by rw [lnD, if_neg hn, if_pos k1]) k6, fun z => absurd z k6.n0⟩
    · exact ⟨fun _ => BDm.bad (k5.mono rfl rfl) (by rw [lnD, if_neg hn, if_neg (fun z => z k1), if_pos k2]) k6, fun z => absurd z k6.n0⟩
/-- a SOUL more -/
theorem MV.soul {w x y : Nat} {S1 : ovS} (h : MV S V) (hw : w < 2 ^ 64) (hsl : ∀ j, [17, 20, 29, 31, 32, 33, 36, 37, 38].contains j = true → S1.1 412 j = S.1 412 j) (h30 : S1.1 412 30 = nI (V 0 1 + 1)) (h415 : S1.1 415 = S.1 415) (h416 : S1.1 416 = S.1 416) (hl : ∀ i, S1.2 414 i = if i = 5 + V 0 1 then lN w else S.2 414 i) (hd5 : V 0 0 ≤ 5) (h2 : ∀ i, S1.1 422 i = if i = V 0 1 then nI x else S.1 422 i) (h3 : ∀ i, S1.1 423 i = if i = V 0 1 then nI y else S.1 423 i) (h4 : ∀ i, S1.1 424 i = if i = V 0 1 then 0 else S.1 424 i) : MV S1 (upV (upV (upV (upV (upV V 2 (V 0 1) w) 0 1 (V 0 1 + 1)) 3 (V 0 1) x) 4 (V 0 1) y) 5 (V 0 1) 0) := by
  generalize hs : V 0 1 = s at *
  obtain ⟨V', hV'⟩ : ∃ V', V' = upV (upV (upV (upV (upV V 2 s w) 0 1 (s + 1)) 3 s x) 4 s y) 5 s 0 := ⟨_, rfl⟩
  rw [← hV']
  have v0 : ∀ j, j ≠ 1 → V' 0 j = V 0 j := fun j hj => by rw [hV', upV_row (by decide), upV_row (by decide), upV_row (by decide), upV_ne hj, upV_row (by decide)]
  have v01 : V' 0 1 = s + 1 := by rw [hV', upV_row (by decide), upV_row (by decide), upV_row (by decide), upV_at]
  have v2 : ∀ i, V' 2 i = if i = s then w else V 2 i := fun i => by
    rw [hV', upV_row (by decide), upV_row (by decide), upV_row (by decide), upV_row (by decide)]
    simp [upV]
  have v3 : ∀ i, V' 3 i = if i = s then x else V 3 i := fun i => by
    rw [hV', upV_row (by decide), upV_row (by decide)]
    simp [upV]
  have v4 : ∀ i, V' 4 i = if i = s then y else V 4 i := fun i => by
    rw [hV', upV_row (by decide)]
    simp [upV]
  have v5 : ∀ i, V' 5 i = if i = s then 0 else V 5 i := fun i => by
    rw [hV']
    simp [upV]
  have vr : ∀ r, r ≠ 0 → r ≠ 2 → r ≠ 3 → r ≠ 4 → r ≠ 5 → V' r = V r := fun r h0 h2 h3 h4 h5 => by rw [hV', upV_row h5, upV_row h4, upV_row h3, upV_row h0, upV_row h2]
  clear hV'
  obtain ⟨⟨a1, a2, a3, a4, a5, a6, a7, a8, a9⟩, g1, g2, g3, g4⟩ := h
  rw [hs] at g3 g4
  refine ⟨⟨by rw [hsl 29 rfl, v0 0 (by decide)]; exact a1, by rw [h30, v01], by rw [hsl 31 rfl, v0 2 (by decide)]; exact a3, by rw [hsl 32 rfl, v0 3 (by decide)]; exact a4, by rw [hsl 33 rfl, v0 4 (by decide)]; exact a5, by rw [hsl 36 rfl, v0 5 (by decide)]; exact a6, by rw [hsl 37 rfl, v0 6 (by decide)]; exact a7, by rw [hsl 38 rfl, v0 7 (by decide)]; exact a8, by rw [hsl 20 rfl, v0 9 (by decide)]; exact a9⟩, ?_, fun i hi => ?_, fun i hi => ?_, fun i hi => ?_⟩
  · unfold STm
    rw [hsl 17 rfl, h415, h416, v0 8 (by decide), vr 6 (by decide) (by decide) (by decide) (by decide) (by decide), vr 7 (by decide) (by decide) (by decide) (by decide) (by decide)]
    exact g1
  · rw [v0 0 (by decide)] at hi
    rw [hl, if_neg (by omega), vr 1 (by decide) (by decide) (by decide) (by decide) (by decide)]
    exact g2 i hi
  · rw [v01] at hi
    rw [hl, v2]
    by_cases c : i = s
    · rw [if_pos (by omega), if_pos c]
      exact ⟨rfl, hw⟩
    · rw [if_neg (by omega), if_neg c]
      exact g3 i (by omega)
  · rw [v01] at hi
    rw [h2, h3, h4, v3, v4, v5]
    by_cases c : i = s
    · rw [if_pos c, if_pos c, if_pos c, if_pos c, if_pos c, if_pos c]
      exact ⟨rfl, rfl, rfl⟩
    · rw [if_neg c, if_neg c, if_neg c, if_neg c, if_neg c, if_neg c]
      exact g4 i (by omega)
theorem sp_mrSoul (hb : ∀ i, i < t → b i < 256) (hq : q ≤ t) (hM : MS b t q S) (hk : ¬ tK b t q = 1) (hV : MV S V) (hI : VI V) (hn : ¬ 5 ≤ V 0 1) : Ex G mX12_readSoul 5 [.ref 412] S (fun _ S1 => BDm b t S S1 (lnS b t V q)) := by
  have hE := tE_hi (b := b) hq
  have hE2 := tE_hi (b := b) hE
  have h5 : vp_in (nI (V 0 1)) 5 := vp_in_nI (by omega) (by decide)
  obtain ⟨Q, hQ⟩ : ∃ Q : Int32 → ovS → Prop, Q = (fun _ S1 => BDm b t S S1 (lnS b t V q)) := ⟨_, rfl⟩
  rw [← hQ]
  -- behind a FAULT
  have bad70 : ∀ (e : Nat × Nat) (S1 : ovS), FZ Lz Jz S S1 → FLm e S1 → lnS b t V q = .inl e → RM G mX12_readSoul 5 Q 70 [some (.ref 412), some (.int (nI (V 0 1)))] [] S1 := by
    intro e S1 a1 a2 a3
    refine vX12_readSoul_70 ⟨h5, fun S2 e2 => ?_⟩
    have hF : FZ [424] [] S1 S2 := by rw [e2]; exact FZ.rf.st rfl rfl
    have hL := a2.fz hF rfl
    refine ⟨fun _ => ?_, fun z => absurd z hL.n0⟩
    rw [hQ]
    exact BDm.bad (a1.tr (hF.mono rfl rfl)) a3 hL
  have bad12 : ∀ (e : Nat × Nat) (x : Int32) (S7 : ovS), FZ Lz Jz S S7 → FLm e S7 → lnS b t V q = .inl e → (∀ S11 : ovS, S11 = stI S7 422 (nI (V 0 1)).toNatClampNeg x → (vp_in (nI (V 0 1)) 5 ∧ (∀ S12 : ovS, S12 = stI S11 423 (nI (V 0 1)).toNatClampNeg 0 → ((¬ (S12.1 412 2) = 0 → RM G mX12_readSoul 5 Q 70 [some (.ref 412), some (.int (nI (V 0 1)))] [] S12) ∧ ((S12.1 412 2) = 0 → (∃ Q14, Ex G mX12_isWord 1 [.ref 412, .long 495873784179] S12 Q14 ∧ ∀ (r16 : Int32) (S15 : ovS), Q14 r16 S15 → ((r16 = 0 → RM G mX12_readSoul 5 Q 70 [some (.ref 412), some (.int (nI (V 0 1)))] [] S15) ∧ (¬ r16 = 0 → (∃ Q20, Ex G mX12_told 4 [.ref 412, .long 495873784179, .int 0, .int 99] S15 Q20 ∧ ∀ (r22 : Int32) (S21 : ovS), Q20 r22 S21 → (vp_in (nI (V 0 1)) 5 ∧ (∀ S25 : ovS, S25 = stI S21 423 (nI (V 0 1)).toNatClampNeg r22 → RM G mX12_readSoul 5 Q 70 [some (.ref 412), some (.int (nI (V 0 1)))] [] S25))))))))))) := by
    intro e x S7 a1 a2 a3 S11 e11
    refine ⟨h5, fun S12 e12 => ?_⟩
    have hF : FZ [422, 423] [] S7 S12 := by rw [e12, e11]; exact (FZ.rf.st rfl rfl).st rfl rfl
    have hL := a2.fz hF rfl
    exact ⟨fun _ => bad70 e S12 (a1.tr (hF.mono rfl rfl)) hL a3, fun z => absurd z hL.n0⟩
  refine eX12_readSoul (vX12_readSoul_0 ?_)
  rw [hV.1.2.1]
  refine ⟨_, sp_newName (fr := 5) (f := V 2) hb hq hM hk (by omega) (by decide) hV.2.2.2.1 hI.2.2.2.1.2, fun r3 S2 g => ?_⟩
  rcases g with ⟨k1, k2, k3, k4, k5⟩ | ⟨k5, g⟩
  rotate_left
  · have e30 : S2.1 412 30 = nI (V 0 1) := by rw [k5.sl 30 rfl]; exact hV.1.2.1
    rw [e30]
    rcases g with ⟨k1, k6⟩ | ⟨k1, k2, k6⟩
    · refine ⟨_, sp_toldN k6, fun r8 S7 g => ?_⟩
      obtain ⟨u1, u2⟩ := g
      subst u2
      exact ⟨h5, bad12 _ _ S7 (k5.mono rfl rfl) k6 (by rw [lnS, if_neg hn, if_pos k1])⟩
    · refine ⟨_, sp_toldN k6, fun r8 S7 g => ?_⟩
      obtain ⟨u1, u2⟩ := g
      subst u2
      exact ⟨h5, bad12 _ _ S7 (k5.mono rfl rfl) k6 (by rw [lnS, if_neg hn, if_neg (fun z => z k1), if_pos k2])⟩
  have e30 : S2.1 412 30 = nI (V 0 1) := by rw [k5.sl 30 rfl]; exact hV.1.2.1
  rw [e30]
  have hw := tW_lt hb hE (Or.inl k1)
  have eL : lnS b t V q = lnS2 b t (upV (upV V 2 (V 0 1) (tW b t (tE b t q))) 0 1 (V 0 1 + 1)) (V 0 1) (tE b t (tE b t q)) := by
    rw [lnS, if_neg hn, if_neg (fun z => z k1), if_neg k2]
  have hE3 := tE_hi (b := b) hE2
  have hE4 := tE_hi (b := b) hE3
  have hix : (nI (V 0 1)).toNatClampNeg = V 0 1 := nI_ix (by omega)
  refine ⟨_, sp_told (j := 2) (m := 99) (by decide) rfl (by decide) hb hE2 k3, fun r8 S7 g => ⟨h5, ?_⟩⟩
  rcases g with ⟨n1, n2, n3, n4, n5, n6⟩ | ⟨n5, g⟩
  rotate_left
  · rcases g with ⟨n1, n6⟩ | ⟨n1, n2, n6⟩ | ⟨n1, n2, n3, n6⟩
    · exact bad12 _ _ S7 ((k5.mono rfl rfl).tr (n5.mono rfl rfl)) n6 (by rw [eL, lnS2, if_pos n1])
    · exact bad12 _ _ S7 ((k5.mono rfl rfl).tr (n5.mono rfl rfl)) n6 (by rw [eL, lnS2, if_neg (fun y => y n1), nuL, if_pos n2])
    · exact bad12 _ _ S7 ((k5.mono rfl rfl).tr (n5.mono rfl rfl)) n6 (by rw [eL, lnS2, if_neg (fun y => y n1), nuL, if_neg (fun y => y n2), if_pos n3])
  -- the end of a line that holds
  have fin : ∀ (y q' : Nat) (S25 : ovS), lnS b t V q = scL b t (upV (upV (upV (upV (upV V 2 (V 0 1) (tW b t (tE b t q))) 0 1 (V 0 1 + 1)) 3 (V 0 1) (tN b t (tE b t (tE b t (tE b t q))))) 4 (V 0 1) y) 5 (V 0 1) 0) q' → q' ≤ t → MS b t q' S25 → FZ [422, 423] [4, 6, 7, 8, 9] S7 S25 → (∀ i, S25.1 422 i = if i = V 0 1 then nI (tN b t (tE b t (tE b t (tE b t q)))) else S7.1 422 i) → (∀ i, S25.1 423 i = if i = V 0 1 then nI y else S7.1 423 i) → RM G mX12_readSoul 5 Q 70 [some (.ref 412), some (.int (nI (V 0 1)))] [] S25 := by
    intro y q' S25 a1 a2 a3 a4 a5 a6
    refine vX12_readSoul_70 ⟨h5, fun S26 e26 => ?_⟩
    rw [hix] at e26
    have hF26 : FZ [424] [] S25 S26 := by rw [e26]; exact FZ.rf.st rfl rfl
    refine ⟨fun z => absurd (a3.fz hF26 rfl rfl).2.2 z, fun _ S27 e27 => ?_⟩
    have e30' : S26.1 412 30 = nI (V 0 1) := by rw [hF26.sl 30 rfl, a4.sl 30 rfl, n5.sl 30 rfl]; exact e30
    rw [e30', nI_1] at e27
    have hF27 : FZ [] [30] S26 S27 := by rw [e27]; exact FZ.rf.sm rfl
    rw [hQ]
    refine ⟨((((k5.mono rfl rfl).tr (n5.mono rfl rfl)).tr (a4.mono rfl rfl)).tr (hF26.mono rfl rfl)).tr (hF27.mono rfl rfl), Or.inr (Or.inr ⟨_, q', a1, (a3.fz hF26 rfl rfl).fz hF27 rfl rfl, a2, ?_⟩)⟩
    refine MV.soul hV hw (fun j hj => ?_) ?_ ?_ ?_ (fun i => ?_) hI.1.1 (fun i => ?_) (fun i => ?_) (fun i => ?_)
    · have hm : j ∈ [17, 20, 29, 31, 32, 33, 36, 37, 38] := by simpa using hj
      have h1 : ∀ j ∈ [17, 20, 29, 31, 32, 33, 36, 37, 38], [30].contains j = false ∧ [4, 6, 7, 8, 9].contains j = false := by decide
      have h2 := h1 j hm
      rw [hF27.sl j h2.1, hF26.sl j rfl, a4.sl j h2.2, n5.sl j h2.2, k5.sl j h2.2]
    · rw [e27, stI_1, if_pos rfl, if_pos rfl]
    · rw [hF27.at 415 rfl, hF26.at 415 rfl, a4.at 415 rfl, n5.at 415 rfl, k5.at 415 rfl]
    · rw [hF27.at 416 rfl, hF26.at 416 rfl, a4.at 416 rfl, n5.at 416 rfl, k5.at 416 rfl]
    · rw [hF27.al 414 rfl, hF26.al 414 rfl, a4.al 414 rfl, n5.al 414 rfl]
      exact k4 i
    · rw [hF27.at 422 rfl, hF26.at 422 rfl, a5, n5.at 422 rfl, k5.at 422 rfl]
    · rw [hF27.at 423 rfl, hF26.at 423 rfl, a6, n5.at 423 rfl, k5.at 423 rfl]
    · rw [hF27.at 424 rfl, e26, stI_1, if_pos rfl, a4.at 424 rfl, n5.at 424 rfl, k5.at 424 rfl]
  intro S11 e11
  refine ⟨h5, fun S12 e12 => ?_⟩
  rw [hix] at e11 e12 ⊢
  rw [n4] at e11
  have hF12 : FZ [422, 423] [] S7 S12 := by rw [e12, e11]; exact (FZ.rf.st rfl rfl).st rfl rfl
  have hM12 := n6.fz hF12 rfl rfl
  have r422 : ∀ i, S12.1 422 i = if i = V 0 1 then nI (tN b t (tE b t (tE b t (tE b t q)))) else S7.1 422 i := fun i => by rw [e12, stI_row (by decide), e11, stI_1, if_pos rfl]
  have r423 : ∀ i, S12.1 423 i = if i = V 0 1 then 0 else S7.1 423 i := fun i => by rw [e12, stI_1, if_pos rfl, e11, stI_row (by decide)]
  refine ⟨fun z => absurd hM12.2.2 z, fun _ => ⟨_, sp_isWord (j := 3) (by decide) rfl hb hE4 hM12, fun r16 S15 g => ?_⟩⟩
  obtain ⟨u1, u2⟩ := g
  subst u2
  rw [u1, bI_0, decide_eq_false_iff_not]
  refine ⟨fun z => fin 0 _ S15 ?_ hE4 hM12 (hF12.mono rfl rfl) r422 r423, fun z => ⟨_, sp_told (j := 3) (m := 99) (by decide) rfl (by decide) hb hE4 hM12, fun r22 S21 g => ⟨h5, fun S25 e25 => ?_⟩⟩⟩
  · rw [eL, lnS2, if_neg (fun y => y n1), nuL, if_neg (fun y => y n2), if_neg n3, if_neg z]
  · have k259 : tK b t (tE b t (tE b t (tE b t (tE b t q)))) = 259 := Classical.not_not.mp z
    have hE5 := tE_hi (b := b) hE4
    have hF25 : FZ [423] [] S21 S25 := by rw [e25]; exact FZ.rf.st rfl rfl
    rcases g with ⟨m1, m2, m3, m4, m5, m6⟩ | ⟨m5, g⟩
    · rw [m4] at e25
      refine fin (tN b t (tE b t (tE b t (tE b t (tE b t (tE b t q)))))) _ S25 ?_ (tE_hi hE5) (m6.fz hF25 rfl rfl) (((hF12.mono rfl rfl).tr (m5.mono rfl rfl)).tr (hF25.mono rfl rfl)) (fun i => ?_) (fun i => ?_)
      · rw [eL, lnS2, if_neg (fun y => y n1), nuL, if_neg (fun y => y n2), if_neg n3, if_pos k259, nuL, if_neg (fun y => y m2), if_neg m3]
      · rw [hF25.at 422 rfl, m5.at 422 rfl]; exact r422 i
      · rw [e25, stI_1, if_pos rfl, m5.at 423 rfl, r423]
        by_cases c : i = V 0 1
        · rw [if_pos c, if_pos c]
        · rw [if_neg c, if_neg c, if_neg c]
    · have hFF : FZ Lz Jz S S25 := ((((k5.mono rfl rfl).tr (n5.mono rfl rfl)).tr (hF12.mono rfl rfl)).tr (m5.mono rfl rfl)).tr (hF25.mono rfl rfl)
      rcases g with ⟨m1, m6⟩ | ⟨m1, m2, m6⟩ | ⟨m1, m2, m3, m6⟩
      · exact absurd k259 m1
      · exact bad70 _ S25 hFF (m6.fz hF25 rfl) (by rw [eL, lnS2, if_neg (fun y => y n1), nuL, if_neg (fun y => y n2), if_neg n3, if_pos k259, nuL, if_pos m2])
      · exact bad70 _ S25 hFF (m6.fz hF25 rfl) (by rw [eL, lnS2, if_neg (fun y => y n1), nuL, if_neg (fun y => y n2), if_neg n3, if_pos k259, nuL, if_neg (fun y => y m2), if_pos m3])
end
