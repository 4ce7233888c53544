/-! ===== the reference's lines: FEUDS, a LOAF, numbers, and all ===== -/
section
variable {G : ovG} {S : ovS} {b : Nat → Nat} {t q : Nat} {V : pV}
theorem MV.feud {a c : Nat} {S1 : ovS} (h : MV S V) (hsl : ∀ j, [17, 20, 29, 30, 32, 33, 36, 37, 38].contains j = true → S1.1 412 j = S.1 412 j) (h31 : S1.1 412 31 = nI (V 0 2 + 1)) (hr : ∀ k, k ≠ 424 → k ≠ 412 → S1.1 k = S.1 k) (hl : S1.2 414 = S.2 414) (hne : ¬ a = c) (h4 : ∀ i, S1.1 424 i = if i = c then nI (V 5 c ||| 2 ^ a) else if i = a then nI (V 5 a ||| 2 ^ c) else S.1 424 i) : MV S1 (feV V a c) := by
  obtain ⟨V', hV'⟩ : ∃ V', V' = feV V a c := ⟨_, rfl⟩
  rw [← hV']
  unfold feV at hV'
  have v0 : ∀ j, j ≠ 2 → V' 0 j = V 0 j := fun j hj => by rw [hV', upV_ne hj, upV_row (by decide), upV_row (by decide)]
  have v02 : V' 0 2 = V 0 2 + 1 := by rw [hV', upV_at]
  have v5 : ∀ i, V' 5 i = if i = c then V 5 c ||| 2 ^ a else if i = a then V 5 a ||| 2 ^ c else V 5 i := fun i => by
    have hne' : ¬ c = a := fun z => hne z.symm
    rw [hV', upV_row (by decide)]
    simp [upV, hne']
  have vr : ∀ r, r ≠ 0 → r ≠ 5 → V' r = V r := fun r h0 h5 => by rw [hV', upV_row h0, upV_row h5, upV_row h5]
  clear hV'
  obtain ⟨⟨a1, a2, a3, a4, a5, a6, a7, a8, a9⟩, g1, g2, g3, g4⟩ := h
  refine ⟨⟨by rw [hsl 29 rfl, v0 0 (by decide)]; exact a1, by rw [hsl 30 rfl, v0 1 (by decide)]; exact a2, by rw [h31, v02], by rw [hsl 32 rfl, v0 3 (by decide)]; exact a4, by rw [hsl 33 rfl, v0 4 (by decide)]; exact a5, by rw [hsl 36 rfl, v0 5 (by decide)]; exact a6, by rw [hsl 37 rfl, v0 6 (by decide)]; exact a7, by rw [hsl 38 rfl, v0 7 (by decide)]; exact a8, by rw [hsl 20 rfl, v0 9 (by decide)]; exact a9⟩, ?_, ?_, ?_, fun i hi => ?_⟩
  · unfold STm
    rw [hsl 17 rfl, hr 415 (by decide) (by decide), hr 416 (by decide) (by decide), v0 8 (by decide), vr 6 (by decide) (by decide), vr 7 (by decide) (by decide)]
    exact g1
  · rw [hl, v0 0 (by decide), vr 1 (by decide) (by decide)]
    exact g2
  · rw [hl, v0 1 (by decide), vr 2 (by decide) (by decide)]
    exact g3
  · rw [v0 1 (by decide)] at hi
    have := g4 i hi
    rw [hr 422 (by decide) (by decide), hr 423 (by decide) (by decide), h4, vr 3 (by decide) (by decide), vr 4 (by decide) (by decide), v5]
    refine ⟨this.1, this.2.1, ?_⟩
    split
    · rfl
    · split
      · rfl
      · exact this.2.2
theorem sp_mrFeud (hb : ∀ i, i < t → b i < 256) (hq : q ≤ t) (hM : MS b t q S) (hk : ¬ tK b t q = 1) (hV : MV S V) (hI : VI V) (hn : ¬ 10 ≤ V 0 2) : Ex G mX12_readFeud 4 [.ref 412] S (fun _ S1 => BDm b t S S1 (lnF1 b t V q)) := by
  have hE := tE_hi (b := b) hq
  have hE2 := tE_hi (b := b) hE
  have hE3 := tE_hi (b := b) hE2
  have hn5 := hI.1.2.1
  obtain ⟨Q, hQ⟩ : ∃ Q : Int32 → ovS → Prop, Q = (fun _ S1 => BDm b t S S1 (lnF1 b t V q)) := ⟨_, rfl⟩
  rw [← hQ]
  have eL : lnF1 b t V q = soL b t V (tE b t q) (fun a => if ¬ tK b t (tE b t (tE b t q)) = 261 then .inl (ftt b t (tE b t (tE b t q)) 2) else soL b t V (tE b t (tE b t (tE b t q))) (fun c => if a = c ∨ (V 5 a).testBit c = true then .inl (ftt b t (tE b t (tE b t (tE b t q))) 3) else scL b t (feV V a c) (tE b t (tE b t (tE b t (tE b t q)))))) := by
    rw [lnF1, if_neg hn]
  have bad63 : ∀ (e : Nat × Nat) (x y : Int32) (S1 : ovS), FZ Lz Jz S S1 → FLm e S1 → lnF1 b t V q = .inl e → RM G mX12_readFeud 4 Q 63 [some (.ref 412), some (.int x), some (.int y)] [] S1 := fun e x y S1 a1 a2 a3 => vX12_readFeud_63 ⟨fun z => absurd z a2.nl, fun _ => by rw [hQ]; exact BDm.bad a1 a3 a2⟩
  have bad20 : ∀ (e : Nat × Nat) (x : Int32) (S1 : ovS), FZ Lz Jz S S1 → FLm e S1 → lnF1 b t V q = .inl e → RM G mX12_readFeud 4 Q 20 [some (.ref 412), some (.int x), none] [] S1 := by
    intro e x S1 a1 a2 a3
    refine vX12_readFeud_20 ⟨_, sp_wantN a2, fun r3 S2 g => ?_⟩
    subst g
    refine ⟨_, sp_oldSoulN a2, fun r8 S7 g => ?_⟩
    obtain ⟨u1, u2⟩ := g
    subst u2
    exact ⟨fun _ => bad63 e x _ S7 a1 a2 a3, fun z => absurd z a2.n0⟩
  refine eX12_readFeud (vX12_readFeud_0 ⟨_, sp_tok hq hM hk, fun r3 S2 g => ?_⟩)
  obtain ⟨t1, t2⟩ := g
  have hV2 := hV.fz t1 rfl rfl
  refine ⟨_, sp_oldSoul hb hE t2 hn5 hV2.1.2.1 hV2.2.2.2.1 hI.2.2.2.1.2, fun r8 S7 g => ?_⟩
  rcases g with ⟨k1, k2, k3, k4⟩ | ⟨k5, k6, g⟩
  rotate_left
  · rcases g with ⟨k1, k7⟩ | ⟨k1, k2, k7⟩
    · exact ⟨fun _ => bad20 _ _ S7 ((t1.mono rfl rfl).tr (k5.mono rfl rfl)) k7 (by rw [eL, soL, if_pos k1]), fun z => absurd z k7.n0⟩
    · exact ⟨fun _ => bad20 _ _ S7 ((t1.mono rfl rfl).tr (k5.mono rfl rfl)) k7 (by rw [eL, soL, if_neg (fun y => y k1), if_pos k2]), fun z => absurd z k7.n0⟩
  subst k4
  refine ⟨fun z => absurd t2.2.2 z, fun _ => ⟨_, sp_tok hE t2 (by omega), fun r14 S13 g => ?_⟩⟩
  obtain ⟨s1, s2⟩ := g
  have hV3 := hV2.fz s1 rfl rfl
  rw [k3]
  rw [soL, if_neg (fun y => y k1), if_neg (fun y => y k2)] at eL
  generalize fndI (V 2) (tW b t (tE b t q)) (V 0 1) = a at *
  have hFS : FZ Lz Jz S S13 := (t1.mono rfl rfl).tr (s1.mono rfl rfl)
  refine vX12_readFeud_20 ⟨_, sp_want (j := 5) (by decide) rfl hb hE2 s2, fun r3 S15 g => ?_⟩
  rcases g with ⟨u1, u2, u3⟩ | ⟨u1, u2, u3⟩
  rotate_left
  · refine ⟨_, sp_oldSoulN u3, fun r8 S7 g => ?_⟩
    obtain ⟨y1, y2⟩ := g
    subst y2
    exact ⟨fun _ => bad63 _ _ _ S7 (hFS.tr (u2.mono rfl rfl)) u3 (by rw [eL, if_pos u1]), fun z => absurd z u3.n0⟩
  rw [if_neg (fun y => y u1)] at eL
  have hV4 := hV3.fz u2 rfl rfl
  have hFS4 : FZ Lz Jz S S15 := hFS.tr (u2.mono rfl rfl)
  refine ⟨_, sp_oldSoul hb hE3 u3 hn5 hV4.1.2.1 hV4.2.2.2.1 hI.2.2.2.1.2, fun r8 S16 g => ?_⟩
  rcases g with ⟨m1, m2, m3, m4⟩ | ⟨m5, m6, g⟩
  rotate_left
  · rcases g with ⟨m1, m7⟩ | ⟨m1, m2, m7⟩
    · exact ⟨fun _ => bad63 _ _ _ S16 (hFS4.tr (m5.mono rfl rfl)) m7 (by rw [eL, soL, if_pos m1]), fun z => absurd z m7.n0⟩
    · exact ⟨fun _ => bad63 _ _ _ S16 (hFS4.tr (m5.mono rfl rfl)) m7 (by rw [eL, soL, if_neg (fun y => y m1), if_pos m2]), fun z => absurd z m7.n0⟩
  subst m4
  rw [m3]
  rw [soL, if_neg (fun y => y m1), if_neg (fun y => y m2)] at eL
  generalize fndI (V 2) (tW b t (tE b t (tE b t (tE b t q)))) (V 0 1) = d at *
  have ha5 : a < 5 := by omega
  have hd5 : d < 5 := by omega
  have iA : vp_in (nI a) 5 := vp_in_nI ha5 (by decide)
  have iD : vp_in (nI d) 5 := vp_in_nI hd5 (by decide)
  have wr3 : (a = d ∨ (V 5 a).testBit d = true) → (∃ Q13, Ex G mX12_wrong 1 [.ref 412, .int 3] S16 Q13 ∧ ∀ (r15 : Int32) (S14 : ovS), Q13 r15 S14 → RM G mX12_readFeud 4 Q 63 [some (.ref 412), some (.int (nI a)), some (.int (nI d))] [] S14) := fun h => ⟨_, sp_wrong (c := 3) hb (by decide) (by decide) u3, fun r S1 g => bad63 _ _ _ S1 (hFS4.tr (g.1.mono rfl rfl)) g.2 (by rw [eL, if_pos h])⟩
  have hF5 := hI.2.2.1.1 a ha5
  have h32 : V 5 a < 32 := pow5l hn5 hF5
  refine ⟨fun z => absurd u3.2.2 z, fun _ => ⟨fun z => wr3 (Or.inl ((nI_eq_i (by omega) (by omega)).mp z)), fun z => ⟨iA, ?_⟩⟩⟩
  have hne : ¬ a = d := fun y => z (by rw [y])
  rw [nI_ix (n := a) (by omega), (hV4.2.2.2.2 a k2).2.2, sr5 _ h32 d hd5]
  refine ⟨fun y => vX12_readFeud_63 ⟨fun _ => ⟨iA, iA, fun S20 e20 => ⟨iD, iD, fun S21 e21 S22 e22 => ?_⟩⟩, fun x => absurd (z_le u3.2.2) x⟩, fun y => wr3 (Or.inr y)⟩
  rw [nI_ix (n := a) (by omega), (hV4.2.2.2.2 a k2).2.2, or5 (by omega)] at e20
  have e424d : S20.1 424 d = nI (V 5 d) := by
    rw [e20, stI_1, if_pos rfl, if_neg (fun x => hne x.symm)]
    exact (hV4.2.2.2.2 d m2).2.2
  rw [nI_ix (n := d) (by omega), e424d, or5 (by omega)] at e21
  have e31 : S21.1 412 31 = nI (V 0 2) := by rw [e21, stI_row (by decide), e20, stI_row (by decide)]; exact hV4.1.2.2.1
  rw [e31, nI_1] at e22
  have hF : FZ [424] [31] S16 S22 := by rw [e22, e21, e20]; exact ((FZ.rf.st rfl rfl).st rfl rfl).sm rfl
  refine ⟨_, sp_tok hE3 (u3.fz hF rfl rfl) (by omega), fun r7 S6 g => ?_⟩
  rw [hQ]
  refine ⟨(hFS4.tr (hF.mono rfl rfl)).tr (g.1.mono rfl rfl), Or.inr (Or.inr ⟨feV V a d, _, ?_, g.2, tE_hi hE3, ?_⟩)⟩
  · rw [eL, if_neg (fun x => x.elim hne y)]
  · refine MV.fz (S := S22) (hV4.feud (fun j hj => ?_) ?_ (fun k h1 h2 => ?_) ?_ hne (fun i => ?_)) g.1 rfl rfl
    · have hm : j ∈ [17, 20, 29, 30, 32, 33, 36, 37, 38] := by simpa using hj
      have h1 : ∀ j ∈ [17, 20, 29, 30, 32, 33, 36, 37, 38], [31].contains j = false := by decide
      exact hF.sl j (h1 j hm)
    · rw [e22, stI_1, if_pos rfl, if_pos rfl]
    · exact hF.at k (by simp [h1, h2])
    · exact hF.al 414 rfl
    · rw [e22, stI_row (by decide), e21, stI_1, if_pos rfl, e20, stI_1, if_pos rfl]
theorem sp_mrLoaf (hb : ∀ i, i < t → b i < 256) (ht : t ≤ 1600) (hq : q ≤ t) (hM : MS b t q S) (hk : ¬ tK b t q = 1) (hV : MV S (upV V 0 5 1)) (hI : VI V) (hn : V 0 5 = 0) : Ex G mX12_readLoaf 5 [.ref 412] S (fun _ S1 => BDm b t S S1 (lnL b t V q)) := by
  have hE := tE_hi (b := b) hq
  have h89 := hI.2.2.2.2.1 hn
  have v8 : upV V 0 5 1 0 8 = 0 := by rw [upV_ne (by decide)]; exact h89.1
  have v9 : upV V 0 5 1 0 9 = 0 := by rw [upV_ne (by decide)]; exact h89.2
  have hSI : SI (upV V 0 5 1) [] 0 0 := by
    refine ⟨by omega, by omega, ?_, by simp [cJ], by simp [cN, cB], ?_, ?_, ?_, fun s hs => absurd hs (by simp)⟩
    · rw [v8]
      rfl
    · rw [v8]
      simp [cJ, cN]
    · rw [v8]
      exact fun i hi => absurd hi (by omega)
    · rw [v8]
      exact fun i hi => absurd hi (by omega)
  have hok := fun V1 q1 h => fr_ok (b := b) 1601 (upV V 0 5 1) (tE b t q) true [] 0 V1 q1 hE (by rw [upV_ne (by decide)]; exact hI.1.1) hSI h
  refine eX12_readLoaf (vX12_readLoaf_0 ⟨_, sp_tok hq hM hk, fun r3 S2 g S6 e6 S7 e7 S8 e8 S9 e9 => ?_⟩)
  obtain ⟨g1, g2⟩ := g
  have hF9 : FZ [] [17, 19, 22, 23] S2 S9 := by rw [e9, e8, e7, e6]; exact (((FZ.rf.sm rfl).sm rfl).sm rfl).sm rfl
  have hM9 := g2.fz hF9 rfl rfl
  have hV2 := hV.fz g1 rfl rfl
  have hD9 : DNm S9 (upV V 0 5 1) := by
    refine ⟨by rw [hF9.sl 29 rfl]; exact hV2.1.1, by rw [upV_ne (by decide)]; exact hI.1.1, fun i hi => ?_, ?_⟩
    · rw [hF9.al 414 rfl]
      exact hV2.2.2.1 i hi
    · rw [upV_ne (by decide), upV_row (by decide)]
      exact hI.2.2.2.1.1
  have hW9 : MW S9 (upV V 0 5 1) [] := by
    refine ⟨⟨?_, fun i hi => ?_⟩, by rw [hF9.sl 20 rfl]; exact hV2.1.2.2.2.2.2.2.2.2, ?_, ?_, ?_, trivial⟩
    · rw [v8, e9, stI_1, if_pos rfl, if_neg (by decide), e8, stI_1, if_pos rfl, if_neg (by decide), e7, stI_1, if_pos rfl, if_neg (by decide), e6, stI_1, if_pos rfl, if_pos rfl]
      rfl
    · rw [v8] at hi
      omega
    · rw [v9, e9, stI_1, if_pos rfl, if_pos rfl]
      rfl
    · rw [e9, stI_1, if_pos rfl, if_neg (by decide), e8, stI_1, if_pos rfl, if_neg (by decide), e7, stI_1, if_pos rfl, if_pos rfl]
      rfl
    · rw [e9, stI_1, if_pos rfl, if_neg (by decide), e8, stI_1, if_pos rfl, if_pos rfl]
      rfl
  clear e6 e7 e8 e9
  have hFS : FZ Lz Jz S S9 := (g1.mono rfl rfl).tr (hF9.mono rfl rfl)
  obtain ⟨R, hR⟩ : ∃ R, R = frF b t 1601 (upV V 0 5 1) (tE b t q) true [] := ⟨_, rfl⟩
  -- from how readLoaf ends to the line
  have eLl : ∀ e, R = .inl e → lnL b t V q = .inl e := fun e h => by
    unfold lnL
    rw [if_neg (fun z => z hn), ← hR, h]
  have eLr : ∀ V1 q1, R = .inr (V1, q1) → lnL b t V q = scL b t V1 q1 := fun V1 q1 h => by
    unfold lnL
    rw [if_neg (fun z => z hn), ← hR, h]
  have wrap : ∀ S1, FZ Lu Ju S9 S1 → LRm b t S1 R → BDm b t S S1 (lnL b t V q) := by
    intro S1 a1 a2
    refine ⟨hFS.tr (a1.mono rfl rfl), ?_⟩
    rcases a2 with ⟨e, h1, h2⟩ | ⟨q', h1, h2, h3⟩ | ⟨V', q', h1, h2, h3, h4⟩
    · exact Or.inl ⟨e, eLl _ h1, h2⟩
    · exact Or.inr (Or.inl ⟨q', eLl _ h1, h2, h3⟩)
    · obtain ⟨f1, f2, f3, f4, f5, f6, f7, f8, f9⟩ := hok V' q' (by rw [← hR]; exact h1)
      refine Or.inr (Or.inr ⟨V', q', eLr _ _ h1, h2, f9, ?_⟩)
      obtain ⟨⟨a1', a2, a3, a4, a5, a6, a7, a8, a9⟩, u1, u2, u3, u4⟩ := hV2
      have sl : ∀ j, [29, 30, 31, 32, 33, 36, 37, 38].contains j = true → S1.1 412 j = S2.1 412 j := fun j hj => by
        have hm : j ∈ [29, 30, 31, 32, 33, 36, 37, 38] := by simpa using hj
        have h1 : ∀ j ∈ [29, 30, 31, 32, 33, 36, 37, 38], Ju.contains j = false ∧ [17, 19, 22, 23].contains j = false := by decide
        rw [a1.sl j (h1 j hm).1, hF9.sl j (h1 j hm).2]
      refine ⟨⟨?_, ?_, ?_, ?_, ?_, ?_, ?_, ?_, h4⟩, h3, ?_, ?_, ?_⟩
      · rw [sl 29 rfl, f1.2 0 (by decide) (by decide)]; exact a1'
      · rw [sl 30 rfl, f1.2 1 (by decide) (by decide)]; exact a2
      · rw [sl 31 rfl, f1.2 2 (by decide) (by decide)]; exact a3
      · rw [sl 32 rfl, f1.2 3 (by decide) (by decide)]; exact a4
      · rw [sl 33 rfl, f1.2 4 (by decide) (by decide)]; exact a5
      · rw [sl 36 rfl, f1.2 5 (by decide) (by decide)]; exact a6
      · rw [sl 37 rfl, f1.2 6 (by decide) (by decide)]; exact a7
      · rw [sl 38 rfl, f1.2 7 (by decide) (by decide)]; exact a8
      · rw [a1.al 414 rfl, hF9.al 414 rfl, f1.2 0 (by decide) (by decide), f1.1 1 (by decide) (by decide) (by decide)]; exact u2
      · rw [a1.al 414 rfl, hF9.al 414 rfl, f1.2 1 (by decide) (by decide), f1.1 2 (by decide) (by decide) (by decide)]; exact u3
      · rw [a1.at 422 rfl, a1.at 423 rfl, a1.at 424 rfl, hF9.at 422 rfl, hF9.at 423 rfl, hF9.at 424 rfl, f1.2 1 (by decide) (by decide), f1.1 3 (by decide) (by decide) (by decide), f1.1 4 (by decide) (by decide) (by decide), f1.1 5 (by decide) (by decide) (by decide)]; exact u4
  refine ⟨_, eX12_unit (vX12_unit_0 (sp_munit hb (S0 := S9) (V00 := upV V 0 5 1) (R := R) (F := 1601) 1601 (upV V 0 5 1) (tE b t q) [] 0 S9 (Nat.le_refl _) (by omega) hE hM9 hW9 hSI hD9 FZ.rf fKp.rf hR)), fun r12 S11 g => ?_⟩
  obtain ⟨k1, k2⟩ := g
  rcases k2 with ⟨e, h1, h2⟩ | ⟨f', V2, q', wl2, U2, hle, h1, h2, h3, h4, h5, h6, h7⟩
  · have hq0 : BDm b t S S11 (lnL b t V q) := wrap S11 k1 (Or.inl ⟨e, h1, h2⟩)
    have h157 : RM G mX12_readLoaf 5 (fun _ S1 => BDm b t S S1 (lnL b t V q)) 157 [some (.ref 412), none, none] [] S11 := vX12_readLoaf_157 ⟨fun _ => ⟨fun _ => hq0, fun z => absurd z h2.n0⟩, fun z => absurd z h2.n0⟩
    exact vX12_readLoaf_30 ⟨fun _ => h157, fun _ => ⟨fun _ => h157, fun z => absurd z h2.n0⟩⟩
  · exact sp_mLoop (G := G) hb (S0 := S9) (R := R) (fun S1 z1 z2 => wrap S1 z1 z2) f' V2 q' wl2 U2 S11 h2 h3 h4 h5 h6 (hD9.fz k1 rfl rfl h7) k1 h1
end
