/-! ===== the class's Reader: SOULS and FEUDS ===== -/
section
variable {G : ovG} {S : ovS} {b : Nat → Nat} {t q : Nat} {V : pV}
theorem FLc.fg {L : List Nat} {S1 : ovS} {e : Nat × Nat} (h : FLc e S) (hF : FG L S S1) (hL : L.contains 2 = false) : FLc e S1 := by
  unfold FLc
  rw [hF.at 2 hL]
  exact h
theorem sp_cSoul (hb : ∀ i, i < t → b i < 256) (hq : q ≤ t) (hX : TX b t S) (h0 : S.1 2 1 = 0) (hC : TC b t q S) (hV : CV S V) (hI : VI V) : Ex G mX5_readSoul 11 [.ref 2] S (fun _ S1 => BDc b t S S1 (lnS b t V q)) := by
  have hn5 := hI.1.2.1
  have hE := tE_hi (b := b) hq
  have hE2 := tE_hi (b := b) hE
  refine eX5_readSoul (vX5_readSoul_0 ?_)
  rw [hV.1.2.1, show (5 : Int32) = nI 5 from rfl, nI_le_i (by decide) (by omega)]
  refine ⟨fun c => ⟨_, sp_pF0 hb hq hX h0 hC, fun r4 S3 g => ⟨fun _ => ?_, fun z => absurd g.1 z⟩⟩, fun c => ⟨_, sp_pF1 hX hq hC, fun r23 S22 g => ?_⟩⟩
  · exact BDc.bad (g.2.1.mono rfl) (hX.fg g.2.1 rfl) (by rw [lnS, if_pos c]) g.2.2
  obtain ⟨g1, g2, g3, g4⟩ := g
  subst g1
  have hV2 := hV.fg g2 rfl
  have h02 : S22.1 2 1 = 0 := by rw [g2.at 2 rfl]; exact h0
  refine ⟨fun z => absurd z (by decide), fun _ => ?_⟩
  rw [hV2.1.2.1]
  refine ⟨_, sp_newN_b hb hE g3 h02 g4 hn5 hV2.2.2.2.1, fun r29 S28 g => ?_⟩
  rcases g with ⟨k1, k2, k3, k4⟩ | ⟨k1, k3, k4, k5⟩ | ⟨k1, k2, k3, k4, k5⟩
  rotate_left
  · subst k3
    refine ⟨fun z => absurd rfl z, fun _ => ?_⟩
    exact BDc.bad ((g2.mono rfl).tr (k4.mono rfl)) (g3.fg k4 rfl) (by rw [lnS, if_neg c, if_pos k1]) k5
  · subst k3
    refine ⟨fun z => absurd rfl z, fun _ => ?_⟩
    exact BDc.bad ((g2.mono rfl).tr (k4.mono rfl)) (g3.fg k4 rfl) (by rw [lnS, if_neg c, if_neg (fun z => z k1), if_pos k2]) k5
  subst k3 k4
  refine ⟨fun _ => ?_, fun z => absurd z (by decide)⟩
  rw [hV2.1.2.1, nI_ix (n := V 0 1) (by omega)]
  refine ⟨vp_in_nI (by omega) (by decide), fun S57 e57 S58 e58 => ?_⟩
  rw [g4.2.2.2.2 k1] at e57
  have e31 : S57.1 3 0 = nI (V 0 1) := by rw [e57, stJ_1]; exact hV2.1.2.1
  rw [e31, nI_1, e57] at e58
  have hV3 := hV2.soul (n := V 0 1) rfl (tW_lt hb hE (Or.inl k1)) e58
  have hF58 : FG [3, 12] S28 S58 := by
    rw [e58]
    exact (FG.rf.sj rfl).st rfl
  have hFS : FG Lr S S58 := (g2.mono rfl).tr (hF58.mono rfl)
  clear e58 e57 e31
  have eL : lnS b t V q = lnS2 b t (upV (upV V 2 (V 0 1) (tW b t (tE b t q))) 0 1 (V 0 1 + 1)) (V 0 1) (tE b t (tE b t q)) := by
    rw [lnS, if_neg c, if_neg (fun z => z k1), if_neg k2]
  rw [eL]
  have z4 : upV (upV V 2 (V 0 1) (tW b t (tE b t q))) 0 1 (V 0 1 + 1) 4 (V 0 1) = 0 := by
    rw [upV_row (by decide), upV_row (by decide)]
    exact ((hI.2.1 (V 0 1) (by omega)).2.2 (Nat.le_refl _)).2.1
  have z5 : upV (upV V 2 (V 0 1) (tW b t (tE b t q))) 0 1 (V 0 1 + 1) 5 (V 0 1) = 0 := by
    rw [upV_row (by decide), upV_row (by decide)]
    exact ((hI.2.1 (V 0 1) (by omega)).2.2 (Nat.le_refl _)).2.2
  generalize upV (upV V 2 (V 0 1) (tW b t (tE b t q))) 0 1 (V 0 1 + 1) = V1 at *
  generalize hs : V 0 1 = s at *
  refine ⟨_, sp_adv (g3.fg hF58 rfl) hE (g4.fg hF58 rfl), fun r61 S60 g => ?_⟩
  obtain ⟨p1, p2, p3⟩ := g
  have h03 : S60.1 2 1 = 0 := by rw [p1.at 2 rfl, hF58.at 2 rfl]; exact h02
  have h22 : S60.1 2 2 = S.1 2 2 := by rw [p1.at 2 rfl, hF58.at 2 rfl, g2.at 2 rfl]
  have hV4 := hV3.fg p1 rfl
  have hF60 : FG Lr S S60 := hFS.tr (p1.mono rfl)
  have hE3 := tE_hi (b := b) hE2
  have hE4 := tE_hi (b := b) hE3
  refine ⟨_, sp_passF (k := 258) hb hE2 p2 (by decide) h03 p3, fun r66 S65 g => ?_⟩
  rcases g with ⟨u1, u2, u3, u4⟩ | ⟨u1, u2, u3⟩
  · have h05 : S65.1 2 1 = 0 := by rw [u2.at 2 rfl]; exact h03
    refine ⟨_, sp_readNumber (m := 99) hb hE3 u3 h05 u4 (by decide), fun r71 S70 g => ⟨vp_in_nI (by omega) (by decide), fun S74 e74 => ?_⟩⟩
    have hF74 : FG [4] S70 S74 := by rw [e74]; exact FG.rf.st rfl
    rcases g with ⟨n1, n2, n3, n4, n5, n6⟩ | ⟨n1, n4, n5⟩ | ⟨n1, n2, n4, n5⟩
    · rw [n3] at e74
      have hV5 := ((hV4.fg u2 rfl).fg n4 rfl).row (o := 4) (r := 3) (by omega) e74
      have h07 : S74.1 2 1 = 0 := by rw [hF74.at 2 rfl, n4.at 2 rfl]; exact h05
      have h27 : S74.1 2 2 = S.1 2 2 := by rw [hF74.at 2 rfl, n4.at 2 rfl, u2.at 2 rfl]; exact h22
      have hX7 := n5.fg hF74 rfl
      have hC7 := n6.fg hF74 rfl
      have hFS7 : FG Lr S S74 := ((hF60.tr (u2.mono rfl)).tr (n4.mono rfl)).tr (hF74.mono rfl)
      have hkt := tK_lt (q := tE b t (tE b t (tE b t (tE b t q)))) hb
      have v4 : upV V1 3 s (tN b t (tE b t (tE b t (tE b t q)))) 4 s = 0 := by rw [upV_row (by decide)]; exact z4
      have v5 : upV V1 3 s (tN b t (tE b t (tE b t (tE b t q)))) 5 s = 0 := by rw [upV_row (by decide)]; exact z5
      refine ⟨fun z => absurd h07 z, fun _ => ?_⟩
      rw [hC7.1, show (259 : Int32) = nI 259 from rfl, nI_eq_i (by omega) (by decide)]
      refine ⟨fun z => ⟨hFS7, hX7, Or.inr ⟨_, _, ?_, h07, h27, hV5, hC7, hE4⟩⟩, fun z => ⟨_, sp_adv hX7 hE4 hC7, fun r79 S78 g => ?_⟩⟩
      · rw [lnS2, if_neg (fun y => y u1), nuL, if_neg (fun y => y n1), if_neg n2, if_neg z]
        have e1 : upV (upV V1 3 s (tN b t (tE b t (tE b t (tE b t q))))) 4 s 0 = upV V1 3 s (tN b t (tE b t (tE b t (tE b t q)))) := by
          have := upV_id (V := upV V1 3 s (tN b t (tE b t (tE b t (tE b t q))))) (r := 4) (i := s)
          rw [v4] at this
          exact this
        have e2 : upV (upV V1 3 s (tN b t (tE b t (tE b t (tE b t q))))) 5 s 0 = upV V1 3 s (tN b t (tE b t (tE b t (tE b t q)))) := by
          have := upV_id (V := upV V1 3 s (tN b t (tE b t (tE b t (tE b t q))))) (r := 5) (i := s)
          rw [v5] at this
          exact this
        rw [e1, e2]
      · obtain ⟨w1, w2, w3⟩ := g
        have h08 : S78.1 2 1 = 0 := by rw [w1.at 2 rfl]; exact h07
        have hE5 := tE_hi (b := b) hE4
        have hE6 := tE_hi (b := b) hE5
        refine ⟨_, sp_readNumber (m := 99) hb hE5 w2 h08 w3 (by decide), fun r84 S83 g => ⟨vp_in_nI (by omega) (by decide), fun S87 e87 => ?_⟩⟩
        have hF87 : FG [5] S83 S87 := by rw [e87]; exact FG.rf.st rfl
        rcases g with ⟨m1, m2, m3, m4, m5, m6⟩ | ⟨m1, m4, m5⟩ | ⟨m1, m2, m4, m5⟩
        · rw [m3] at e87
          have hV6 := ((hV5.fg w1 rfl).fg m4 rfl).row (o := 5) (r := 4) (by omega) e87
          refine ⟨((hFS7.tr (w1.mono rfl)).tr (m4.mono rfl)).tr (hF87.mono rfl), m5.fg hF87 rfl, Or.inr ⟨_, _, ?_, ?_, ?_, hV6, m6.fg hF87 rfl, hE6⟩⟩
          · rw [lnS2, if_neg (fun y => y u1), nuL, if_neg (fun y => y n1), if_neg n2, if_pos z, nuL, if_neg (fun y => y m1), if_neg m2]
            have e2 : ∀ x, upV (upV (upV V1 3 s (tN b t (tE b t (tE b t (tE b t q))))) 4 s x) 5 s 0 = upV (upV V1 3 s (tN b t (tE b t (tE b t (tE b t q))))) 4 s x := by
              intro x
              have := upV_id (V := upV (upV V1 3 s (tN b t (tE b t (tE b t (tE b t q))))) 4 s x) (r := 5) (i := s)
              rw [upV_row (V := upV V1 3 s (tN b t (tE b t (tE b t (tE b t q))))) (a := 5) (by decide), v5] at this
              exact this
            rw [e2]
          · rw [hF87.at 2 rfl, m4.at 2 rfl]; exact h08
          · rw [hF87.at 2 rfl, m4.at 2 rfl, w1.at 2 rfl]; exact h27
        · refine BDc.bad (((hFS7.tr (w1.mono rfl)).tr (m4.mono rfl)).tr (hF87.mono rfl)) ((w2.fg m4 rfl).fg hF87 rfl) ?_ (m5.fg hF87 rfl)
          rw [lnS2, if_neg (fun y => y u1), nuL, if_neg (fun y => y n1), if_neg n2, if_pos z, nuL, if_pos m1]
        · refine BDc.bad (((hFS7.tr (w1.mono rfl)).tr (m4.mono rfl)).tr (hF87.mono rfl)) ((w2.fg m4 rfl).fg hF87 rfl) ?_ (m5.fg hF87 rfl)
          rw [lnS2, if_neg (fun y => y u1), nuL, if_neg (fun y => y n1), if_neg n2, if_pos z, nuL, if_neg (fun y => y m1), if_pos m2]
    · have hL := n5.fg hF74 rfl
      refine ⟨fun _ => BDc.bad (((hF60.tr (u2.mono rfl)).tr (n4.mono rfl)).tr (hF74.mono rfl)) ((u3.fg n4 rfl).fg hF74 rfl) ?_ hL, fun z => absurd z hL.n0⟩
      rw [lnS2, if_neg (fun y => y u1), nuL, if_pos n1]
    · have hL := n5.fg hF74 rfl
      refine ⟨fun _ => BDc.bad (((hF60.tr (u2.mono rfl)).tr (n4.mono rfl)).tr (hF74.mono rfl)) ((u3.fg n4 rfl).fg hF74 rfl) ?_ hL, fun z => absurd z hL.n0⟩
      rw [lnS2, if_neg (fun y => y u1), nuL, if_neg (fun y => y n1), if_pos n2]
  · refine ⟨_, sp_readNumN u3.n0, fun r71 S70 g => ⟨vp_in_nI (by omega) (by decide), fun S74 e74 => ?_⟩⟩
    obtain ⟨y1, y2⟩ := g
    subst y2
    have hF74 : FG [4] S70 S74 := by rw [e74]; exact FG.rf.st rfl
    have hL := u3.fg hF74 rfl
    refine ⟨fun _ => BDc.bad ((hF60.tr (u2.mono rfl)).tr (hF74.mono rfl)) ((p2.fg u2 rfl).fg hF74 rfl) ?_ hL, fun z => absurd z hL.n0⟩
    rw [lnS2, if_pos u1]
theorem sp_cFeud (hb : ∀ i, i < t → b i < 256) (hq : q ≤ t) (hX : TX b t S) (h0 : S.1 2 1 = 0) (hC : TC b t q S) (hV : CV S V) (hI : VI V) : Ex G mX5_readFeud 11 [.ref 2] S (fun _ S1 => BDc b t S S1 (lnF1 b t V q)) := by
  have hn5 := hI.1.2.1
  have hf10 := hI.1.2.2.1
  have hE := tE_hi (b := b) hq
  have hE2 := tE_hi (b := b) hE
  have hE3 := tE_hi (b := b) hE2
  refine eX5_readFeud (vX5_readFeud_0 ?_)
  rw [hV.1.2.2.1, show (10 : Int32) = nI 10 from rfl, nI_le_i (by decide) (by omega)]
  refine ⟨fun c => ⟨_, sp_pF0 hb hq hX h0 hC, fun r4 S3 g => ⟨fun z => absurd g.1 z, fun _ => ?_⟩⟩, fun c => ⟨_, sp_pF1 hX hq hC, fun r23 S22 g => ?_⟩⟩
  · exact BDc.bad (g.2.1.mono rfl) (hX.fg g.2.1 rfl) (by rw [lnF1, if_pos c]) g.2.2
  obtain ⟨g1, g2, g3, g4⟩ := g
  subst g1
  have hV2 := hV.fg g2 rfl
  have h02 : S22.1 2 1 = 0 := by rw [g2.at 2 rfl]; exact h0
  refine ⟨fun _ => ?_, fun z => absurd z (by decide)⟩
  have eL : lnF1 b t V q = soL b t V (tE b t q) (fun a => if ¬ tK b t (tE b t (tE b t q)) = 261 then .inl (ftt b t (tE b t (tE b t q)) 2) else soL b t V (tE b t (tE b t (tE b t q))) (fun c => if a = c ∨ (V 5 a).testBit c = true then .inl (ftt b t (tE b t (tE b t (tE b t q))) 3) else scL b t (feV V a c) (tE b t (tE b t (tE b t (tE b t q)))))) := by
    rw [lnF1, if_neg c]
  rw [eL]
  have sn : Ex G mX5_readSoulName 10 [.ref 2] S22 (fun r S1 => (tK b t (tE b t q) = 3 ∧ fndI (V 2) (tW b t (tE b t q)) (V 0 1) < V 0 1 ∧ r = nI (fndI (V 2) (tW b t (tE b t q)) (V 0 1)) ∧ FG [13] S22 S1 ∧ TX b t S1 ∧ TC b t (tE b t (tE b t q)) S1) ∨ (r = -1 ∧ FG [2] S22 S1 ∧ ∃ e, FLc e S1 ∧ ∀ k, soL b t V (tE b t q) k = .inl e)) := by
    refine eX5_readSoulName (vX5_readSoulName_0 ⟨_, sp_soulHere hb hE g3 h02 g4 hn5 hV2.1.2.1 hV2.2.2.2.1, fun r3 S2 g => ?_⟩)
    rcases g with ⟨k1, k2, k3, k4⟩ | ⟨k1, k3, k4, k5⟩ | ⟨k1, k2, k3, k4, k5⟩
    · subst k4
      refine ⟨fun z => ?_, fun _ => ⟨_, sp_adv g3 hE g4, fun r9 S8 g => Or.inl ⟨k1, k2, k3, g⟩⟩⟩
      rw [k3] at z
      exact absurd (show nI (fndI (V 2) (tW b t (tE b t q)) (V 0 1)) < 0 by rw [z]; decide) (nI_neg (by omega))
    · exact ⟨fun _ => Or.inr ⟨k3, k4, _, k5, fun k => by rw [soL, if_pos k1]⟩, fun z => absurd k3 z⟩
    · exact ⟨fun _ => Or.inr ⟨k3, k4, _, k5, fun k => by rw [soL, if_neg (fun y => y k1), if_pos k2]⟩, fun z => absurd k3 z⟩
  refine ⟨_, sn, fun r54 S53 g => ?_⟩
  rcases g with ⟨k1, k2, k3, k4, k5, k6⟩ | ⟨k3, k4, e, k5, k6⟩
  rotate_left
  · refine ⟨_, sp_passN k5.n0, fun r59 S58 g => ?_⟩
    subst g
    exact ⟨fun z => absurd z k5.n0, fun _ => BDc.bad ((g2.mono rfl).tr (k4.mono rfl)) (g3.fg k4 rfl) (k6 _) k5⟩
  have h05 : S53.1 2 1 = 0 := by rw [k4.at 2 rfl]; exact h02
  have hV5 := hV2.fg k4 rfl
  have hFS : FG Lr S S53 := (g2.mono rfl).tr (k4.mono rfl)
  rw [soL, if_neg (fun y => y k1), if_neg (fun y => y k2)]
  generalize fndI (V 2) (tW b t (tE b t q)) (V 0 1) = a at *
  refine ⟨_, sp_passF (k := 261) hb hE2 k5 (by decide) h05 k6, fun r59 S58 g => ?_⟩
  rcases g with ⟨u1, u2, u3, u4⟩ | ⟨u1, u2, u3⟩
  rotate_left
  · refine ⟨fun z => absurd z u3.n0, fun _ => BDc.bad (hFS.tr (u2.mono rfl)) (k5.fg u2 rfl) ?_ u3⟩
    rw [if_pos u1]
  have h06 : S58.1 2 1 = 0 := by rw [u2.at 2 rfl]; exact h05
  have hV6 := hV5.fg u2 rfl
  have hFS6 : FG Lr S S58 := hFS.tr (u2.mono rfl)
  refine ⟨fun _ => ?_, fun z => absurd h06 z⟩
  rw [if_neg (fun y => y u1)]
  refine ⟨_, sp_soulHere hb hE3 u3 h06 u4 hn5 hV6.1.2.1 hV6.2.2.2.1, fun r65 S64 g => ?_⟩
  rw [k3]
  rcases g with ⟨m1, m2, m3, m4⟩ | ⟨m1, m3, m4, m5⟩ | ⟨m1, m2, m3, m4, m5⟩
  · subst m4
    rw [m3]
    rw [soL, if_neg (fun y => y m1), if_neg (fun y => y m2)]
    generalize fndI (V 2) (tW b t (tE b t (tE b t (tE b t q)))) (V 0 1) = d at *
    have ha5 : a < 5 := by omega
    have hd5 : d < 5 := by omega
    have iA : vp_in (nI a) 5 := vp_in_nI ha5 (by decide)
    have iD : vp_in (nI d) 5 := vp_in_nI hd5 (by decide)
    refine ⟨fun z => absurd z (nI_neg (by omega)), fun _ => ⟨fun _ => ⟨fun z => ?_, fun z => ⟨iA, ?_⟩⟩, fun z => absurd (Int32.not_lt.mp (nI_neg (by omega))) z⟩⟩
    · have e : a = d := (nI_eq_i (by omega) (by omega)).mp z
      refine ⟨_, sp_fail (c := 3) hb hE3 hX.1 (by decide) (by decide) h06 u4, fun r S1 g => BDc.bad (hFS6.tr (g.1.mono rfl)) (u3.fg g.1 rfl) ?_ g.2⟩
      rw [if_pos (Or.inl e)]
    · have e : ¬ a = d := fun y => z (by rw [y])
      rw [nI_ix (n := a) (by omega), nI_ix (n := d) (by omega), (hV6.2.2.2.2 a ha5).2.2, bit_iff (by omega)]
      refine ⟨fun y => ⟨iA, iA, fun S77 e77 => ⟨iD, iD, fun S78 e78 S79 e79 => ?_⟩⟩, fun y => ⟨_, sp_fail (c := 3) hb hE3 hX.1 (by decide) (by decide) h06 u4, fun r S1 g => BDc.bad (hFS6.tr (g.1.mono rfl)) (u3.fg g.1 rfl) ?_ g.2⟩⟩
      · rw [or5 (by omega)] at e77
        have hV7 := hV6.row (o := 6) (r := 5) (by omega) e77
        rw [(hV7.2.2.2.2 d hd5).2.2, or5 (by omega)] at e78
        have hV8 := hV7.row (o := 6) (r := 5) (by omega) e78
        have e27 : S78.1 2 7 = nI (V 0 2) := by rw [e78, stI_row (by decide), e77, stI_row (by decide)]; exact hV6.1.2.2.1
        rw [e27, nI_1] at e79
        have hV9 := hV8.num (o := 2) (j := 7) (r := 2) (v := V 0 2 + 1) (by omega) e79
        have hF79 : FG [2, 6] S64 S79 := by
          rw [e79, e78, e77]
          exact ((FG.rf.st rfl).st rfl).st rfl
        refine ⟨_, sp_adv (u3.fg hF79 rfl) hE3 (u4.fg hF79 rfl), fun r82 S81 g => ⟨(hFS6.tr (hF79.mono rfl)).tr (g.1.mono rfl), g.2.1, Or.inr ⟨_, _, ?_, ?_, ?_, hV9.fg g.1 rfl, g.2.2, tE_hi hE3⟩⟩⟩
        · rw [if_neg (fun x => x.elim e (fun x => by rw [y] at x; cases x))]
          rfl
        · rw [g.1.at 2 rfl, e79, stI_1, if_pos rfl, if_neg (by decide), e78, stI_row (by decide), e77, stI_row (by decide)]; exact h06
        · rw [g.1.at 2 rfl, e79, stI_1, if_pos rfl, if_neg (by decide), e78, stI_row (by decide), e77, stI_row (by decide), u2.at 2 rfl, k4.at 2 rfl, g2.at 2 rfl]
      · rw [if_pos]
        right
        revert y
        cases (V 5 a).testBit d <;> simp
  · rw [m3]
    refine ⟨fun z => absurd z (nI_neg (by omega)), fun _ => ⟨fun z => absurd z (by decide), fun _ => BDc.bad (hFS6.tr (m4.mono rfl)) (u3.fg m4 rfl) ?_ m5⟩⟩
    rw [soL, if_pos m1]
  · rw [m3]
    refine ⟨fun z => absurd z (nI_neg (by omega)), fun _ => ⟨fun z => absurd z (by decide), fun _ => BDc.bad (hFS6.tr (m4.mono rfl)) (u3.fg m4 rfl) ?_ m5⟩⟩
    rw [soL, if_neg (fun y => y m1), if_pos m2]
end
