/-! ===== the class reads an e: joining, and all ===== -/
theorem TC.fg {b : Nat → Nat} {t q : Nat} {L : List Nat} {S S1 : ovS} (h : TC b t q S) (hF : FG L S S1) (hL : L.contains 13 = false) : TC b t q S1 := by
  unfold TC
  rw [hF.at 13 hL, hF.al 13 hL]
  exact h
theorem TX.fg {b : Nat → Nat} {t : Nat} {L : List Nat} {S S1 : ovS} (h : TX b t S) (hF : FG L S S1) (hL : (L.contains 13 || L.contains 1) = false) : TX b t S1 := by
  rw [Bool.or_eq_false_iff] at hL
  exact h.cg (hF.at 1 hL.2) (by rw [hF.at 13 hL.1])
theorem DNc.fg {L : List Nat} {S S1 : ovS} {V V1 : pV} (h : DNc S V) (hF : FG L S S1) (hL : (L.contains 3 || L.contains 11) = false) (hV : fKp V V1) : DNc S1 V1 := by
  rw [Bool.or_eq_false_iff] at hL
  unfold DNc
  rw [hF.at 3 hL.1, hF.al 11 hL.2, hV.1 1 (by decide) (by decide) (by decide), hV.2 0 (by decide) (by decide)]
  exact h
theorem CW.fa {S S1 : ovS} {V : pV} {wl : List Nat} {d : Bool} (h : CW S V wl d) (hF : FG [13] S S1) : CW S1 V wl d := by
  unfold CW STc
  rw [hF.at 7 rfl, hF.at 8 rfl, hF.at 9 rfl, hF.at 14 rfl, hF.at 15 rfl]
  exact h
section
variable {G : ovG} {S : ovS} {b : Nat → Nat} {t q : Nat} {V : pV} {wl : List Nat} {U : Nat}
theorem sp_readJoining (hb : ∀ i, i < t → b i < 256) (hC : TC b t q S) (hW : CW S V wl false) (hS : SI V wl U 1) (hn : ¬ (tK b t q = 59 ∧ cB wl = 0)) : Ex G mX2_readJoining 4 [.ref 14] S (fun r S1 => FG [7, 8, 9, 14, 15] S S1 ∧ PSt b t V q false wl r S1) := by
  obtain ⟨w1, w2, w3, w4, w5, w6, w7, w8⟩ := hW
  have hk := tK_lt (q := q) hb
  have hlen := hS.len
  have hw7 := hS.2.2.2.2.1
  have hmem := hS.2.2.2.2.2.2.2.2
  have eK : ∀ j, j < 271 → (S.1 13 0 = nI j ↔ tK b t q = j) := fun j hj => by rw [hC.1]; exact nI_eq_i (by omega) (by omega)
  obtain ⟨Q, hQ⟩ : ∃ Q : Int32 → ovS → Prop, Q = (fun r S1 => FG [7, 8, 9, 14, 15] S S1 ∧ PSt b t V q false wl r S1) := ⟨_, rfl⟩
  rw [← hQ]
  refine eX2_readJoining (vX2_readJoining_0 ⟨fun z => ?_, fun z => ?_⟩)
  · have c41 : ¬ tK b t q = 41 := fun x => z ((eK 41 (by decide)).mpr x)
    rw [hC.1]
    refine ⟨_, sp_stepOfJoining hk, fun r4 S3 g => ?_⟩
    obtain ⟨q1, q2⟩ := g
    subst q2
    by_cases c99 : joS (tK b t q) = 99
    · rw [if_pos c99] at q1
      rw [q1]
      refine ⟨fun x => absurd rfl x, fun _ => ?_⟩
      rw [hQ]
      refine ⟨FG.rf, Or.inl ⟨2, rfl, by decide, by decide, fun f => ?_⟩⟩
      rw [frF, if_neg hn, if_neg c41, if_pos c99]
    · rw [if_neg c99] at q1
      have hj := (jo_r (tK b t q)).resolve_left c99
      have h0 : ¬ tK b t q = 0 := fun x => c99 (by rw [x]; rfl)
      rw [q1]
      generalize hJ : joS (tK b t q) = j at *
      have hr := rk_lt j (by omega)
      have hr1 : 1 ≤ rk j := by
        have hh : ∀ s, s < 18 → 6 ≤ s → ¬ s = 17 → 1 ≤ rk s := by decide
        exact hh j (by omega) hj.1 (by omega)
      have hr3 : ¬ rk j = 3 := by
        have hh : ∀ s, s < 17 → 6 ≤ s → ¬ s = 8 → ¬ rk s = 3 := by decide
        exact hh j (by omega) hj.1 hj.2.2
      have fin : ∀ S' : ovS, STc S' (uwV (rk j) wl V) → S'.1 14 4 = nI (uwR (rk j) wl).length → S'.1 14 6 = nI (cN (uwR (rk j) wl) + cB (uwR (rk j) wl)) → SN (S'.1 15) (uwR (rk j) wl) → FG [7, 8, 9, 14] S3 S' → (∀ i, i ≠ 4 → i ≠ 6 → S'.1 14 i = S3.1 14 i) → S'.1 7 0 = S3.1 7 0 → ¬ (rk j = 4 ∧ relN wl = true) → RM G mX2_readJoining 4 Q 86 [some (.ref 14), some (.int (nI j)), some (.int (nI (rk j)))] [] S' := by
        intro S' a1 a2 a3 a4 a5 a6 a7 a8
        have hS' := SI.uw hr1 hS
        have hlen' := hS'.len
        have last : ∀ (x : Int32) (S1 S2 : ovS), S1 = stI S' 14 7 1 → S2 = stI S1 14 8 x → x = bI (mayN (j :: uwR (rk j) wl)) → (∃ Q4, Ex G mX2_letWait 1 [.ref 14, .int (nI j)] S2 Q4 ∧ ∀ (r6 : Int32) (S5 : ovS), Q4 r6 S5 → Q r6 S5) := by
          intro x S1 S2 e1 e2 hx
          refine ⟨_, sp_letWait (S := S2) (s := j) (wl := uwR (rk j) wl) ?_ (by omega) ?_, fun r6 S5 g => ?_⟩
          · rw [e2, stI_1, if_pos rfl, if_neg (by decide), e1, stI_1, if_pos rfl, if_neg (by decide)]; exact a2
          · rw [e2, stI_row (by decide), e1, stI_row (by decide)]; exact a4
          · obtain ⟨g1, g2, g3, g4, g5⟩ := g
            have hF2 : FG [7, 8, 9, 14, 15] S3 S2 := by
              rw [e2, e1]
              exact ((a5.mono rfl).st rfl).st rfl
            have b14 : ∀ i, i ≠ 4 → i ≠ 7 → i ≠ 8 → S5.1 14 i = S'.1 14 i := fun i h1 h2 h3 => by
              rw [g5 i h1, e2, stI_1, if_pos rfl, if_neg h3, e1, stI_1, if_pos rfl, if_neg h2]
            rw [hQ]
            refine ⟨hF2.tr (g4.mono rfl), Or.inr ⟨g1, h0, uwV (rk j) wl V, true, j :: uwR (rk j) wl, U, fun f => ?_, ⟨?_, ?_, g2, ?_, ?_, ?_, fun _ => ?_, g3⟩, hS'.join hj.1 hj.2.1 hj.2.2, fKp.uw⟩⟩
            · rw [frF, if_neg hn, if_neg c41, hJ, if_neg c99, if_neg a8]
            · refine a1.cg ?_ ?_ ?_
              · rw [g4.at 7 rfl, e2, stI_row (by decide), e1, stI_row (by decide)]
              · rw [g4.at 8 rfl, e2, stI_row (by decide), e1, stI_row (by decide)]
              · rw [g4.at 9 rfl, e2, stI_row (by decide), e1, stI_row (by decide)]
            · rw [g4.at 7 rfl, e2, stI_row (by decide), e1, stI_row (by decide), a7, w2, uw_9]
            · rw [b14 5 (by decide) (by decide) (by decide), a6 5 (by decide) (by decide), w4, cB, if_neg (by omega), uw_cB hr1, Nat.zero_add]
            · rw [b14 6 (by decide) (by decide) (by decide), a3, cN, cB, if_neg hj.2.2, if_neg (by omega), Nat.zero_add, Nat.zero_add]
            · rw [g5 7 (by decide), e2, stI_1, if_pos rfl, if_neg (by decide), e1, stI_1, if_pos rfl, if_pos rfl]
              rfl
            · rw [g5 8 (by decide), e2, stI_1, if_pos rfl, if_pos rfl, hx]
        refine vX2_readJoining_86 (fun S1 e1 => ?_)
        rw [show (2 : Int32) = nI 2 from rfl, nI_lt_i (by decide) (by omega)]
        refine ⟨fun c S2 e2 => last 0 S1 S2 e1 e2 ?_, fun c S2 e2 => last 1 S1 S2 e1 e2 ?_⟩
        · rw [mayN, decide_eq_false (by omega)]
          rfl
        · rw [mayN, decide_eq_true (by omega)]
          rfl
      have hne : ¬ nI j = -1 := fun x => absurd (show nI j < 0 by rw [x]; decide) (nI_neg (by omega))
      refine ⟨fun _ => ⟨vp_in_nI (by omega) (by decide), ?_⟩, fun x => absurd x hne⟩
      rw [nI_ix (n := j) (by omega), oRk_n j (by omega), show (4 : Int32) = nI 4 from rfl, nI_eq_i (by omega) (by decide)]
      refine ⟨fun c => ⟨_, sp_unwind hr1 hr hS w1 w3 w5 w8, fun r11 S10 g => ?_⟩, fun c => ?_⟩
      · obtain ⟨g1, g2, g3, g4, g5, g6, g7⟩ := g
        exact fin S10 g1 g2 g3 g4 g5 g6 g7 (fun x => c x.1)
      · rw [nI_1]
        refine ⟨_, sp_unwind (r := rk j + 1) (by omega) (by omega) hS w1 w3 w5 w8, fun r16 S15 g => ?_⟩
        obtain ⟨g1, g2, g3, g4, g5, g6, g7⟩ := g
        rw [show rk j + 1 = 5 by omega] at g1 g2 g3 g4
        have hlen5 := (SI.uw (r := 5) (by decide) hS).len
        have fin' : relN wl = false → RM G mX2_readJoining 4 Q 86 [some (.ref 14), some (.int (nI j)), some (.int (nI (rk j)))] [] S15 := by
          intro hrel
          obtain ⟨u1, u2⟩ := rel_uw (V := V) hrel
          refine fin S15 ?_ ?_ ?_ ?_ g5 g6 g7 (fun x => by rw [hrel] at x; cases x.2)
          · rw [c, u2]; exact g1
          · rw [c, u1]; exact g2
          · rw [c, u1]; exact g3
          · rw [c, u1]; exact g4
        have hrel : relN wl = match uwR 5 wl with | [] => false | s :: _ => decide (rk s = 4) := rfl
        rw [g2, show (0 : Int32) = nI 0 from rfl, nI_le_i (by omega) (by decide)]
        cases hu : uwR 5 wl with
        | nil =>
          rw [hu] at hrel
          exact ⟨fun _ => fin' hrel, fun x => absurd (Nat.le_refl _) x⟩
        | cons s l =>
          rw [hu] at hrel g4 hlen5
          have hs := hmem s (uwR_mem (r := 5) (by rw [hu]; exact List.mem_cons_self ..))
          rw [List.length_cons] at hlen5 ⊢
          refine ⟨fun x => absurd x (by omega), fun _ => ?_⟩
          rw [nI_pred, nI_ix (n := l.length) (by omega), g4.1, nI_ix (n := s) (by omega), show nI 0 = (0 : Int32) from rfl, oRk_n s (by omega), nI_eq_i (by have := rk_lt s (by omega); omega) (by decide)]
          refine ⟨vp_in_nI (by omega) (by decide), vp_in_nI (by omega) (by decide), fun x => fin' (by rw [hrel]; exact decide_eq_false x), fun x => ?_⟩
          rw [hQ]
          refine ⟨g5.mono rfl, Or.inl ⟨2, rfl, by decide, by decide, fun f => ?_⟩⟩
          rw [frF, if_neg hn, if_neg c41, hJ, if_neg c99, if_pos ⟨c, by rw [hrel]; exact decide_eq_true x⟩]
  · have c41 : tK b t q = 41 := (eK 41 (by decide)).mp z
    refine ⟨_, eX2_closeBracket (vX2_closeBracket_0 (Q := Q) ?_), fun r S1 g => g⟩
    have hcb : cB wl ≤ 7 := by omega
    rw [w4, show (0 : Int32) = nI 0 from rfl, nI_eq_i (by omega) (by decide)]
    refine ⟨fun c => ⟨_, sp_unwind (r := 1) (by decide) (by decide) hS w1 w3 w5 w8, fun r4 S3 g => ?_⟩, fun c => ?_⟩
    · obtain ⟨g1, g2, g3, g4, g5, g6, g7⟩ := g
      obtain ⟨l, e1, e2⟩ := (uw_bra hmem).2 c
      have hS' := SI.uw (r := 1) (by decide) hS
      rw [e1] at g2 g3 g4 hS'
      have hlen' := hS'.len
      rw [List.length_cons] at g2 hlen'
      intro S7 e7 S8 e8 S9 e9
      rw [g2, nI_pred, show nI 0 = nI 0 from rfl, omax_n (by decide) (by omega), Nat.max_eq_right (Nat.zero_le _)] at e7
      have e75 : S7.1 14 5 = nI (cB wl) := by rw [e7, stI_1, if_pos rfl, if_neg (by decide), g6 5 (by decide) (by decide)]; exact w4
      rw [e75, e2, nI_pred] at e8
      have e86 : S8.1 14 6 = nI (cN l + cB l + 1) := by
        rw [e8, stI_1, if_pos rfl, if_neg (by decide), e7, stI_1, if_pos rfl, if_neg (by decide), g3, cN, cB, if_neg (by decide), if_pos rfl]
        congr 1
        omega
      rw [e86, nI_pred] at e9
      rw [hQ]
      refine ⟨?_, Or.inr ⟨rfl, by omega, uwV 1 wl V, false, l, U, fun f => ?_, ⟨?_, ?_, ?_, ?_, ?_, ?_, fun x => (by cases x), ?_⟩, hS'.close, fKp.uw⟩⟩
      · rw [e9, e8, e7]
        exact (((g5.mono rfl).st rfl).st rfl).st rfl
      · rw [frF, if_neg hn, if_pos c41, if_neg c, e1]
        rfl
      · refine g1.cg ?_ ?_ ?_
        · rw [e9, stI_row (by decide), e8, stI_row (by decide), e7, stI_row (by decide)]
        · rw [e9, stI_row (by decide), e8, stI_row (by decide), e7, stI_row (by decide)]
        · rw [e9, stI_row (by decide), e8, stI_row (by decide), e7, stI_row (by decide)]
      · rw [e9, stI_row (by decide), e8, stI_row (by decide), e7, stI_row (by decide), g7, w2, uw_9]
      · rw [e9, stI_1, if_pos rfl, if_neg (by decide), e8, stI_1, if_pos rfl, if_neg (by decide), e7, stI_1, if_pos rfl, if_pos rfl]
      · rw [e9, stI_1, if_pos rfl, if_neg (by decide), e8, stI_1, if_pos rfl, if_pos rfl]
      · rw [e9, stI_1, if_pos rfl, if_pos rfl]
      · rw [e9, stI_1, if_pos rfl, if_neg (by decide), e8, stI_1, if_pos rfl, if_neg (by decide), e7, stI_1, if_pos rfl, if_neg (by decide), g6 7 (by decide) (by decide)]; exact w6
      · rw [e9, stI_row (by decide), e8, stI_row (by decide), e7, stI_row (by decide)]; exact g4.2
    · rw [hQ]
      refine ⟨FG.rf, Or.inl ⟨2, rfl, by decide, by decide, fun f => ?_⟩⟩
      rw [frF, if_neg hn, if_pos c41, if_pos c]
/-- how the reading of an e ends -/
def PFc (b : Nat → Nat) (t : Nat) (r : Int32) (S1 : ovS) (R : pR) : Prop := match R with
  | .inl e => ∃ q' c', ¬ c' = 0 ∧ c' < 100 ∧ r = nI c' ∧ TC b t q' S1 ∧ ftt b t q' c' = e ∧ q' ≤ t
  | .inr (V', q') => r = 0 ∧ TC b t q' S1 ∧ STc S1 V' ∧ S1.1 7 0 = nI (V' 0 9)
theorem sp_readFormula (hX : TX b t S) (hb : ∀ i, i < t → b i < 256) (hq : q ≤ t) (hC : TC b t q S) (hD : DNc S V) (hT : STc S V) (h8 : V 0 8 = 0) (h9 : V 0 9 = 0) (h7 : S.1 7 0 = nI (V 0 9)) : Ex G mX2_readFormula 10 [.ref 14] S (fun r S1 => FG [7, 8, 9, 13, 14, 15] S S1 ∧ S1.1 13 5 = nI t ∧ PFc b t r S1 (frF b t 1601 V q true [])) := by
  have key : ∀ (f tok : Nat) (V' : pV) (q' : Nat) (d : Bool) (wl : List Nat) (U : Nat) (S' : ovS), tok + f = 1601 → q' ≤ t → TX b t S' → TC b t q' S' → CW S' V' wl d → DNc S' V' → SI V' wl U (if d then 0 else 1) → FG [7, 8, 9, 13, 14, 15] S S' → RM G mX2_readFormula 10 (fun r S1 => FG [7, 8, 9, 13, 14, 15] S S1 ∧ S1.1 13 5 = nI t ∧ PFc b t r S1 (frF b t f V' q' d wl)) 27 [some (.ref 14), some (.int (nI tok)), none] [] S' := by
    intro f
    induction f with
    | zero =>
      intro tok V' q' d wl U S' ht hq' a1 a2 a3 a4 a5 a6
      have : tok = 1601 := by omega
      subst this
      refine vX2_readFormula_27 ⟨fun _ => ⟨a6, a1.2.1, ?_⟩, fun z => absurd (by decide) z⟩
      rw [frF]
      exact ⟨q', 2, by decide, by decide, rfl, a2, rfl, hq'⟩
    | succ f ih =>
      intro tok V' q' d wl U S' ht hq' a1 a2 a3 a4 a5 a6
      have hE := tE_hi (b := b) hq'
      have hcb : cB wl ≤ 7 := by have := a5.2.2.2.2.1; omega
      have hk := tK_lt (q := q') hb
      have next : ∀ (r : Int32) (S1 : ovS), FG [7, 8, 9, 14, 15] S' S1 → PSt b t V' q' d wl r S1 → ((r = 0 → (∃ Q8, Ex G mX7_advance 9 [.ref 13] S1 Q8 ∧ ∀ (r10 : Int32) (S9 : ovS), Q8 r10 S9 → RM G mX2_readFormula 10 (fun r S1 => FG [7, 8, 9, 13, 14, 15] S S1 ∧ S1.1 13 5 = nI t ∧ PFc b t r S1 (frF b t (f + 1) V' q' d wl)) 27 [some (.ref 14), some (.int (nI tok + 1)), none] [] S9)) ∧ (¬ r = 0 → (FG [7, 8, 9, 13, 14, 15] S S1 ∧ S1.1 13 5 = nI t ∧ PFc b t r S1 (frF b t (f + 1) V' q' d wl)))) := by
        intro r S1 hF hP
        have hX1 := a1.fg hF rfl
        have hC1 := a2.fg hF rfl
        rcases hP with ⟨c, p1, p2, p3, p4⟩ | ⟨p1, p0, V1, d1, wl1, U1, p2, p3, p4, p5⟩
        · refine ⟨fun z => ?_, fun _ => ⟨a6.tr (hF.mono rfl), hX1.2.1, ?_⟩⟩
          · rw [p1] at z
            exact absurd ((nI_eq_i (b := 0) (by omega) (by decide)).mp z) p2
          · rw [p4]
            exact ⟨q', c, p2, p3, p1, hC1, rfl, hq'⟩
        · refine ⟨fun _ => ⟨_, sp_advance hX1 hE hC1.2.2.1, fun r10 S9 g => ?_⟩, fun z => absurd p1 z⟩
          obtain ⟨g1, g2, g3⟩ := g
          have hF9 : FG [7, 8, 9, 13, 14, 15] S' S9 := (hF.mono rfl).tr (g1.g.mono rfl)
          have := ih (tok + 1) V1 (tE b t q') d1 wl1 U1 S9 (by omega) hE (hX1.cg (g1 1 (by decide)).1 (by rw [g3, hX1.2.1])) g2 (p3.fa g1.g) (a4.fg hF9 rfl p5) p4 (a6.tr hF9)
          rw [nI_succ tok] at this
          rw [p2]
          exact this
      refine vX2_readFormula_27 ⟨fun z => absurd ((nI_lt_i (a := 1600) (by decide) (by omega)).mp z) (by omega), fun _ => ?_⟩
      rw [a3.2.2.2.2.2.1]
      cases d with
      | true =>
        refine ⟨fun _ => vX2_readFormula_67 ?_, fun z => absurd z (by decide)⟩
        rw [a3.2.2.2.2.2.1]
        refine ⟨fun z => absurd z (by decide), fun _ => ⟨_, sp_readUnit hb hq' a2 a3 a4 a5, fun r15 S14 g => next r15 S14 g.1 g.2⟩⟩
      | false =>
        have go : ¬ (tK b t q' = 59 ∧ cB wl = 0) → RM G mX2_readFormula 10 (fun r S1 => FG [7, 8, 9, 13, 14, 15] S S1 ∧ S1.1 13 5 = nI t ∧ PFc b t r S1 (frF b t (f + 1) V' q' false wl)) 67 [some (.ref 14), some (.int (nI tok)), none] [] S' := by
          intro hn
          refine vX2_readFormula_67 ?_
          rw [a3.2.2.2.2.2.1]
          exact ⟨fun _ => ⟨_, sp_readJoining hb a2 a3 a5 hn, fun r4 S3 g => next r4 S3 g.1 g.2⟩, fun z => absurd rfl z⟩
        refine ⟨fun z => absurd rfl z, fun _ => ?_⟩
        rw [a3.2.2.2.1, a2.1, show (0 : Int32) = nI 0 from rfl, show (59 : Int32) = nI 59 from rfl, nI_eq_i (by omega) (by decide), nI_eq_i (by omega) (by decide)]
        refine ⟨fun z => go (fun x => z x.2), fun z => ⟨fun y => go (fun x => y x.1), fun y => ⟨_, sp_unwind (r := 1) (by decide) (by decide) a5 a3.1 a3.2.2.1 a3.2.2.2.2.1 a3.2.2.2.2.2.2.2, fun r7 S6 g => ?_⟩⟩⟩
        obtain ⟨g1, g2, g3, g4, g5, g6, g7⟩ := g
        refine ⟨a6.tr (g5.mono rfl), by rw [g5.at 13 rfl]; exact a1.2.1, ?_⟩
        rw [frF, if_pos ⟨y, z⟩]
        refine ⟨rfl, a2.fg g5 rfl, g1, ?_⟩
        rw [g7, a3.2.1, uw_9]
  refine eX2_readFormula (vX2_readFormula_0 (fun S1 e1 S2 e2 S3 e3 S4 e4 S5 e5 => ?_))
  have hF : FG [14] S S5 := by
    rw [e5, e4, e3, e2, e1]
    exact ((((FG.rf.st rfl).st rfl).st rfl).st rfl).st rfl
  refine key 1601 0 V q true [] 0 S5 (by decide) hq (hX.fg hF rfl) (hC.fg hF rfl) ⟨hT.cg (by rw [hF.at 7 rfl]) (by rw [hF.at 8 rfl]) (by rw [hF.at 9 rfl]), by rw [hF.at 7 rfl]; exact h7, ?_, ?_, ?_, ?_, fun _ => ?_, trivial⟩ (hD.fg hF rfl fKp.rf) ?_ (hF.mono rfl)
  · rw [e5, stI_1, if_pos rfl, if_neg (by decide), e4, stI_1, if_pos rfl, if_neg (by decide), e3, stI_1, if_pos rfl, if_neg (by decide), e2, stI_1, if_pos rfl, if_neg (by decide), e1, stI_1, if_pos rfl, if_pos rfl]
    rfl
  · rw [e5, stI_1, if_pos rfl, if_neg (by decide), e4, stI_1, if_pos rfl, if_neg (by decide), e3, stI_1, if_pos rfl, if_neg (by decide), e2, stI_1, if_pos rfl, if_pos rfl]
    rfl
  · rw [e5, stI_1, if_pos rfl, if_neg (by decide), e4, stI_1, if_pos rfl, if_neg (by decide), e3, stI_1, if_pos rfl, if_pos rfl]
    rfl
  · rw [e5, stI_1, if_pos rfl, if_neg (by decide), e4, stI_1, if_pos rfl, if_pos rfl]
    rfl
  · rw [e5, stI_1, if_pos rfl, if_pos rfl]
    rfl
  · refine ⟨by omega, by omega, ?_, by simp [cJ], by simp [cN, cB], ?_, ?_, ?_, fun s hs => absurd hs (by simp)⟩
    · rw [h8]
      rfl
    · rw [h8]
      simp [cJ, cN]
    · rw [h8]
      exact fun i hi => absurd hi (by omega)
    · rw [h8]
      exact fun i hi => absurd hi (by omega)
end
