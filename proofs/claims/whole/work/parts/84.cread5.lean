/-! ===== the class reads a VILLAGE ===== -/
def V0 : pV := fun _ _ => 0
theorem VI_0 : VI V0 := by
  refine ⟨⟨by simp [V0], by simp [V0], by simp [V0], by simp [V0], by simp [V0], by simp [V0], by simp [V0], by simp [V0]⟩, fun i _ => ⟨by simp [V0], by simp [V0], fun _ => ⟨rfl, rfl, rfl⟩⟩, ⟨fun i _ => by simp [V0], fun i j _ _ => by simp [V0], fun i _ => by simp [V0]⟩, ⟨fun i j _ h => absurd h (by simp [V0]), fun i j _ h => absurd h (by simp [V0])⟩, fun _ => ⟨rfl, rfl⟩, fun h => absurd h (by simp [V0])⟩
theorem lnA_l {b : Nat → Nat} {t f q : Nat} {V : pV} {e : Nat × Nat} (h0 : ¬ tK b t q = 0) (h : lnX b t V q = .inl e) : lnA b t (f + 1) V q = .inl e := by
  rw [lnA, if_neg h0, h]
theorem lnA_r {b : Nat → Nat} {t f q q1 : Nat} {V V1 : pV} (h0 : ¬ tK b t q = 0) (h : lnX b t V q = .inr (V1, q1)) : lnA b t (f + 1) V q = lnA b t f V1 q1 := by
  rw [lnA, if_neg h0, h]
theorem FG.se {L : List Nat} {S S1 : ovS} {o : Nat} {f : Nat → Int32} (h : FG L S S1) (ho : L.contains o = true) : FG L S (seI S1 o f) := fun k hk => by
  have hne : k ≠ o := fun e => by subst e; rw [ho] at hk; cases hk
  rw [seI_row hne]
  exact h k hk
/-- how the reading ends -/
def RDc (S1 : ovS) (R : (Nat × Nat) ⊕ pV) : Prop := match R with
  | .inl e => FLc e S1
  | .inr V1 => S1.1 2 1 = 0 ∧ S1.1 2 2 = -1 ∧ CV S1 V1
section
variable {G : ovG} {S : ovS} {b : Nat → Nat} {t : Nat}
theorem sp_cRead (hb : ∀ i, i < t → b i < 256) (ht : t ≤ 1600) (hT : ∀ i, i < t → S.1 1 i = sby (b i)) : Ex G mX5_read 12 [.ref 2, .int (nI t)] S (fun _ S1 => FG Lr S S1 ∧ RDc S1 (lnA b t t V0 0)) := by
  have key : ∀ (f i : Nat) (V : pV) (q : Nat) (S' : ovS), i + f = t → q ≤ t → VI V → FG Lr S S' → TX b t S' → S'.1 2 1 = 0 → S'.1 2 2 = -1 → CV S' V → TC b t q S' → RM G mX5_read 12 (fun _ S1 => FG Lr S S1 ∧ RDc S1 (lnA b t f V q)) 47 [some (.ref 2), some (.int (nI t)), some (.int (nI i))] [] S' := by
    intro f
    induction f with
    | zero =>
      intro i V q S' hi hq hI hF hX h1 h2 hV hC
      refine vX5_read_47 ⟨fun _ => ⟨hF, ?_⟩, fun z => absurd ((nI_le_i (by omega) (by omega)).mpr (by omega)) z⟩
      rw [lnA]
      exact ⟨h1, h2, hV⟩
    | succ f ih =>
      intro i V q S' hi hq hI hF hX h1 h2 hV hC
      have hkt := tK_lt (q := q) hb
      have eK : ∀ j, j < 271 → (S'.1 13 0 = nI j ↔ tK b t q = j) := fun j hj => by rw [hC.1]; exact nI_eq_i (by omega) (by omega)
      obtain ⟨Q, hQ⟩ : ∃ Q : Int32 → ovS → Prop, Q = (fun _ S1 => FG Lr S S1 ∧ RDc S1 (lnA b t (f + 1) V q)) := ⟨_, rfl⟩
      rw [← hQ]
      have body : ∀ (S1 : ovS), ¬ tK b t q = 0 → BDc b t S' S1 (lnX b t V q) → RM G mX5_read 12 Q 175 [some (.ref 2), some (.int (nI t)), some (.int (nI i))] [] S1 := by
        intro S1 hk0 hB
        obtain ⟨hF1, hX1, hR⟩ := hB
        have out : ∀ (e : Nat × Nat) (S2 : ovS), FG Lr S S2 → FLc e S2 → lnX b t V q = .inl e → RM G mX5_read 12 Q 47 [some (.ref 2), some (.int (nI t)), some (.int (nI i + 1))] [] S2 := by
          intro e S2 a1 a2 a3
          have hq2 : Q 0 S2 := by
            rw [hQ, lnA_l hk0 a3]
            exact ⟨a1, a2⟩
          exact vX5_read_47 ⟨fun _ => hq2, fun _ => ⟨fun _ => hq2, fun z => absurd z a2.n0⟩⟩
        rcases hR with ⟨e, e1, e2⟩ | ⟨V', q', e1, e2, e3, e4, e5, e6⟩
        · refine vX5_read_175 ⟨_, sp_passN e2.n0, fun r3 S2 g => ?_⟩
          subst g
          exact out e S2 (hF.tr hF1) e2 e1
        · refine vX5_read_175 ⟨_, sp_passF (k := 59) hb e6 hX1 (by decide) e2 e5, fun r3 S2 g => ?_⟩
          rcases g with ⟨k1, k2, k3, k4⟩ | ⟨k1, k2, k3⟩
          · have eX : lnX b t V q = .inr (V', tE b t q') := by rw [e1, scL, if_pos k1]
            have hok := lnX_ok hq hI eX
            have go := ih (i + 1) V' (tE b t q') S2 (by omega) hok.2.2 hok.1 ((hF.tr hF1).tr (k2.mono rfl)) k3 (by rw [k2.at 2 rfl]; exact e2) (by rw [k2.at 2 rfl, e3]; exact h2) (e4.fg k2 rfl) k4
            rw [nI_succ i] at go
            rw [hQ, lnA_r hk0 eX]
            exact go
          · refine out _ S2 ((hF.tr hF1).tr (k2.mono rfl)) k3 ?_
            rw [e1, scL, if_neg k1]
      have bad : ¬ tK b t q = 0 → ¬ tK b t q = 256 → ¬ tK b t q = 257 → ¬ tK b t q = 260 → ¬ tK b t q = 262 → ¬ tK b t q = 263 → ¬ tK b t q = 264 → (∃ Q16, Ex G mX5_fail 1 [.ref 2, .int 2] S' Q16 ∧ ∀ (r18 : Int32) (S17 : ovS), Q16 r18 S17 → RM G mX5_read 12 Q 175 [some (.ref 2), some (.int (nI t)), some (.int (nI i))] [] S17) := by
        intro n0 n1 n2 n3 n4 n5 n6
        refine ⟨_, sp_fail (c := 2) hb hq ht (by decide) (by decide) h1 hC, fun r S1 g => body S1 n0 (BDc.bad (g.1.mono rfl) (hX.fg g.1 rfl) ?_ g.2)⟩
        rw [lnX, if_neg n1, if_neg n2, if_neg n3, if_neg n4, if_neg n5, if_neg n6]
      refine vX5_read_47 ⟨fun z => absurd ((nI_le_i (by omega) (by omega)).mp z) (by omega), fun _ => ⟨fun z => absurd h1 z, fun _ => ⟨fun z => ?_, fun z => ?_⟩⟩⟩
      · rw [hQ, lnA, if_pos ((eK 0 (by decide)).mp z)]
        exact ⟨hF, h1, h2, hV⟩
      · have k0 : ¬ tK b t q = 0 := fun y => z ((eK 0 (by decide)).mpr y)
        refine ⟨fun z => ?_, fun z => ?_, fun z => ?_, fun z => ?_, fun z => ?_, fun z => ?_, fun z => ?_, fun z => ?_, fun z => ?_, fun z1 z2 z3 z4 z5 z6 z7 z8 z9 => ?_⟩
        · have k := (eK 256 (by decide)).mp z
          refine ⟨_, sp_cDeed hb hq hX h1 hC hV hI, fun r S1 g => body S1 k0 ?_⟩
          rw [lnX, if_pos k]
          exact g
        · have k := (eK 257 (by decide)).mp z
          refine ⟨_, sp_cSoul hb hq hX h1 hC hV hI, fun r S1 g => body S1 k0 ?_⟩
          rw [lnX, if_neg (by omega), if_pos k]
          exact g
        · have k := (eK 258 (by decide)).mp z
          exact bad k0 (by omega) (by omega) (by omega) (by omega) (by omega) (by omega)
        · have k := (eK 259 (by decide)).mp z
          exact bad k0 (by omega) (by omega) (by omega) (by omega) (by omega) (by omega)
        · have k := (eK 260 (by decide)).mp z
          refine ⟨_, sp_cFeud hb hq hX h1 hC hV hI, fun r S1 g => body S1 k0 ?_⟩
          rw [lnX, if_neg (by omega), if_neg (by omega), if_pos k]
          exact g
        · have k := (eK 261 (by decide)).mp z
          exact bad k0 (by omega) (by omega) (by omega) (by omega) (by omega) (by omega)
        · have k := (eK 262 (by decide)).mp z
          refine ⟨_, sp_cLoaf hb hq hX h1 hC hV hI, fun r S1 g => body S1 k0 ?_⟩
          rw [lnX, if_neg (by omega), if_neg (by omega), if_neg (by omega), if_pos k]
          exact g
        · have k := (eK 263 (by decide)).mp z
          refine ⟨_, sp_cHeat hb hq hX h1 hC hV hI, fun r S1 g => body S1 k0 ?_⟩
          rw [lnX, if_neg (by omega), if_neg (by omega), if_neg (by omega), if_neg (by omega), if_pos k]
          exact g
        · have k := (eK 264 (by decide)).mp z
          refine ⟨_, sp_cDraw hb hq hX h1 hC hV hI, fun r S1 g => body S1 k0 ?_⟩
          rw [lnX, if_neg (by omega), if_neg (by omega), if_neg (by omega), if_neg (by omega), if_neg (by omega), if_pos k]
          exact g
        · exact bad k0 (fun y => z1 ((eK 256 (by decide)).mpr y)) (fun y => z2 ((eK 257 (by decide)).mpr y)) (fun y => z5 ((eK 260 (by decide)).mpr y)) (fun y => z7 ((eK 262 (by decide)).mpr y)) (fun y => z8 ((eK 263 (by decide)).mpr y)) (fun y => z9 ((eK 264 (by decide)).mpr y))
  have clr : Ex G mX10_clear 2 [.ref 3] S (fun _ S1 => FG [3, 4, 5, 6, 7] S S1 ∧ S1.1 3 0 = 0 ∧ S1.1 3 1 = 0 ∧ S1.1 3 2 = 0 ∧ S1.1 3 3 = 0 ∧ S1.1 7 0 = 0 ∧ S1.1 7 1 = 0 ∧ ∀ i, i < 5 → S1.1 4 i = 0 ∧ S1.1 5 i = 0 ∧ S1.1 6 i = 0) := by
    refine eX10_clear (vX10_clear_0 (fun S1 e1 S2 e2 S3 e3 S4 e4 => ⟨_, sp_fill (n := 5) rfl rfl (by decide), fun r7 S6 e6 => ⟨_, sp_fill (n := 5) rfl rfl (by decide), fun r12 S11 e11 => ⟨_, sp_fill (n := 5) rfl rfl (by decide), fun r17 S16 e16 => ⟨_, eX1_clear (vX1_clear_0 (Q := fun _ S9 => S9 = stI (stI S16 7 0 0) 7 1 0) (fun S7 e7 S8 e8 => by rw [e8, e7])), fun r22 S21 e21 => ?_⟩⟩⟩⟩))
    have h4 : FG [3, 4, 5, 6, 7] S S4 := by
      rw [e4, e3, e2, e1]
      exact (((FG.rf.st rfl).st rfl).st rfl).st rfl
    refine ⟨?_, ?_, ?_, ?_, ?_, ?_, ?_, fun i hi => ⟨?_, ?_, ?_⟩⟩
    · rw [e21, e16, e11, e6]
      exact ((((h4.se rfl).se rfl).se rfl).st rfl).st rfl
    · rw [e21, stI_row (by decide), stI_row (by decide), e16, seI_row (by decide), e11, seI_row (by decide), e6, seI_row (by decide), e4, stI_1, if_pos rfl, if_neg (by decide), e3, stI_1, if_pos rfl, if_neg (by decide), e2, stI_1, if_pos rfl, if_neg (by decide), e1, stI_1, if_pos rfl, if_pos rfl]
    · rw [e21, stI_row (by decide), stI_row (by decide), e16, seI_row (by decide), e11, seI_row (by decide), e6, seI_row (by decide), e4, stI_1, if_pos rfl, if_neg (by decide), e3, stI_1, if_pos rfl, if_neg (by decide), e2, stI_1, if_pos rfl, if_pos rfl]
    · rw [e21, stI_row (by decide), stI_row (by decide), e16, seI_row (by decide), e11, seI_row (by decide), e6, seI_row (by decide), e4, stI_1, if_pos rfl, if_neg (by decide), e3, stI_1, if_pos rfl, if_pos rfl]
    · rw [e21, stI_row (by decide), stI_row (by decide), e16, seI_row (by decide), e11, seI_row (by decide), e6, seI_row (by decide), e4, stI_1, if_pos rfl, if_pos rfl]
    · rw [e21, stI_1, if_pos rfl, if_neg (by decide), stI_1, if_pos rfl, if_pos rfl]
    · rw [e21, stI_1, if_pos rfl, if_pos rfl]
    · rw [e21, stI_row (by decide), stI_row (by decide), e16, seI_row (by decide), e11, seI_row (by decide), e6, seI_self]
      simp [fillR, hi]
    · rw [e21, stI_row (by decide), stI_row (by decide), e16, seI_row (by decide), e11, seI_self]
      simp [fillR, hi]
    · rw [e21, stI_row (by decide), stI_row (by decide), e16, seI_self]
      simp [fillR, hi]
  refine eX5_read (vX5_read_0 ⟨_, clr, fun r3 S2 g S6 e6 S7 e7 S8 e8 S9 e9 S10 e10 S11 e11 => ?_⟩)
  obtain ⟨c1, c2, c3, c4, c5, c6, c7, c8⟩ := g
  have hF11 : FG [2] S2 S11 := by
    rw [e11, e10, e9, e8, e7, e6]
    exact (((((FG.rf.st rfl).st rfl).st rfl).st rfl).st rfl).st rfl
  have r1 : S11.1 2 1 = 0 := by
    rw [e11, stI_1, if_pos rfl, if_neg (by decide), e10, stI_1, if_pos rfl, if_neg (by decide), e9, stI_1, if_pos rfl, if_neg (by decide), e8, stI_1, if_pos rfl, if_neg (by decide), e7, stI_1, if_pos rfl, if_neg (by decide), e6, stI_1, if_pos rfl, if_pos rfl]
  have r2 : S11.1 2 2 = -1 := by
    rw [e11, stI_1, if_pos rfl, if_neg (by decide), e10, stI_1, if_pos rfl, if_neg (by decide), e9, stI_1, if_pos rfl, if_neg (by decide), e8, stI_1, if_pos rfl, if_neg (by decide), e7, stI_1, if_pos rfl, if_pos rfl]
  have r7 : S11.1 2 7 = 0 := by
    rw [e11, stI_1, if_pos rfl, if_neg (by decide), e10, stI_1, if_pos rfl, if_neg (by decide), e9, stI_1, if_pos rfl, if_neg (by decide), e8, stI_1, if_pos rfl, if_pos rfl]
  have r8 : S11.1 2 8 = 0 := by
    rw [e11, stI_1, if_pos rfl, if_neg (by decide), e10, stI_1, if_pos rfl, if_neg (by decide), e9, stI_1, if_pos rfl, if_pos rfl]
  have r9 : S11.1 2 9 = 0 := by
    rw [e11, stI_1, if_pos rfl, if_neg (by decide), e10, stI_1, if_pos rfl, if_pos rfl]
  have r10 : S11.1 2 10 = 0 := by
    rw [e11, stI_1, if_pos rfl, if_pos rfl]
  clear e6 e7 e8 e9 e10 e11
  refine ⟨_, eX7_begin (vX7_begin_0 (Q := fun _ S1 => FG [13] S11 S1 ∧ TX b t S1 ∧ TC b t 0 S1) (fun S12 e12 S13 e13 => ?_)), fun r14 S13 g => ?_⟩
  · have em : omin (nI t) 1600 = nI t := by
      rw [show (1600 : Int32) = nI 1600 from rfl, omin_n (by omega) (by decide), Nat.min_eq_left ht]
    rw [em] at e12
    have hF13 : FG [13] S11 S13 := by
      rw [e13, e12]
      exact (FG.rf.st rfl).st rfl
    have hX13 : TX b t S13 := by
      refine ⟨ht, ?_, fun i hi => ⟨hb i hi, ?_⟩⟩
      · rw [e13, stI_1, if_pos rfl, if_neg (by decide), e12, stI_1, if_pos rfl, if_pos rfl]
      · rw [hF13.at 1 rfl, hF11.at 1 rfl, c1.at 1 rfl]
        exact hT i hi
    refine ⟨_, sp_advance (q := 0) hX13 (Nat.zero_le _) (by rw [e13, stI_1, if_pos rfl, if_pos rfl]; rfl), fun r5 S4 g => ?_⟩
    exact ⟨hF13.tr g.1.g, hX13.cg (g.1 1 (by decide)).1 (by rw [g.2.2, hX13.2.1]), g.2.1⟩
  · obtain ⟨g1, g2, g3⟩ := g
    refine key t 0 V0 0 S13 (by omega) (Nat.zero_le _) VI_0 (((c1.mono rfl).tr (hF11.mono rfl)).tr (g1.mono rfl)) g2 (by rw [g1.at 2 rfl]; exact r1) (by rw [g1.at 2 rfl]; exact r2) ?_ g3
    refine ⟨⟨?_, ?_, ?_, ?_, ?_, ?_, ?_, ?_, ?_⟩, ⟨?_, fun i hi => absurd hi (by simp [V0])⟩, fun i hi => absurd hi (by simp [V0]), fun i hi => absurd hi (by simp [V0]), fun i hi => ?_⟩
    · rw [g1.at 3 rfl, hF11.at 3 rfl]; exact c3
    · rw [g1.at 3 rfl, hF11.at 3 rfl]; exact c2
    · rw [g1.at 2 rfl]; exact r7
    · rw [g1.at 3 rfl, hF11.at 3 rfl]; exact c4
    · rw [g1.at 3 rfl, hF11.at 3 rfl]; exact c5
    · rw [g1.at 2 rfl]; exact r8
    · rw [g1.at 2 rfl]; exact r9
    · rw [g1.at 2 rfl]; exact r10
    · rw [g1.at 7 rfl, hF11.at 7 rfl]; exact c6
    · rw [g1.at 7 rfl, hF11.at 7 rfl]; exact c7
    · rw [g1.at 4 rfl, hF11.at 4 rfl, g1.at 5 rfl, hF11.at 5 rfl, g1.at 6 rfl, hF11.at 6 rfl]
      exact c8 i hi
end
