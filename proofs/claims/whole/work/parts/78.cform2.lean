/-! ===== the class reads an e: unit and joining ===== -/
def CW (S : ovS) (V : pV) (wl : List Nat) (due : Bool) : Prop := STc S V ∧ S.1 7 0 = nI (V 0 9) ∧ S.1 14 4 = nI wl.length ∧ S.1 14 5 = nI (cB wl) ∧ S.1 14 6 = nI (cN wl + cB wl) ∧ S.1 14 7 = bI due ∧ (due = true → S.1 14 8 = bI (mayN wl)) ∧ SN (S.1 15) wl
def DNc (S : ovS) (V : pV) : Prop := S.1 3 1 = nI (V 0 0) ∧ V 0 0 ≤ 5 ∧ ∀ i, i < V 0 0 → S.2 11 i = lN (V 1 i) ∧ V 1 i < 2 ^ 64
theorem tK_lt {b : Nat → Nat} {t q : Nat} (hb : ∀ i, i < t → b i < 256) : tK b t q < 271 := by
  unfold tK
  split
  · omega
  · next h0 =>
    split
    · split
      · omega
      · rcases kwF_3 (w := tW b t q) 15 with h1 | ⟨j, h1, h2, h3⟩ <;> omega
    · split
      · split <;> omega
      · split
        · have := hb (tP b t q) (by omega)
          omega
        · omega
theorem tW_lt {b : Nat → Nat} {t q : Nat} (hb : ∀ i, i < t → b i < 256) (hq : q ≤ t) (h : tK b t q = 3 ∨ 256 ≤ tK b t q) : tW b t q < 2 ^ 64 := by
  have hL := tLn_hi (b := b) hq
  have h8 : tLn b t q ≤ 8 := by
    apply Classical.byContradiction
    intro z
    unfold tK at h
    split at h
    · omega
    · split at h
      · rw [if_pos (by omega)] at h
        omega
      · split at h
        · split at h <;> omega
        · split at h
          · next h0 _ _ y =>
            have := hb (tP b t q) (by omega)
            have e3 : ¬ b (tP b t q) = 3 := fun x => by rw [x] at y; exact absurd y (by decide)
            omega
          · omega
  exact Nat.lt_of_lt_of_le (wd_lt _ (fun i hi => hb _ (by omega))) (pw8 h8)
/-- one TOKEN of an e -/
def PSt (b : Nat → Nat) (t : Nat) (V : pV) (q : Nat) (d : Bool) (wl : List Nat) (r : Int32) (S1 : ovS) : Prop :=
  (∃ c, r = nI c ∧ ¬ c = 0 ∧ c < 100 ∧ ∀ f, frF b t (f + 1) V q d wl = .inl (ftt b t q c)) ∨ (r = 0 ∧ ¬ tK b t q = 0 ∧ ∃ V' d' wl' U', (∀ f, frF b t (f + 1) V q d wl = frF b t f V' (tE b t q) d' wl') ∧ CW S1 V' wl' d' ∧ SI V' wl' U' (if d' then 0 else 1) ∧ fKp V V')
section
variable {G : ovG} {S : ovS} {b : Nat → Nat} {t q : Nat} {V : pV} {wl : List Nat} {U : Nat}
theorem sp_stepOfUnit {k : Nat} (hk : k < 271) : Ex G mX2_stepOfUnit 1 [.int (nI k)] S (fun r S1 => r = (if unS k = 99 then -1 else nI (unS k)) ∧ S1 = S) := by
  have e : ∀ j, j < 271 → (nI k = nI j ↔ k = j) := fun j hj => nI_eq_i (by omega) (by omega)
  refine eX2_stepOfUnit (vX2_stepOfUnit_0 ⟨fun z => ?_, fun z => ?_, fun z => ?_, fun z => ?_, fun z => ?_, fun z => ?_, fun z1 z2 z3 z4 z5 z6 => ?_⟩)
  · rw [(e 2 (by decide)).mp z]; exact ⟨rfl, rfl⟩
  · rw [(e 3 (by decide)).mp z]; exact ⟨rfl, rfl⟩
  · rw [(e 263 (by decide)).mp z]; exact ⟨rfl, rfl⟩
  · rw [(e 268 (by decide)).mp z]; exact ⟨rfl, rfl⟩
  · rw [(e 269 (by decide)).mp z]; exact ⟨rfl, rfl⟩
  · rw [(e 270 (by decide)).mp z]; exact ⟨rfl, rfl⟩
  · refine ⟨?_, rfl⟩
    rw [if_pos]
    unfold unS
    rw [if_neg (fun x => z1 ((e 2 (by decide)).mpr x)), if_neg (fun x => z2 ((e 3 (by decide)).mpr x)), if_neg (fun x => z4 ((e 268 (by decide)).mpr x)), if_neg (fun x => z5 ((e 269 (by decide)).mpr x)), if_neg (fun x => z3 ((e 263 (by decide)).mpr x)), if_neg (fun x => z6 ((e 270 (by decide)).mpr x))]
theorem sp_stepOfJoining {k : Nat} (hk : k < 271) : Ex G mX2_stepOfJoining 1 [.int (nI k)] S (fun r S1 => r = (if joS k = 99 then -1 else nI (joS k)) ∧ S1 = S) := by
  have e : ∀ j, j < 271 → (nI k = nI j ↔ k = j) := fun j hj => nI_eq_i (by omega) (by omega)
  refine eX2_stepOfJoining (vX2_stepOfJoining_0 ⟨fun z => ?_, fun z => ?_, fun z => ?_, fun z => ?_, fun z => ?_, fun z => ?_, fun z => ?_, fun z => ?_, fun z => ?_, fun z => ?_, fun z1 z2 z3 z4 z5 z6 z7 z8 z9 z10 => ?_⟩)
  · rw [(e 37 (by decide)).mp z]; exact ⟨rfl, rfl⟩
  · rw [(e 42 (by decide)).mp z]; exact ⟨rfl, rfl⟩
  · rw [(e 43 (by decide)).mp z]; exact ⟨rfl, rfl⟩
  · rw [(e 45 (by decide)).mp z]; exact ⟨rfl, rfl⟩
  · rw [(e 47 (by decide)).mp z]; exact ⟨rfl, rfl⟩
  · rw [(e 60 (by decide)).mp z]; exact ⟨rfl, rfl⟩
  · rw [(e 61 (by decide)).mp z]; exact ⟨rfl, rfl⟩
  · rw [(e 62 (by decide)).mp z]; exact ⟨rfl, rfl⟩
  · rw [(e 265 (by decide)).mp z]; exact ⟨rfl, rfl⟩
  · rw [(e 266 (by decide)).mp z]; exact ⟨rfl, rfl⟩
  · refine ⟨?_, rfl⟩
    rw [if_pos]
    unfold joS
    rw [if_neg (fun x => z1 ((e 37 (by decide)).mpr x)), if_neg (fun x => z2 ((e 42 (by decide)).mpr x)), if_neg (fun x => z3 ((e 43 (by decide)).mpr x)), if_neg (fun x => z4 ((e 45 (by decide)).mpr x)), if_neg (fun x => z5 ((e 47 (by decide)).mpr x)), if_neg (fun x => z6 ((e 60 (by decide)).mpr x)), if_neg (fun x => z7 ((e 61 (by decide)).mpr x)), if_neg (fun x => z8 ((e 62 (by decide)).mpr x)), if_neg (fun x => z9 ((e 265 (by decide)).mpr x)), if_neg (fun x => z10 ((e 266 (by decide)).mpr x))]
theorem STc.un {x : Nat} (h : STc S V) : STc S (upV V 0 9 x) := by
  unfold STc
  rw [upV_ne (by decide), upV_row (a := 6) (by decide), upV_row (a := 7) (by decide)]
  exact h
theorem sp_readUnit (hb : ∀ i, i < t → b i < 256) (hq : q ≤ t) (hC : TC b t q S) (hW : CW S V wl true) (hD : DNc S V) (hS : SI V wl U 0) : Ex G mX2_readUnit 3 [.ref 14] S (fun r S1 => FG [7, 8, 9, 14, 15] S S1 ∧ PSt b t V q true wl r S1) := by
  obtain ⟨w1, w2, w3, w4, w5, w6, w7, w8⟩ := hW
  have hk := tK_lt (q := q) hb
  have hlen := hS.len
  have hu30 := hS.1
  have hw7 := hS.2.2.2.2.1
  have eK : ∀ j, j < 271 → (S.1 13 0 = nI j ↔ tK b t q = j) := fun j hj => by rw [hC.1]; exact nI_eq_i (by omega) (by omega)
  obtain ⟨Q, hQ⟩ : ∃ Q : Int32 → ovS → Prop, Q = (fun r S1 => FG [7, 8, 9, 14, 15] S S1 ∧ PSt b t V q true wl r S1) := ⟨_, rfl⟩
  rw [← hQ]
  have step2 : ¬ (tK b t q = 267 ∧ mayN wl = true) → RM G mX2_readUnit 3 Q 29 [some (.ref 14), some (.int (S.1 13 0)), none, none] [] S := by
    intro hn
    have bad2 : ∀ S', FG [7, 8, 9, 14, 15] S S' → (tK b t q = 40 → 30 ≤ V 0 9 ∨ 6 < cN wl + cB wl) → (¬ tK b t q = 40 → unS (tK b t q) = 99 ∨ 30 ≤ V 0 9) → Q 2 S' := by
      intro S' hF h1 h2
      rw [hQ]
      refine ⟨hF, Or.inl ⟨2, rfl, by decide, by decide, fun f => ?_⟩⟩
      rw [frF, if_neg hn]
      by_cases c : tK b t q = 40
      · rw [if_pos c, if_pos (h1 c)]
      · rw [if_neg c, if_pos (h2 c)]
    refine vX2_readUnit_29 ⟨fun z => ?_, fun z => ⟨fun y => absurd y (by decide), fun _ => ?_⟩⟩
    · have c40 : ¬ tK b t q = 40 := fun x => z ((eK 40 (by decide)).mpr x)
      rw [hC.1]
      refine ⟨_, sp_stepOfUnit hk, fun r4 S3 q1 => ?_⟩
      obtain ⟨q1, q2⟩ := q1
      subst q2
      by_cases c99 : unS (tK b t q) = 99
      · rw [if_pos c99] at q1
        rw [q1]
        exact ⟨fun _ => bad2 S3 FG.rf (fun x => absurd x c40) (fun _ => Or.inl c99), fun x => absurd rfl x⟩
      · rw [if_neg c99] at q1
        have hu := (un_r (tK b t q)).resolve_left c99
        have hne : ¬ nI (unS (tK b t q)) = -1 := fun x => absurd (show nI (unS (tK b t q)) < 0 by rw [x]; decide) (nI_neg (by omega))
        rw [q1, w2, show (30 : Int32) = nI 30 from rfl, nI_lt_i (by omega) (by decide)]
        refine ⟨fun x => absurd x hne, fun _ => ⟨fun y S9 e9 => ⟨fun _ S11 e11 => ?_, fun x => ?_⟩, fun y => bad2 S3 FG.rf (fun x => absurd x c40) (fun _ => Or.inr (by omega))⟩⟩
        · rw [nI_1] at e9
          have hF11 : FG [7, 8, 9, 14, 15] S3 S11 := by
            rw [e11, e9]
            exact (FG.rf.st rfl).st rfl
          have hT11 : STc S11 (upV V 0 9 (V 0 9 + 1)) := by
            refine (w1.cg ?_ ?_ ?_).un
            · rw [e11, stI_row (by decide), e9, stI_1, if_pos rfl, if_neg (by decide)]
            · rw [e11, stI_row (by decide), e9, stI_row (by decide)]
            · rw [e11, stI_row (by decide), e9, stI_row (by decide)]
          have e70 : S11.1 7 0 = nI (V 0 9 + 1) := by rw [e11, stI_row (by decide), e9, stI_1, if_pos rfl, if_pos rfl]
          have e13 : S11.1 13 = S3.1 13 := hF11.at 13 rfl
          have e14 : ∀ j, j ≠ 7 → S11.1 14 j = S3.1 14 j := fun j hj => by rw [e11, stI_1, if_pos rfl, if_neg hj, e9, stI_row (by decide)]
          have e147 : S11.1 14 7 = bI false := by rw [e11, stI_1, if_pos rfl, if_pos rfl]; rfl
          have e15 : S11.1 15 = S3.1 15 := by rw [e11, stI_row (by decide), e9, stI_row (by decide)]
          clear e11 e9
          have h8 : upV V 0 9 (V 0 9 + 1) 0 8 = V 0 8 := upV_ne (by decide)
          have good : ∀ (dd : Nat) (S14 : ovS), STc S14 (addS (upV V 0 9 (V 0 9 + 1)) (unS (tK b t q)) dd) → FG [7, 8, 9] S11 S14 → S14.1 7 0 = S11.1 7 0 → dd = (if tK b t q = 2 then tN b t q else if tK b t q = 3 then fndI (V 1) (tW b t q) (V 0 0) else 0) → ¬ (tK b t q = 3 ∧ ¬ fndI (V 1) (tW b t q) (V 0 0) < V 0 0) → Q 0 S14 := by
            intro dd S14 g1 g2 g3 g4 g5
            rw [hQ]
            refine ⟨hF11.tr (g2.mono rfl), Or.inr ⟨rfl, fun x => c99 (by rw [x]; rfl), addS (upV V 0 9 (V 0 9 + 1)) (unS (tK b t q)) dd, false, wl, U + 1, fun f => ?_, ⟨g1, ?_, ?_, ?_, ?_, ?_, fun x => (by cases x), ?_⟩, ?_, fKp.un.tr fKp.add⟩⟩
            · rw [frF, if_neg hn, if_neg c40, if_neg (fun x => x.elim c99 (fun x => by omega)), if_neg g5, g4]
            · rw [g3, e70, addS_0 (by decide), upV_at]
            · rw [g2.at 14 rfl, e14 4 (by decide)]; exact w3
            · rw [g2.at 14 rfl, e14 5 (by decide)]; exact w4
            · rw [g2.at 14 rfl, e14 6 (by decide)]; exact w5
            · rw [g2.at 14 rfl]; exact e147
            · rw [g2.at 15 rfl, e15]; exact w8
            · refine hS.unit (by omega) hu.1 (fun x => ?_)
              have e3 := hu.2.1.mp x
              rw [g4, if_neg (by omega), if_pos e3]
              have : fndI (V 1) (tW b t q) (V 0 0) < V 0 0 := Classical.not_not.mp (fun y => g5 ⟨e3, y⟩)
              have := hD.2.1
              omega
          refine ⟨fun x => ?_, fun x => ?_⟩
          · have hk3 : ¬ tK b t q = 3 := fun x3 => x (by rw [hu.2.1.mpr x3]; rfl)
            refine ⟨_, sp_addStep (V := upV V 0 9 (V 0 9 + 1)) (s := unS (tK b t q)) (d := if tK b t q = 2 then tN b t q else if tK b t q = 3 then fndI (V 1) (tW b t q) (V 0 0) else 0) hT11 (by omega) (fun x1 => ?_), fun r15 S14 g => good _ S14 g.1 g.2.1 g.2.2 rfl (fun y => hk3 y.1)⟩
            have e2 : tK b t q = 2 := hu.2.2.mp (by
              have : ¬ unS (tK b t q) = 1 := fun y => hk3 (hu.2.1.mp y)
              omega)
            rw [e13, if_pos e2]
            exact hC.2.2.2.1 e2
          · have e1 : unS (tK b t q) = 1 := (nI_eq_i (b := 1) (by omega) (by decide)).mp x
            have e3 := hu.2.1.mp e1
            rw [hF11.at 3 rfl, hF11.al 13 rfl, hC.2.2.2.2 e3, hD.1]
            refine ⟨_, sp_cfind_a hD.2.1 (tW_lt hb hq (Or.inl e3)) (fun i hi => by rw [hF11.al 11 rfl]; exact hD.2.2 i hi), fun r20 S19 g => ?_⟩
            obtain ⟨g1, g2⟩ := g
            subst g2
            by_cases c : fndI (V 1) (tW b t q) (V 0 0) < V 0 0
            · rw [if_pos c] at g1
              have hn5 := hD.2.1
              rw [g1]
              refine ⟨fun _ => ⟨_, sp_addStep (V := upV V 0 9 (V 0 9 + 1)) (s := unS (tK b t q)) (d := fndI (V 1) (tW b t q) (V 0 0)) hT11 (by omega) (fun _ => rfl), fun r15 S14 g => good _ S14 g.1 g.2.1 g.2.2 ?_ (fun y => y.2 c)⟩, fun y => absurd (show nI (fndI (V 1) (tW b t q) (V 0 0)) < 0 by rw [y]; decide) (nI_neg (by omega))⟩
              rw [if_neg (by omega), if_pos e3]
            · rw [if_neg c] at g1
              rw [g1]
              refine ⟨fun y => absurd rfl y, fun _ => ?_⟩
              rw [hQ]
              refine ⟨hF11, Or.inl ⟨5, rfl, by decide, by decide, fun f => ?_⟩⟩
              rw [frF, if_neg hn, if_neg c40, if_neg (fun x => x.elim c99 (fun x => by omega)), if_pos ⟨e3, c⟩]
        · have := (nI_eq_i (b := 17) (by omega) (by decide)).mp x
          omega
    · have c40 : tK b t q = 40 := (eK 40 (by decide)).mp z
      rw [w2, show (30 : Int32) = nI 30 from rfl, nI_lt_i (by omega) (by decide)]
      refine ⟨fun y S37 e37 => ⟨fun x => absurd rfl x, fun _ S57 e57 => ?_⟩, fun y => bad2 S FG.rf (fun _ => Or.inl (by omega)) (fun x => absurd c40 x)⟩
      rw [nI_1] at e37
      have e5 : S37.1 14 5 = nI (cB wl) := by rw [e37, stI_row (by decide)]; exact w4
      rw [e5, nI_1] at e57
      have hF : FG [7, 8, 9, 14, 15] S S57 := by
        rw [e57, e37]
        exact (FG.rf.st rfl).st rfl
      refine ⟨_, sp_open (S := S57) (s := 17) (wl := wl) ?_ ?_ (by omega) hw7 ?_, fun r60 S59 g => ?_⟩
      · rw [e57, stI_1, if_pos rfl, if_neg (by decide), e37, stI_row (by decide)]; exact w3
      · rw [e57, stI_1, if_pos rfl, if_neg (by decide), e37, stI_row (by decide)]; exact w5
      · rw [e57, stI_row (by decide), e37, stI_row (by decide)]; exact w8
      · obtain ⟨g1, g2⟩ := g
        rcases g2 with ⟨a1, a2⟩ | ⟨a1, a2, a3, a4, a5, a6, a7⟩
        · rw [a2]
          exact bad2 S59 (hF.tr (g1.mono rfl)) (fun _ => Or.inr a1) (fun x => absurd c40 x)
        · rw [hQ]
          refine ⟨hF.tr (g1.mono rfl), Or.inr ⟨a2, by omega, upV V 0 9 (V 0 9 + 1), true, 17 :: wl, U, fun f => ?_, ⟨?_, ?_, a3, ?_, ?_, ?_, fun _ => ?_, a6⟩, hS.bra (by omega), fKp.un⟩⟩
          · rw [frF, if_neg hn, if_pos c40, if_neg (by omega)]
          · refine (w1.cg ?_ ?_ ?_).un
            · rw [g1.at 7 rfl, e57, stI_row (by decide), e37, stI_1, if_pos rfl, if_neg (by decide)]
            · rw [g1.at 8 rfl, e57, stI_row (by decide), e37, stI_row (by decide)]
            · rw [g1.at 9 rfl, e57, stI_row (by decide), e37, stI_row (by decide)]
          · rw [g1.at 7 rfl, e57, stI_row (by decide), e37, stI_1, if_pos rfl, if_pos rfl, upV_at]
          · rw [a7 5 (by decide) (by decide) (by decide), e57, stI_1, if_pos rfl, if_pos rfl, cB, if_pos rfl]
            congr 1
            omega
          · rw [a4, cN, cB, if_neg (by decide), if_pos rfl]
            congr 1
            omega
          · rw [a7 7 (by decide) (by decide) (by decide), e57, stI_1, if_pos rfl, if_neg (by decide), e37, stI_row (by decide)]; exact w6
          · rw [a5]
            rfl
  refine eX2_readUnit (vX2_readUnit_0 ⟨fun z => step2 (fun x => z ((eK 267 (by decide)).mpr x.1)), fun z => ⟨fun y => step2 (fun x => ?_), fun y => ?_⟩⟩)
  · rw [w7 rfl, bI_0, x.2] at y
    cases y
  · rw [w7 rfl, bI_0] at y
    have hm : mayN wl = true := by
      revert y
      cases mayN wl <;> simp
    have c267 : tK b t q = 267 := (eK 267 (by decide)).mp z
    refine ⟨_, sp_open (s := 8) (wl := wl) w3 w5 (by omega) hw7 w8, fun r5 S4 g => ?_⟩
    obtain ⟨g1, g2⟩ := g
    rw [hQ]
    refine ⟨g1.mono rfl, ?_⟩
    rcases g2 with ⟨a1, a2⟩ | ⟨a1, a2, a3, a4, a5, a6, a7⟩
    · refine Or.inl ⟨2, a2, by decide, by decide, fun f => ?_⟩
      rw [frF, if_pos ⟨c267, hm⟩, if_pos a1]
    · refine Or.inr ⟨a2, by omega, V, true, 8 :: wl, U, fun f => ?_, ⟨?_, ?_, a3, ?_, ?_, ?_, fun _ => ?_, a6⟩, hS.not a1, fKp.rf⟩
      · rw [frF, if_pos ⟨c267, hm⟩, if_neg a1]
      · exact w1.cg (by rw [g1.at 7 rfl]) (by rw [g1.at 8 rfl]) (by rw [g1.at 9 rfl])
      · rw [g1.at 7 rfl]; exact w2
      · rw [a7 5 (by decide) (by decide) (by decide), cB, if_neg (by decide), Nat.zero_add]; exact w4
      · rw [a4, cN, cB, if_pos rfl, if_neg (by decide)]
        congr 1
        omega
      · rw [a7 7 (by decide) (by decide) (by decide)]; exact w6
      · rw [a5]
        rfl
end
