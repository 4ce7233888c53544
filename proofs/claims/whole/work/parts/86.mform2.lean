/-! ===== the reference reads an e: pieces ===== -/
def mC (c : Nat) : Nat := if c = 0 then 0 else if c ≤ 5 then 1 else if c = 8 then 2 else 3
def mA (c d : Nat) : Int32 := if c ≤ 1 then nI d else if c ≤ 5 then nI (c + 3) else if c = 8 then 0 else sgn (nI c)
def mo (s : Nat) : Int32 := if s = 17 then 20 else if s = 8 then 21 else sgn (nI s)
def STm (S : ovS) (V : pV) : Prop := S.1 412 17 = nI (V 0 8) ∧ ∀ i, i < V 0 8 → S.1 415 i = nI (mC (V 6 i)) ∧ S.1 416 i = mA (V 6 i) (V 7 i)
def SNm (f : Nat → Int32) : List Nat → Prop
  | [] => True
  | s :: l => f l.length = mo s ∧ SNm f l
theorem SNm.up {f : Nat → Int32} {v : Int32} : ∀ {l : List Nat} {j : Nat}, SNm f l → l.length ≤ j → SNm (upd f j v) l
  | [], _, _, _ => trivial
  | s :: l, j, h, hj => by
    rw [List.length_cons] at hj
    refine ⟨?_, SNm.up h.2 (by omega)⟩
    have : ¬ l.length = j := by omega
    simp only [upd, if_neg this]
    exact h.1
/-- what an e's reading knows -/
def MW (S : ovS) (V : pV) (wl : List Nat) : Prop := STm S V ∧ S.1 412 20 = nI (V 0 9) ∧ S.1 412 22 = nI (V 0 9) ∧ S.1 412 19 = nI wl.length ∧ S.1 412 23 = nI (cN wl + cB wl) ∧ SNm (S.1 419) wl
theorem mo_20 : ∀ s, s < 18 → 6 ≤ s → (mo s = 20 ↔ s = 17) := by decide
theorem mo_21 : ∀ s, s < 18 → 6 ≤ s → (mo s = 21 ↔ s = 8) := by decide
abbrev Lw : List Nat := [415, 416, 419]
abbrev Jw : List Nat := [17, 19, 23]
section
variable {G : ovG} {S : ovS} {b : Nat → Nat} {t q : Nat} {V : pV} {wl : List Nat} {U : Nat}
theorem STm.fz {L J : List Nat} {S1 : ovS} (h : STm S V) (hF : FZ L J S S1) (hL : (L.contains 415 || L.contains 416) = false) (hJ : J.contains 17 = false) : STm S1 V := by
  rw [Bool.or_eq_false_iff] at hL
  unfold STm
  rw [hF.sl 17 hJ, hF.at 415 (by rw [hL.1]; rfl), hF.at 416 (by rw [hL.2]; rfl)]
  exact h
theorem MW.fz {L J : List Nat} {S1 : ovS} (h : MW S V wl) (hF : FZ L J S S1) (hL : ([415, 416, 419].all fun k => !(L.contains k)) = true) (hJ : ([17, 19, 20, 22, 23].all fun k => !(J.contains k)) = true) : MW S1 V wl := by
  have e : ∀ k, k ∈ [17, 19, 20, 22, 23] → J.contains k = false := fun k hk => by
    have := List.all_eq_true.mp hJ k hk
    simpa using this
  have e2 : ∀ k, k ∈ [415, 416, 419] → L.contains k = false := fun k hk => by
    have := List.all_eq_true.mp hL k hk
    simpa using this
  unfold MW STm
  rw [hF.sl 17 (e 17 (by decide)), hF.sl 19 (e 19 (by decide)), hF.sl 20 (e 20 (by decide)), hF.sl 22 (e 22 (by decide)), hF.sl 23 (e 23 (by decide)), hF.at 415 (by rw [e2 415 (by decide)]; rfl), hF.at 416 (by rw [e2 416 (by decide)]; rfl), hF.at 419 (by rw [e2 419 (by decide)]; rfl)]
  exact h
theorem sp_add {s d : Nat} {x y : Int32} (hT : STm S V) (hl : V 0 8 < 300) (hx : x = nI (mC s)) (hy : y = mA s d) : Ex G mX12_add 1 [.ref 412, .int x, .int y] S (fun _ S1 => STm S1 (addS V s d) ∧ FZ [415, 416] [17] S S1) := by
  refine eX12_add (vX12_add_0 ?_)
  rw [hT.1]
  refine ⟨vp_in_nI (by omega) (by decide), fun S2 e2 => ?_⟩
  have e71 : S2.1 412 17 = nI (V 0 8) := by rw [e2, stI_row (by decide)]; exact hT.1
  rw [e71]
  refine ⟨vp_in_nI (by omega) (by decide), fun S3 e3 S4 e4 => ?_⟩
  have e71' : S3.1 412 17 = nI (V 0 8) := by rw [e3, stI_row (by decide)]; exact e71
  rw [e71', nI_1] at e4
  rw [nI_ix (by omega)] at e2 e3
  refine ⟨⟨?_, fun i hi => ?_⟩, ?_⟩
  · rw [e4, stI_1, if_pos rfl, if_pos rfl, addS_n]
  · rw [addS_n] at hi
    rw [addS_6, addS_7, e4, stI_row (a := 415) (by decide), stI_row (a := 416) (by decide), e3, stI_row (a := 415) (by decide), stI_self, e2, stI_self, stI_row (a := 416) (by decide)]
    simp only [upd]
    by_cases e : i = V 0 8
    · rw [if_pos e, if_pos e, if_pos e, if_pos e]
      exact ⟨hx, hy⟩
    · rw [if_neg e, if_neg e, if_neg e, if_neg e]
      exact hT.2 i (by omega)
  · rw [e4, e3, e2]
    exact ((FZ.rf.st rfl rfl).st rfl rfl).sm rfl
theorem sp_tight {s : Nat} (h6 : 6 ≤ s) (h16 : s ≤ 16) : Ex G mX12_tight 1 [.int (mo s)] S (fun r S1 => r = nI (rk s) ∧ S1 = S) := by
  have hs : s = 6 ∨ s = 7 ∨ s = 8 ∨ s = 9 ∨ s = 10 ∨ s = 11 ∨ s = 12 ∨ s = 13 ∨ s = 14 ∨ s = 15 ∨ s = 16 := by omega
  refine eX12_tight (vX12_tight_0 ⟨fun z => ⟨?_, rfl⟩, fun z => ⟨?_, rfl⟩, fun z => ⟨?_, rfl⟩, fun z => ⟨?_, rfl⟩, fun z => ⟨?_, rfl⟩, fun z => ⟨?_, rfl⟩, fun z => ⟨?_, rfl⟩, fun z => ⟨?_, rfl⟩, fun z1 z2 z3 z4 z5 z6 z7 z8 => ⟨?_, rfl⟩⟩)
  · rcases hs with rfl | rfl | rfl | rfl | rfl | rfl | rfl | rfl | rfl | rfl | rfl <;> first | rfl | exact absurd z (by decide)
  · rcases hs with rfl | rfl | rfl | rfl | rfl | rfl | rfl | rfl | rfl | rfl | rfl <;> first | rfl | exact absurd z (by decide)
  · rcases hs with rfl | rfl | rfl | rfl | rfl | rfl | rfl | rfl | rfl | rfl | rfl <;> first | rfl | exact absurd z (by decide)
  · rcases hs with rfl | rfl | rfl | rfl | rfl | rfl | rfl | rfl | rfl | rfl | rfl <;> first | rfl | exact absurd z (by decide)
  · rcases hs with rfl | rfl | rfl | rfl | rfl | rfl | rfl | rfl | rfl | rfl | rfl <;> first | rfl | exact absurd z (by decide)
  · rcases hs with rfl | rfl | rfl | rfl | rfl | rfl | rfl | rfl | rfl | rfl | rfl <;> first | rfl | exact absurd z (by decide)
  · rcases hs with rfl | rfl | rfl | rfl | rfl | rfl | rfl | rfl | rfl | rfl | rfl <;> first | rfl | exact absurd z (by decide)
  · rcases hs with rfl | rfl | rfl | rfl | rfl | rfl | rfl | rfl | rfl | rfl | rfl <;> first | rfl | exact absurd z (by decide)
  · rcases hs with rfl | rfl | rfl | rfl | rfl | rfl | rfl | rfl | rfl | rfl | rfl <;> first | rfl | exact absurd rfl z8 | exact absurd rfl z2 | exact absurd rfl z1 | exact absurd rfl z5 | exact absurd rfl z7 | exact absurd rfl z6 | exact absurd rfl z3 | exact absurd rfl z4
theorem rk_pos {s : Nat} (h6 : 6 ≤ s) (h16 : s ≤ 16) : 1 ≤ rk s := by
  have hh : ∀ s, s < 18 → 6 ≤ s → ¬ s = 17 → 1 ≤ rk s := by decide
  exact hh s (by omega) h6 (by omega)
/-- what waited goes to the steps -/
theorem sp_close {r : Nat} {x : Int32} (hr : 1 ≤ r) (hx : ∀ s, 6 ≤ s → s ≤ 16 → (nI (rk s) < x ↔ rk s < r)) (hS : SI V wl U 1) (hW : MW S V wl) : Ex G mX12_close 2 [.ref 412, .int x] S (fun _ S1 => MW S1 (uwV r wl V) (uwR r wl) ∧ FZ Lw Jw S S1) := by
  have key : ∀ (l : List Nat) (V' : pV) (S' : ovS), SI V' l U 1 → MW S' V' l → FZ Lw Jw S S' → RM G mX12_close 2 (fun _ S1 => MW S1 (uwV r l V') (uwR r l) ∧ FZ Lw Jw S S1) 0 [some (.ref 412), some (.int x)] [] S' := by
    intro l
    induction l with
    | nil =>
      intro V' S' a1 a2 a3
      refine vX12_close_0 ⟨fun _ => ⟨a2, a3⟩, fun z => absurd ?_ z⟩
      rw [a2.2.2.2.1]
      exact Int32.le_refl _
    | cons s l ih =>
      intro V' S' a1 a2 a3
      have hlen := a1.len
      have hs := a1.2.2.2.2.2.2.2.2 s (List.mem_cons_self ..)
      rw [List.length_cons] at hlen
      obtain ⟨w1, w2, w3, w4, w5, w6⟩ := a2
      rw [List.length_cons] at w4
      have hin : vp_in (nI l.length) 160 := vp_in_nI (by omega) (by decide)
      refine vX12_close_0 ?_
      rw [w4, nI_pred, nI_ix (n := l.length) (by omega), w6.1, mo_20 s (by omega) hs.1]
      refine ⟨fun z => absurd ((nI_le_i (b := 0) (by omega) (by decide)).mp z) (by omega), fun _ => ⟨hin, fun c => ?_, fun c => ⟨hin, _, sp_tight hs.1 (by omega), fun r5 S4 g => ?_⟩⟩⟩
      · subst c
        rw [uwV, uwR, if_neg (rk_17 hr), if_neg (rk_17 hr)]
        exact ⟨⟨w1, w2, w3, by rw [List.length_cons]; exact w4, w5, w6⟩, a3⟩
      · obtain ⟨g1, g2⟩ := g
        subst g2
        have hk := rk_lt s (by omega)
        rw [g1, hx s hs.1 (by omega)]
        refine ⟨fun d => ?_, fun d S9 e9 => ?_⟩
        · rw [uwV, uwR, if_neg (by omega), if_neg (by omega)]
          exact ⟨⟨w1, w2, w3, by rw [List.length_cons]; exact w4, w5, w6⟩, a3⟩
        · rw [w4, nI_pred] at e9
          have e19 : S9.1 412 19 = nI l.length := by rw [e9, stI_1, if_pos rfl, if_pos rfl]
          have hF9 : FZ [] [19] S4 S9 := by rw [e9]; exact FZ.rf.sm rfl
          rw [e19, nI_ix (n := l.length) (by omega), hF9.at 419 rfl, w6.1, mo_21 s (by omega) hs.1]
          rw [uwV, uwR, if_pos (by omega), if_pos (by omega)]
          rw [cN, cB, if_neg c] at w5
          refine ⟨hin, fun e => ⟨hin, _, sp_add (s := s) (d := 0) (w1.fz hF9 rfl rfl) (by omega) ?_ ?_, fun r13 S12 g => ?_⟩, fun e => ⟨_, sp_add (s := s) (d := 0) (w1.fz hF9 rfl rfl) (by omega) ?_ ?_, fun r18 S17 g S21 e21 => ?_⟩⟩
          · unfold mC
            rw [if_neg (by omega), if_neg (by omega), if_neg e]
            rfl
          · unfold mA mo
            rw [if_neg c, if_neg e, if_neg (by omega), if_neg (by omega), if_neg e]
          · rw [if_neg e] at w5
            refine ih _ S12 (a1.e1 c) ⟨g.1, ?_, ?_, ?_, ?_, ?_⟩ ((a3.tr (hF9.mono rfl rfl)).tr (g.2.mono rfl rfl))
            · rw [g.2.sl 20 rfl, hF9.sl 20 rfl, addS_0 (by decide)]; exact w2
            · rw [g.2.sl 22 rfl, hF9.sl 22 rfl, addS_0 (by decide)]; exact w3
            · rw [g.2.sl 19 rfl]; exact e19
            · rw [g.2.sl 23 rfl, hF9.sl 23 rfl, w5]
              congr 1
              omega
            · rw [g.2.at 419 rfl, hF9.at 419 rfl]; exact w6.2
          · unfold mC
            rw [if_neg (by omega), if_neg (by omega), if_pos e]
            rfl
          · unfold mA
            rw [if_neg (by omega), if_neg (by omega), if_pos e]
          · rw [if_pos e] at w5
            have e23 : S17.1 412 23 = nI (1 + cN l + (0 + cB l)) := by rw [g.2.sl 23 rfl, hF9.sl 23 rfl]; exact w5
            rw [e23, show (1 : Int32) = nI 1 from rfl, nI_subk (by omega)] at e21
            have hF21 : FZ [] [23] S17 S21 := by rw [e21]; exact FZ.rf.sm rfl
            refine ih _ S21 (a1.e1 c) ⟨g.1.fz hF21 rfl rfl, ?_, ?_, ?_, ?_, ?_⟩ (((a3.tr (hF9.mono rfl rfl)).tr (g.2.mono rfl rfl)).tr (hF21.mono rfl rfl))
            · rw [hF21.sl 20 rfl, g.2.sl 20 rfl, hF9.sl 20 rfl, addS_0 (by decide)]; exact w2
            · rw [hF21.sl 22 rfl, g.2.sl 22 rfl, hF9.sl 22 rfl, addS_0 (by decide)]; exact w3
            · rw [hF21.sl 19 rfl, g.2.sl 19 rfl]; exact e19
            · rw [e21, stI_1, if_pos rfl, if_pos rfl]
              congr 1
              omega
            · rw [hF21.at 419 rfl, g.2.at 419 rfl, hF9.at 419 rfl]; exact w6.2
  exact eX12_close (key wl V S hS hW FZ.rf)
theorem close_r {r : Nat} (hr9 : r < 10) : ∀ s, 6 ≤ s → s ≤ 16 → (nI (rk s) < nI r ↔ rk s < r) := fun s _ h16 => nI_lt_i (by have := rk_lt s (by omega); omega) (by omega)
theorem close_0 : ∀ s, 6 ≤ s → s ≤ 16 → (nI (rk s) < 0 ↔ rk s < 1) := fun s h6 h16 => by
  have h1 := rk_lt s (by omega)
  have h2 := rk_pos h6 h16
  exact ⟨fun z => absurd z (nI_neg (by omega)), fun z => absurd z (by omega)⟩
theorem sp_hasRelation (hm : ∀ s, s ∈ wl → 6 ≤ s ∧ s ≤ 17) (hl : wl.length ≤ 40) (hW : MW S V wl) : Ex G mX12_hasRelation 2 [.ref 412] S (fun r S1 => r = bI (relN wl) ∧ S1 = S) := by
  have fin : ∀ (l : List Nat), (∀ s, s ∈ l → 6 ≤ s ∧ s ≤ 17) → l.length ≤ 40 → SNm (S.1 419) l → uwR 5 l = l → RM G mX12_hasRelation 2 (fun r S1 => r = bI (relN l) ∧ S1 = S) 41 [some (.ref 412), some (.int (nI l.length - 1))] [] S := by
    intro l hm hl hN hu
    cases l with
    | nil =>
      exact vX12_hasRelation_41 ⟨fun _ => ⟨rfl, rfl⟩, fun z => absurd (by decide) z⟩
    | cons s l =>
      have hs := hm s (List.mem_cons_self ..)
      rw [List.length_cons] at hl ⊢
      have hin : vp_in (nI l.length) 160 := vp_in_nI (by omega) (by decide)
      have er : relN (s :: l) = decide (rk s = 4) := by
        unfold relN
        rw [hu]
      rw [nI_pred, er]
      refine vX12_hasRelation_41 ⟨fun z => absurd z (nI_neg (by omega)), fun _ => ⟨hin, ?_⟩⟩
      rw [nI_ix (n := l.length) (by omega), hN.1, mo_20 s (by omega) hs.1]
      refine ⟨fun z => ⟨by rw [z]; rfl, rfl⟩, fun z => ⟨hin, _, sp_tight hs.1 (by omega), fun r5 S4 g => ?_⟩⟩
      obtain ⟨g1, g2⟩ := g
      subst g2
      rw [g1, show (4 : Int32) = nI 4 from rfl, nI_eq_i (by have := rk_lt s (by omega); omega) (by decide)]
      exact ⟨fun y => ⟨by rw [decide_eq_false y]; rfl, rfl⟩, fun y => ⟨by rw [decide_eq_true y]; rfl, rfl⟩⟩
  have key : ∀ (l : List Nat), (∀ s, s ∈ l → 6 ≤ s ∧ s ≤ 17) → l.length ≤ 40 → SNm (S.1 419) l → RM G mX12_hasRelation 2 (fun r S1 => r = bI (relN l) ∧ S1 = S) 7 [some (.ref 412), some (.int (nI l.length - 1))] [] S := by
    intro l
    induction l with
    | nil =>
      intro hm hl hN
      exact vX12_hasRelation_7 ⟨fun _ => fin [] hm hl hN rfl, fun z => absurd (by decide) z⟩
    | cons s l ih =>
      intro hm hl hN
      have hs := hm s (List.mem_cons_self ..)
      have hl' := hl
      rw [List.length_cons] at hl
      have hin : vp_in (nI l.length) 160 := vp_in_nI (by omega) (by decide)
      have f' : ¬ 5 ≤ rk s → RM G mX12_hasRelation 2 (fun r S1 => r = bI (relN (s :: l)) ∧ S1 = S) 41 [some (.ref 412), some (.int (nI l.length))] [] S := by
        intro hk
        have := fin (s :: l) hm hl' hN (by rw [uwR, if_neg hk])
        rw [List.length_cons, nI_pred] at this
        exact this
      rw [List.length_cons, nI_pred]
      refine vX12_hasRelation_7 ⟨fun z => absurd z (nI_neg (by omega)), fun _ => ⟨hin, ?_⟩⟩
      rw [nI_ix (n := l.length) (by omega), hN.1, mo_20 s (by omega) hs.1]
      refine ⟨fun z => f' (by rw [z]; decide), fun z => ⟨hin, _, sp_tight hs.1 (by omega), fun r5 S4 g => ?_⟩⟩
      obtain ⟨g1, g2⟩ := g
      subst g2
      have hk := rk_lt s (by omega)
      rw [g1, show (4 : Int32) = nI 4 from rfl, nI_le_i (by omega) (by decide), m1_sub]
      refine ⟨fun y => f' (by omega), fun y => ?_⟩
      have er : relN (s :: l) = relN l := by
        unfold relN
        rw [uwR, if_pos (by omega)]
      rw [er]
      exact ih (fun x hx => hm x (List.mem_cons_of_mem _ hx)) (by omega) hN.2
  refine eX12_hasRelation (vX12_hasRelation_0 ?_)
  rw [hW.2.2.2.1]
  exact key wl hm hl hW.2.2.2.2.2
theorem sp_mayNot (hm : ∀ s, s ∈ wl → 6 ≤ s ∧ s ≤ 17) (hl : wl.length ≤ 40) (hW : MW S V wl) : Ex G mX12_mayNot 2 [.ref 412] S (fun r S1 => r = bI (mayN wl) ∧ S1 = S) := by
  refine eX12_mayNot (vX12_mayNot_0 ?_)
  rw [hW.2.2.2.1]
  have hN := hW.2.2.2.2.2
  cases wl with
  | nil => exact ⟨fun _ => ⟨rfl, rfl⟩, fun z => absurd rfl z⟩
  | cons s l =>
    have hs := hm s (List.mem_cons_self ..)
    rw [List.length_cons] at hl ⊢
    have hin : vp_in (nI l.length) 160 := vp_in_nI (by omega) (by decide)
    rw [nI_pred, nI_ix (n := l.length) (by omega), hN.1, mo_20 s (by omega) hs.1, show (0 : Int32) = nI 0 from rfl, nI_eq_i (by omega) (by decide)]
    refine ⟨fun z => absurd z (by omega), fun _ => ⟨hin, fun z => ⟨by rw [z]; rfl, rfl⟩, fun z => ⟨hin, _, sp_tight hs.1 (by omega), fun r5 S4 g => ?_⟩⟩⟩
    obtain ⟨g1, g2⟩ := g
    subst g2
    rw [g1, show (4 : Int32) = nI 4 from rfl, nI_le_i (by decide) (by have := rk_lt s (by omega); omega), mayN]
    exact ⟨fun y => ⟨by rw [decide_eq_false (by omega)]; rfl, rfl⟩, fun y => ⟨by rw [decide_eq_true (by omega)]; rfl, rfl⟩⟩
/-- a bracket waits -/
theorem SNm.br {f : Nat → Int32} : ∀ {l : List Nat}, SNm f l → (∀ s, s ∈ l → 6 ≤ s ∧ s ≤ 17) → (cB l = 0 ↔ ∀ i, i < l.length → ¬ f i = 20)
  | [], _, _ => ⟨fun _ i hi => absurd hi (by simp), fun _ => rfl⟩
  | s :: l, h, hm => by
    have hs := hm s (List.mem_cons_self ..)
    have ih := SNm.br h.2 (fun x hx => hm x (List.mem_cons_of_mem _ hx))
    have e20 := mo_20 s (by omega) hs.1
    unfold cB
    constructor
    · intro z i hi
      rw [List.length_cons] at hi
      split at z
      · omega
      · next c =>
        by_cases e : i = l.length
        · rw [e, h.1, e20]
          exact c
        · exact ih.mp (by omega) i (by omega)
    · intro z
      rw [if_neg (fun c => z l.length (by simp) (by rw [h.1, e20]; exact c)), Nat.zero_add]
      exact ih.mpr (fun i hi => z i (by rw [List.length_cons]; omega))
end
