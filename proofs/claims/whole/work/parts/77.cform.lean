/-! ===== the class reads an e ===== -/
/-- only these rows have changed, numbers and long ones -/
def FG (L : List Nat) (S S1 : ovS) : Prop := ∀ k, L.contains k = false → S1.1 k = S.1 k ∧ S1.2 k = S.2 k
theorem FG.rf {L : List Nat} {S : ovS} : FG L S S := fun _ _ => ⟨rfl, rfl⟩
theorem FG.tr {L : List Nat} {S S1 S2 : ovS} (h : FG L S S1) (h2 : FG L S1 S2) : FG L S S2 := fun k hk => ⟨(h2 k hk).1.trans (h k hk).1, (h2 k hk).2.trans (h k hk).2⟩
theorem FG.at {L : List Nat} {S S1 : ovS} (h : FG L S S1) (k : Nat) (hk : L.contains k = false) : S1.1 k = S.1 k := (h k hk).1
theorem FG.al {L : List Nat} {S S1 : ovS} (h : FG L S S1) (k : Nat) (hk : L.contains k = false) : S1.2 k = S.2 k := (h k hk).2
theorem FG.st {L : List Nat} {S S1 : ovS} {o j : Nat} {v : Int32} (h : FG L S S1) (ho : L.contains o = true) : FG L S (stI S1 o j v) := fun k hk => by
  have hne : k ≠ o := fun e => by subst e; rw [ho] at hk; cases hk
  rw [stI_row hne, stI_2]
  exact h k hk
theorem FG.sj {L : List Nat} {S S1 : ovS} {o j : Nat} {v : Int64} (h : FG L S S1) (ho : L.contains o = true) : FG L S (stJ S1 o j v) := fun k hk => by
  have hne : k ≠ o := fun e => by subst e; rw [ho] at hk; cases hk
  rw [stJ_1, stJ_row hne]
  exact h k hk
theorem FG.mono {L M : List Nat} {S S1 : ovS} (h : FG L S S1) (hL : L.all (fun k => M.contains k) = true) : FG M S S1 := fun k hk => h k (by
  cases hc : L.contains k with
  | false => rfl
  | true =>
    have h1 : k ∈ L := by simpa using hc
    have h2 := List.all_eq_true.mp hL k h1
    rw [hk] at h2
    cases h2)
theorem FA.g {S S1 : ovS} (h : FA S S1) : FG [13] S S1 := fun k hk => h k (fun e => by subst e; cases hk)
theorem FG.fr {L : List Nat} {S S1 : ovS} (h : Fr L S S1) : FG L S S1 := fun k hk => ⟨h.1 k hk, by rw [h.2]⟩
/-- the steps as the class has them in its draft -/
def STc (S : ovS) (V : pV) : Prop := S.1 7 1 = nI (V 0 8) ∧ ∀ i, i < V 0 8 → S.1 8 i = nI (V 6 i) ∧ (V 6 i ≤ 1 → S.1 9 i = nI (V 7 i))
/-- what waits, in a row -/
def SN (f : Nat → Int32) : List Nat → Prop
  | [] => True
  | s :: l => f l.length = nI s ∧ SN f l
theorem SN.up {f : Nat → Int32} {v : Int32} : ∀ {l : List Nat} {j : Nat}, SN f l → l.length ≤ j → SN (upd f j v) l
  | [], _, _, _ => trivial
  | s :: l, j, h, hj => by
    rw [List.length_cons] at hj
    refine ⟨?_, SN.up h.2 (by omega)⟩
    have : ¬ l.length = j := by omega
    simp only [upd, if_neg this]
    exact h.1
theorem oRk_n : ∀ s, s < 18 → oRk.getD s 0 = nI (rk s) := by decide
theorem rk_lt : ∀ s, s < 18 → rk s < 10 := by decide
section
variable {G : ovG} {S : ovS} {b : Nat → Nat} {t : Nat} {V : pV} {wl : List Nat} {U : Nat}
theorem sp_addStep {s d : Nat} {x : Int32} (hT : STc S V) (hl : V 0 8 < 300) (hd : s ≤ 1 → x = nI d) : Ex G mX1_addStep 1 [.ref 7, .int (nI s), .int x] S (fun _ S1 => STc S1 (addS V s d) ∧ FG [7, 8, 9] S S1 ∧ S1.1 7 0 = S.1 7 0) := by
  refine eX1_addStep (vX1_addStep_0 ?_)
  rw [hT.1]
  refine ⟨fun z => absurd ((nI_le_i (a := 300) (by decide) (by omega)).mp z) (by omega), fun _ => ⟨vp_in_nI (by omega) (by decide), fun S2 e2 => ?_⟩⟩
  have e71 : S2.1 7 1 = nI (V 0 8) := by rw [e2, stI_row (by decide)]; exact hT.1
  rw [e71]
  refine ⟨vp_in_nI (by omega) (by decide), fun S3 e3 S4 e4 => ?_⟩
  have e71' : S3.1 7 1 = nI (V 0 8) := by rw [e3, stI_row (by decide)]; exact e71
  rw [e71', nI_1] at e4
  rw [nI_ix (by omega)] at e2 e3
  refine ⟨⟨?_, fun i hi => ?_⟩, ?_, ?_⟩
  · rw [e4, stI_1, if_pos rfl, if_pos rfl, addS_n]
  · rw [addS_n] at hi
    rw [addS_6, addS_7, e4, stI_row (a := 8) (by decide), stI_row (a := 9) (by decide), e3, stI_row (a := 8) (by decide), stI_self, e2, stI_self, stI_row (a := 9) (by decide)]
    simp only [upd]
    by_cases e : i = V 0 8
    · rw [if_pos e, if_pos e, if_pos e, if_pos e]
      exact ⟨rfl, hd⟩
    · rw [if_neg e, if_neg e, if_neg e, if_neg e]
      exact hT.2 i (by omega)
  · rw [e4, e3, e2]
    exact ((FG.rf.st rfl).st rfl).st rfl
  · rw [e4, stI_1, if_pos rfl, if_neg (by decide), e3, stI_row (by decide), e2, stI_row (by decide)]
theorem STc.cg {S1 : ovS} (h : STc S V) (h7 : S1.1 7 1 = S.1 7 1) (h8 : S1.1 8 = S.1 8) (h9 : S1.1 9 = S.1 9) : STc S1 V := by
  unfold STc
  rw [h7, h8, h9]
  exact h
theorem sp_unwind {r : Nat} (hr : 1 ≤ r) (hr9 : r < 10) (hS : SI V wl U 1) (hT : STc S V) (h4 : S.1 14 4 = nI wl.length) (h6 : S.1 14 6 = nI (cN wl + cB wl)) (hN : SN (S.1 15) wl) : Ex G mX2_unwind 2 [.ref 14, .int (nI r)] S (fun _ S1 => STc S1 (uwV r wl V) ∧ S1.1 14 4 = nI (uwR r wl).length ∧ S1.1 14 6 = nI (cN (uwR r wl) + cB (uwR r wl)) ∧ SN (S1.1 15) (uwR r wl) ∧ FG [7, 8, 9, 14] S S1 ∧ (∀ j, j ≠ 4 → j ≠ 6 → S1.1 14 j = S.1 14 j) ∧ S1.1 7 0 = S.1 7 0) := by
  have key : ∀ (l : List Nat) (V' : pV) (S' : ovS), SI V' l U 1 → STc S' V' → S'.1 14 4 = nI l.length → S'.1 14 6 = nI (cN l + cB l) → SN (S'.1 15) l → FG [7, 8, 9, 14] S S' → (∀ j, j ≠ 4 → j ≠ 6 → S'.1 14 j = S.1 14 j) → S'.1 7 0 = S.1 7 0 → RM G mX2_unwind 2 (fun _ S1 => STc S1 (uwV r l V') ∧ S1.1 14 4 = nI (uwR r l).length ∧ S1.1 14 6 = nI (cN (uwR r l) + cB (uwR r l)) ∧ SN (S1.1 15) (uwR r l) ∧ FG [7, 8, 9, 14] S S1 ∧ (∀ j, j ≠ 4 → j ≠ 6 → S1.1 14 j = S.1 14 j) ∧ S1.1 7 0 = S.1 7 0) 7 [some (.ref 14), some (.int (nI r)), some (.int (nI l.length - 1))] [] S' := by
    intro l
    induction l with
    | nil =>
      intro V' S' a1 a2 a3 a4 a5 a6 a7 a8
      exact vX2_unwind_7 ⟨fun _ => ⟨a2, a3, a4, a5, a6, a7, a8⟩, fun z => absurd (by decide) z⟩
    | cons s l ih =>
      intro V' S' a1 a2 a3 a4 a5 a6 a7 a8
      have hlen := a1.len
      have hs := a1.2.2.2.2.2.2.2.2 s (List.mem_cons_self ..)
      rw [List.length_cons] at hlen
      rw [List.length_cons, nI_pred]
      have hk := rk_lt s (by omega)
      have hin : vp_in (nI l.length) 64 := vp_in_nI (by omega) (by decide)
      refine vX2_unwind_7 ⟨fun z => absurd z (nI_neg (by omega)), fun _ => ⟨hin, ?_⟩⟩
      rw [nI_ix (n := l.length) (by omega), a5.1, nI_ix (n := s) (by omega), oRk_n s (by omega), nI_lt_i (by omega) (by omega)]
      refine ⟨vp_in_nI (by omega) (by decide), fun c => ?_, fun c => ⟨hin, _, sp_addStep (s := s) (d := 0) a2 (by omega) (fun _ => rfl), fun r5 S4 q => ⟨hin, ?_⟩⟩⟩
      · rw [uwV, uwR, if_neg (by omega), if_neg (by omega)]
        exact ⟨a2, a3, a4, a5, a6, a7, a8⟩
      · obtain ⟨q1, q2, q3⟩ := q
        have h17 : ¬ s = 17 := fun e => rk_17 hr (by rw [← e]; omega)
        have e15 : S4.1 15 l.length = nI s := by rw [q2.at 15 rfl]; exact a5.1
        rw [e15, show (8 : Int32) = nI 8 from rfl, nI_eq_i (by omega) (by decide), m1_sub, uwV, uwR, if_pos (by omega), if_pos (by omega)]
        have a4' := a4
        rw [cN, cB, if_neg h17] at a4'
        refine ⟨fun d S9 e9 => ?_, fun d S10 e10 S11 e11 => ?_⟩
        · rw [if_neg d] at a4'
          refine ih _ S9 (a1.e1 h17) ?_ ?_ ?_ ?_ ?_ ?_ ?_
          · rw [e9]; exact q1.cg (by rw [stI_row (by decide)]) (by rw [stI_row (by decide)]) (by rw [stI_row (by decide)])
          · rw [e9, stI_1, if_pos rfl, if_pos rfl]
          · rw [e9, stI_1, if_pos rfl, if_neg (by decide), q2.at 14 rfl, a4']
            congr 1
            omega
          · rw [e9, stI_row (by decide), q2.at 15 rfl]; exact a5.2
          · rw [e9]; exact (a6.tr (q2.mono rfl)).st rfl
          · intro j h1 h2
            rw [e9, stI_1, if_pos rfl, if_neg h1, q2.at 14 rfl]
            exact a7 j h1 h2
          · rw [e9, stI_row (by decide), q3]; exact a8
        · rw [if_pos d] at a4'
          rw [q2.at 14 rfl, a4', show (1 : Int32) = nI 1 from rfl, nI_subk (by omega)] at e10
          refine ih _ S11 (a1.e1 h17) ?_ ?_ ?_ ?_ ?_ ?_ ?_
          · rw [e11, e10]; exact q1.cg (by rw [stI_row (by decide), stI_row (by decide)]) (by rw [stI_row (by decide), stI_row (by decide)]) (by rw [stI_row (by decide), stI_row (by decide)])
          · rw [e11, stI_1, if_pos rfl, if_pos rfl]
          · rw [e11, stI_1, if_pos rfl, if_neg (by decide), e10, stI_1, if_pos rfl, if_pos rfl]
            congr 1
            omega
          · rw [e11, stI_row (by decide), e10, stI_row (by decide), q2.at 15 rfl]; exact a5.2
          · rw [e11, e10]; exact ((a6.tr (q2.mono rfl)).st rfl).st rfl
          · intro j h1 h2
            rw [e11, stI_1, if_pos rfl, if_neg h1, e10, stI_1, if_pos rfl, if_neg h2, q2.at 14 rfl]
            exact a7 j h1 h2
          · rw [e11, stI_row (by decide), e10, stI_row (by decide), q3]; exact a8
  refine eX2_unwind (vX2_unwind_0 ?_)
  rw [h4]
  exact key wl V S hS hT h4 h6 hN FG.rf (fun _ _ _ => rfl) rfl
/-- what waits gets one more -/
theorem sp_letWait {s : Nat} (h4 : S.1 14 4 = nI wl.length) (hl : wl.length < 64) (hN : SN (S.1 15) wl) : Ex G mX2_letWait 1 [.ref 14, .int (nI s)] S (fun r S1 => r = 0 ∧ S1.1 14 4 = nI (s :: wl).length ∧ SN (S1.1 15) (s :: wl) ∧ FG [14, 15] S S1 ∧ ∀ j, j ≠ 4 → S1.1 14 j = S.1 14 j) := by
  refine eX2_letWait (vX2_letWait_0 ?_)
  rw [h4]
  refine ⟨fun _ => ⟨vp_in_nI hl (by decide), fun S2 e2 S3 e3 => ?_⟩, fun z => absurd ((nI_lt_i (b := 64) (by omega) (by decide)).mpr hl) z⟩
  rw [nI_ix (by omega)] at e2
  have e4 : S2.1 14 4 = nI wl.length := by rw [e2, stI_row (by decide)]; exact h4
  rw [e4, nI_1] at e3
  refine ⟨rfl, ?_, ⟨?_, ?_⟩, ?_, fun j hj => ?_⟩
  · rw [e3, stI_1, if_pos rfl, if_pos rfl, List.length_cons]
  · rw [e3, stI_row (by decide), e2, stI_self]
    simp [upd]
  · rw [e3, stI_row (by decide), e2, stI_self]
    exact hN.up (Nat.le_refl _)
  · rw [e3, e2]
    exact (FG.rf.st rfl).st rfl
  · rw [e3, stI_1, if_pos rfl, if_neg hj, e2, stI_row (by decide)]
theorem nI_le6 {n : Nat} (h : n < 2147483648) : nI n ≤ 6 ↔ n ≤ 6 := nI_le_i (b := 6) h (by decide)
/-- a bracket or a not opens -/
theorem sp_open {s : Nat} (h4 : S.1 14 4 = nI wl.length) (h6 : S.1 14 6 = nI (cN wl + cB wl)) (hl : wl.length < 64) (hw : cN wl + cB wl ≤ 7) (hN : SN (S.1 15) wl) : Ex G mX2_open 2 [.ref 14, .int (nI s)] S (fun r S1 => FG [14, 15] S S1 ∧ ((6 < cN wl + cB wl ∧ r = 2) ∨ (¬ 6 < cN wl + cB wl ∧ r = 0 ∧ S1.1 14 4 = nI (s :: wl).length ∧ S1.1 14 6 = nI (cN wl + cB wl + 1) ∧ S1.1 14 8 = 1 ∧ SN (S1.1 15) (s :: wl) ∧ ∀ j, j ≠ 4 → j ≠ 6 → j ≠ 8 → S1.1 14 j = S.1 14 j))) := by
  refine eX2_open (vX2_open_0 ?_)
  rw [h6, nI_le6 (by omega)]
  refine ⟨fun c S2 e2 S3 e3 => ?_, fun c => ⟨FG.rf, Or.inl ⟨by omega, rfl⟩⟩⟩
  rw [nI_1] at e2
  refine ⟨_, sp_letWait (S := S3) (wl := wl) ?_ hl ?_, fun r6 S5 q => ?_⟩
  · rw [e3, stI_1, if_pos rfl, if_neg (by decide), e2, stI_1, if_pos rfl, if_neg (by decide)]; exact h4
  · rw [e3, stI_row (by decide), e2, stI_row (by decide)]; exact hN
  · obtain ⟨q1, q2, q3, q4, q5⟩ := q
    refine ⟨?_, Or.inr ⟨by omega, q1, q2, ?_, ?_, q3, fun j h1 h2 h3 => ?_⟩⟩
    · refine FG.tr ?_ q4
      rw [e3, e2]
      exact (FG.rf.st rfl).st rfl
    · rw [q5 6 (by decide), e3, stI_1, if_pos rfl, if_neg (by decide), e2, stI_1, if_pos rfl, if_pos rfl]
    · rw [q5 8 (by decide), e3, stI_1, if_pos rfl, if_pos rfl]
    · rw [q5 j h1, e3, stI_1, if_pos rfl, if_neg h3, e2, stI_1, if_pos rfl, if_neg h2]
theorem sp_cfind_a {n w : Nat} {f : Nat → Nat} (hn : n ≤ 5) (hw : w < 2 ^ 64) (hf : ∀ i, i < n → S.2 11 i = lN (f i) ∧ f i < 2 ^ 64) : Ex G mX5_find 1 [.ref 11, .int (nI n), .long (lN w)] S (fun r S1 => r = (if fndI f w n < n then nI (fndI f w n) else -1) ∧ S1 = S) := by
  have key : ∀ k i : Nat, i + k = n → (∀ j, j < i → ¬ f j = w) → RM G mX5_find 1 (fun r S1 => r = (if fndI f w n < n then nI (fndI f w n) else -1) ∧ S1 = S) 3 [some (.ref 11), some (.int (nI n)), some (.long (lN w)), none, some (.int (nI i))] [] S := by
    intro k
    induction k with
    | zero =>
      intro i hi hm
      refine vX5_find_a_3 ⟨fun _ => ⟨?_, rfl⟩, fun z => absurd ((nI_le_i (by omega) (by omega)).mpr (by omega)) z⟩
      rw [if_neg (fnd_n (fun j hj => hm j (by omega)))]
    | succ k ih =>
      intro i hi hm
      refine vX5_find_a_3 ⟨fun z => absurd ((nI_le_i (by omega) (by omega)).mp z) (by omega), fun _ => ⟨fun z => absurd ((nI_le_i (a := 5) (by decide) (by omega)).mp z) (by omega), fun _ => ⟨vp_in_nI (by omega) (by decide), ?_⟩⟩⟩
      rw [nI_ix (by omega), lg_cmp_eq, (hf i (by omega)).1, lN_inj (hf i (by omega)).2 hw]
      refine ⟨fun z => ?_, fun z => ⟨?_, rfl⟩⟩
      · have := ih (i + 1) (by omega) (fun j hj => by
          by_cases e : j = i
          · rw [e]; exact z
          · exact hm j (by omega))
        rw [nI_succ i] at this
        exact this
      · have e := fnd_is (n := n) (by omega) z hm
        rw [e, if_pos (by omega)]
  exact eX5_find_a (vX5_find_a_0 (key n 0 (by omega) (fun j hj => absurd hj (by omega))))
theorem sp_cfind_b {n w : Nat} {f : Nat → Nat} (hn : n ≤ 5) (hw : w < 2 ^ 64) (hf : ∀ i, i < n → S.2 12 i = lN (f i) ∧ f i < 2 ^ 64) : Ex G mX5_find 1 [.ref 12, .int (nI n), .long (lN w)] S (fun r S1 => r = (if fndI f w n < n then nI (fndI f w n) else -1) ∧ S1 = S) := by
  have key : ∀ k i : Nat, i + k = n → (∀ j, j < i → ¬ f j = w) → RM G mX5_find 1 (fun r S1 => r = (if fndI f w n < n then nI (fndI f w n) else -1) ∧ S1 = S) 3 [some (.ref 12), some (.int (nI n)), some (.long (lN w)), none, some (.int (nI i))] [] S := by
    intro k
    induction k with
    | zero =>
      intro i hi hm
      refine vX5_find_b_3 ⟨fun _ => ⟨?_, rfl⟩, fun z => absurd ((nI_le_i (by omega) (by omega)).mpr (by omega)) z⟩
      rw [if_neg (fnd_n (fun j hj => hm j (by omega)))]
    | succ k ih =>
      intro i hi hm
      refine vX5_find_b_3 ⟨fun z => absurd ((nI_le_i (by omega) (by omega)).mp z) (by omega), fun _ => ⟨fun z => absurd ((nI_le_i (a := 5) (by decide) (by omega)).mp z) (by omega), fun _ => ⟨vp_in_nI (by omega) (by decide), ?_⟩⟩⟩
      rw [nI_ix (by omega), lg_cmp_eq, (hf i (by omega)).1, lN_inj (hf i (by omega)).2 hw]
      refine ⟨fun z => ?_, fun z => ⟨?_, rfl⟩⟩
      · have := ih (i + 1) (by omega) (fun j hj => by
          by_cases e : j = i
          · rw [e]; exact z
          · exact hm j (by omega))
        rw [nI_succ i] at this
        exact this
      · have e := fnd_is (n := n) (by omega) z hm
        rw [e, if_pos (by omega)]
  exact eX5_find_b (vX5_find_b_0 (key n 0 (by omega) (fun j hj => absurd hj (by omega))))
end
