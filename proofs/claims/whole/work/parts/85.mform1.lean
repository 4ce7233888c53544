/-! ===== the reference's reader: pieces ===== -/
def FLm (e : Nat × Nat) (S : ovS) : Prop := S.1 412 2 = nI e.1 ∧ ¬ e.1 = 0 ∧ e.1 < 100 ∧ S.1 412 3 = nI e.2
/-- only these numbers of the reference have changed, and these rows -/
def FZ (L J : List Nat) (S S1 : ovS) : Prop := (∀ k, L.contains k = false → k ≠ 412 → S1.1 k = S.1 k ∧ S1.2 k = S.2 k) ∧ (∀ j, J.contains j = false → S1.1 412 j = S.1 412 j) ∧ (J.contains 9 = false → S1.2 412 = S.2 412)
theorem FZ.rf {L J : List Nat} {S : ovS} : FZ L J S S := ⟨fun _ _ _ => ⟨rfl, rfl⟩, fun _ _ => rfl, fun _ => rfl⟩
theorem FZ.tr {L J : List Nat} {S S1 S2 : ovS} (h : FZ L J S S1) (h2 : FZ L J S1 S2) : FZ L J S S2 := ⟨fun k hk hc => ⟨(h2.1 k hk hc).1.trans (h.1 k hk hc).1, (h2.1 k hk hc).2.trans (h.1 k hk hc).2⟩, fun j hj => (h2.2.1 j hj).trans (h.2.1 j hj), fun h9 => (h2.2.2 h9).trans (h.2.2 h9)⟩
theorem FZ.at {L J : List Nat} {S S1 : ovS} (h : FZ L J S S1) (k : Nat) (hk : (L.contains k || k == 412) = false) : S1.1 k = S.1 k := by
  rw [Bool.or_eq_false_iff] at hk
  exact (h.1 k hk.1 (by simpa using hk.2)).1
theorem FZ.al {L J : List Nat} {S S1 : ovS} (h : FZ L J S S1) (k : Nat) (hk : (L.contains k || k == 412) = false) : S1.2 k = S.2 k := by
  rw [Bool.or_eq_false_iff] at hk
  exact (h.1 k hk.1 (by simpa using hk.2)).2
theorem FZ.sl {L J : List Nat} {S S1 : ovS} (h : FZ L J S S1) (j : Nat) (hj : J.contains j = false) : S1.1 412 j = S.1 412 j := h.2.1 j hj
theorem FZ.mono {L M J K : List Nat} {S S1 : ovS} (h : FZ L J S S1) (hL : L.all (fun k => M.contains k) = true) (hJ : J.all (fun k => K.contains k) = true) : FZ M K S S1 := by
  have sub : ∀ {A B : List Nat}, A.all (fun k => B.contains k) = true → ∀ k, B.contains k = false → A.contains k = false := fun hAB k hk => by
    rename_i A B
    cases hc : A.contains k with
    | false => rfl
    | true =>
      have h1 : k ∈ A := by simpa using hc
      have h2 := List.all_eq_true.mp hAB k h1
      rw [hk] at h2
      cases h2
  exact ⟨fun k hk hc => h.1 k (sub hL k hk) hc, fun j hj => h.2.1 j (sub hJ j hj), fun h9 => h.2.2 (sub hJ 9 h9)⟩
theorem FZ.st {L J : List Nat} {S S1 : ovS} {o j : Nat} {v : Int32} (h : FZ L J S S1) (ho : L.contains o = true) (h4 : (o == 412) = false) : FZ L J S (stI S1 o j v) := by
  have h4' : o ≠ 412 := by simpa using h4
  refine ⟨fun k hk hc => ?_, fun i hi => ?_, fun h9 => ?_⟩
  · have hne : k ≠ o := fun e => by subst e; rw [ho] at hk; cases hk
    rw [stI_row hne, stI_2]
    exact h.1 k hk hc
  · rw [stI_row (Ne.symm h4')]
    exact h.2.1 i hi
  · rw [stI_2]
    exact h.2.2 h9
theorem FZ.sm {L J : List Nat} {S S1 : ovS} {j : Nat} {v : Int32} (h : FZ L J S S1) (hj : J.contains j = true) : FZ L J S (stI S1 412 j v) := by
  refine ⟨fun k hk hc => ?_, fun i hi => ?_, fun h9 => ?_⟩
  · rw [stI_row hc, stI_2]
    exact h.1 k hk hc
  · have hne : i ≠ j := fun e => by subst e; rw [hj] at hi; cases hi
    rw [stI_1, if_pos rfl, if_neg hne]
    exact h.2.1 i hi
  · rw [stI_2]
    exact h.2.2 h9
theorem FZ.sj {L J : List Nat} {S S1 : ovS} {o j : Nat} {v : Int64} (h : FZ L J S S1) (ho : L.contains o = true) (h4 : (o == 412) = false) : FZ L J S (stJ S1 o j v) := by
  have h4' : o ≠ 412 := by simpa using h4
  refine ⟨fun k hk hc => ?_, fun i hi => ?_, fun h9 => ?_⟩
  · have hne : k ≠ o := fun e => by subst e; rw [ho] at hk; cases hk
    rw [stJ_1, stJ_row hne]
    exact h.1 k hk hc
  · rw [stJ_1]
    exact h.2.1 i hi
  · rw [stJ_row (Ne.symm h4')]
    exact h.2.2 h9
theorem FK.z {S S1 : ovS} (h : FK S S1) : FZ [] [4, 6, 7, 8, 9] S S1 := by
  refine ⟨fun k _ hc => h.1 k hc, fun j hj => h.2 j ?_ ?_ ?_ ?_, fun h9 => absurd h9 (by decide)⟩ <;> (intro e; subst e; cases hj)
/-- the reference shows the TOKEN from q on, and has found no FAULT -/
def MS (b : Nat → Nat) (t q : Nat) (S : ovS) : Prop := (TXm b t S ∧ S.1 412 3 = -1) ∧ TM b t q S ∧ S.1 412 2 = 0
theorem MS.fz {b : Nat → Nat} {t q : Nat} {L J : List Nat} {S S1 : ovS} (h : MS b t q S) (hF : FZ L J S S1) (hL : L.contains 413 = false) (hJ : ([2, 3, 4, 5, 6, 7, 8, 9].all fun k => !(J.contains k)) = true) : MS b t q S1 := by
  have e : ∀ k, k ∈ [2, 3, 4, 5, 6, 7, 8, 9] → J.contains k = false := fun k hk => by
    have := List.all_eq_true.mp hJ k hk
    simpa using this
  unfold MS TXm TM
  rw [hF.at 413 (by rw [hL]; rfl), hF.sl 2 (e 2 (by decide)), hF.sl 3 (e 3 (by decide)), hF.sl 4 (e 4 (by decide)), hF.sl 5 (e 5 (by decide)), hF.sl 6 (e 6 (by decide)), hF.sl 7 (e 7 (by decide)), hF.sl 8 (e 8 (by decide)), hF.2.2 (e 9 (by decide))]
  exact h
theorem so_lt {k : Nat} (h : k < 271) : soK k < 256 := by
  unfold soK
  split
  · omega
  · split <;> omega
theorem so_eq {k j : Nat} (hj : ¬ j = 1) (hj3 : ¬ j = 3) (hj2 : j < 256) : soK k = j ↔ k = j := by
  unfold soK
  split
  · omega
  · split <;> omega
theorem so_3 {k : Nat} : soK k = 3 ↔ k = 1 := by
  unfold soK
  split
  · omega
  · split <;> omega
theorem so_1 {k : Nat} : soK k = 1 ↔ (k = 3 ∨ 256 ≤ k) := by
  unfold soK
  split
  · omega
  · split <;> omega
section
variable {G : ovG} {S : ovS} {b : Nat → Nat} {t q : Nat}
theorem MS.so (h : MS b t q S) (hb : ∀ i, i < t → b i < 256) {j : Nat} (hj : j < 256) : S.1 412 6 = nI j ↔ soK (tK b t q) = j := by
  have := so_lt (tK_lt (q := q) hb)
  rw [h.2.1.1, nI_eq_i (by omega) (by omega)]
theorem z_le {x : Int32} (h : x = 0) : x ≤ 0 := by rw [h]; exact Int32.le_refl _
theorem FLm.n0 {e : Nat × Nat} (h : FLm e S) : ¬ S.1 412 2 = 0 := by
  rw [h.1]
  exact fun z => h.2.1 ((nI_eq_i (b := 0) (by have := h.2.2.1; omega) (by decide)).mp z)
theorem FLm.nl {e : Nat × Nat} (h : FLm e S) : ¬ S.1 412 2 ≤ 0 := by
  rw [h.1]
  exact fun z => h.2.1 (Nat.le_zero.mp ((nI_le_i (b := 0) (by have := h.2.2.1; omega) (by decide)).mp z))
theorem FLm.fz {L J : List Nat} {S1 : ovS} {e : Nat × Nat} (h : FLm e S) (hF : FZ L J S S1) (hJ : (J.contains 2 || J.contains 3) = false) : FLm e S1 := by
  rw [Bool.or_eq_false_iff] at hJ
  unfold FLm
  rw [hF.sl 2 hJ.1, hF.sl 3 hJ.2]
  exact h
theorem sp_tok (hq : q ≤ t) (hM : MS b t q S) (hk : ¬ tK b t q = 1) : Ex G mX12_token 2 [.ref 412] S (fun _ S1 => FZ [] [4, 6, 7, 8, 9] S S1 ∧ MS b t (tE b t q) S1) := Ex.imp (sp_token hM.1.1 (tE_hi hq) (hM.2.1.2.2.1 hk)) (fun _ _ g => ⟨g.1.z, ⟨hM.1.1.fk g.1, by rw [g.1.2 3 (by decide) (by decide) (by decide) (by decide)]; exact hM.1.2⟩, g.2, by rw [g.1.2 2 (by decide) (by decide) (by decide) (by decide)]; exact hM.2.2⟩)
theorem sp_wrong {c : Nat} (hb : ∀ i, i < t → b i < 256) (hc : ¬ c = 0) (hc1 : c < 100) (hM : MS b t q S) : Ex G mX12_wrong 1 [.ref 412, .int (nI c)] S (fun _ S1 => FZ [] [2, 3] S S1 ∧ FLm (ftt b t q c) S1) := by
  refine eX12_wrong (vX12_wrong_0 ⟨fun _ => ?_, fun z => absurd (z_le hM.2.2) z⟩)
  rw [show (3 : Int32) = nI 3 from rfl, hM.so hb (by decide), so_3]
  have fin : ∀ (x : Nat) (S3 S4 : ovS), x = (ftt b t q c).1 → S3 = stI S 412 2 (nI x) → S4 = stI S3 412 3 (S3.1 412 7) → FZ [] [2, 3] S S4 ∧ FLm (ftt b t q c) S4 := by
    intro x S3 S4 hx e3 e4
    have e1 : S3.1 412 7 = nI (tP b t q) := by rw [e3, stI_1, if_pos rfl, if_neg (by decide)]; exact hM.2.1.2.1
    rw [e1] at e4
    refine ⟨by rw [e4, e3]; exact (FZ.rf.sm rfl).sm rfl, ?_, ?_, ?_, ?_⟩
    · rw [e4, stI_1, if_pos rfl, if_neg (by decide), e3, stI_1, if_pos rfl, if_pos rfl, hx]
    · show ¬ (if tK b t q = 1 then 1 else c) = 0
      split <;> omega
    · show (if tK b t q = 1 then 1 else c) < 100
      split <;> omega
    · rw [e4, stI_1, if_pos rfl, if_pos rfl]
      rfl
  refine ⟨fun z S3 e3 S4 e4 => fin c S3 S4 ?_ e3 e4, fun z S3 e3 S4 e4 => fin 1 S3 S4 ?_ e3 e4⟩
  · show c = (if tK b t q = 1 then 1 else c)
    rw [if_neg z]
  · show 1 = (if tK b t q = 1 then 1 else c)
    rw [if_pos z]
theorem kw_b {j : Nat} (hj : j < 15) (hb : ∀ i, i < t → b i < 256) (hk : tK b t q = 3 ∨ 256 ≤ tK b t q) : tW b t q = kwN.getD j 0 ↔ tK b t q = 256 + j := by
  have e : tK b t q = kwF (tW b t q) 15 := by
    unfold tK at hk ⊢
    split at hk
    · omega
    · next h0 =>
      rw [if_neg h0]
      split at hk
      · next hL =>
        rw [if_pos hL]
        split at hk
        · omega
        · next h8 => rw [if_neg h8]
      · exfalso
        split at hk
        · split at hk <;> omega
        · split at hk
          · next y =>
            have h2 := hb (tP b t q) (by omega)
            have e3 : ¬ b (tP b t q) = 3 := fun x => by rw [x] at y; exact absurd y (by decide)
            omega
          · omega
  rw [e, kw_iff hj]
theorem sp_isWord {j : Nat} {w : Int64} (hj : j < 15) (hw : w = lN (kwN.getD j 0)) (hb : ∀ i, i < t → b i < 256) (hq : q ≤ t) (hM : MS b t q S) : Ex G mX12_isWord 1 [.ref 412, .long w] S (fun r S1 => r = bI (decide (tK b t q = 256 + j)) ∧ S1 = S) := by
  refine eX12_isWord (vX12_isWord_0 ?_)
  rw [show (1 : Int32) = nI 1 from rfl, hM.so hb (by decide), so_1]
  refine ⟨fun z => ⟨by rw [decide_eq_false (by omega)]; rfl, rfl⟩, fun z => ?_⟩
  rw [lg_cmp_eq, hM.2.1.2.2.2.2 z, hw, lN_inj (tW_lt hb hq z) (kwN_lt j hj), kw_b hj hb z]
  exact ⟨fun y => ⟨by rw [decide_eq_false y]; rfl, rfl⟩, fun y => ⟨by rw [decide_eq_true y]; rfl, rfl⟩⟩
theorem sp_isOwn (hb : ∀ i, i < t → b i < 256) (hq : q ≤ t) (hM : MS b t q S) (hk : tK b t q = 3 ∨ 256 ≤ tK b t q) : Ex G mX12_isOwn 1 [.ref 412] S (fun r S1 => r = bI (decide (256 ≤ tK b t q)) ∧ S1 = S) := by
  have hlt := tK_lt (q := q) hb
  have eq : ∀ j, j < 15 → ∀ w : Int64, w = lN (kwN.getD j 0) → (lg_cmp (S.2 412 9) w = 0 ↔ tK b t q = 256 + j) := fun j hj w hw => by
    rw [lg_cmp_eq, hM.2.1.2.2.2.2 hk, hw, lN_inj (tW_lt hb hq hk) (kwN_lt j hj), kw_b hj hb hk]
  have yes : ∀ j, j < 15 → ∀ w : Int64, w = lN (kwN.getD j 0) → lg_cmp (S.2 412 9) w = 0 → RM G mX12_isOwn 1 (fun r S1 => r = bI (decide (256 ≤ tK b t q)) ∧ S1 = S) 165 [none] [] S := fun j hj w hw h => vX12_isOwn_165 ⟨by
    have := (eq j hj w hw).mp h
    rw [decide_eq_true (by omega)]
    rfl, rfl⟩
  refine eX12_isOwn (vX12_isOwn_0 ⟨fun z => yes 0 (by decide) _ rfl z, fun z0 => ⟨fun z => yes 1 (by decide) _ rfl z, fun z1 => ⟨fun z => yes 2 (by decide) _ rfl z, fun z2 => ⟨fun z => yes 3 (by decide) _ rfl z, fun z3 => ⟨fun z => yes 4 (by decide) _ rfl z, fun z4 => ⟨fun z => yes 5 (by decide) _ rfl z, fun z5 => ⟨fun z => yes 6 (by decide) _ rfl z, fun z6 => ⟨fun z => yes 7 (by decide) _ rfl z, fun z7 => ⟨fun z => yes 8 (by decide) _ rfl z, fun z8 => ⟨fun z => yes 12 (by decide) _ rfl z, fun z12 => ⟨fun z => yes 13 (by decide) _ rfl z, fun z13 => ⟨fun z => yes 14 (by decide) _ rfl z, fun z14 => ⟨fun z => yes 10 (by decide) _ rfl z, fun z10 => ⟨fun z => yes 9 (by decide) _ rfl z, fun z9 => ⟨fun z11 => ⟨?_, rfl⟩, fun z => yes 11 (by decide) _ rfl z⟩⟩⟩⟩⟩⟩⟩⟩⟩⟩⟩⟩⟩⟩⟩)
  have y0 : ¬ tK b t q = 256 + 0 := fun y => z0 ((eq 0 (by decide) _ rfl).mpr y)
  have y1 : ¬ tK b t q = 256 + 1 := fun y => z1 ((eq 1 (by decide) _ rfl).mpr y)
  have y2 : ¬ tK b t q = 256 + 2 := fun y => z2 ((eq 2 (by decide) _ rfl).mpr y)
  have y3 : ¬ tK b t q = 256 + 3 := fun y => z3 ((eq 3 (by decide) _ rfl).mpr y)
  have y4 : ¬ tK b t q = 256 + 4 := fun y => z4 ((eq 4 (by decide) _ rfl).mpr y)
  have y5 : ¬ tK b t q = 256 + 5 := fun y => z5 ((eq 5 (by decide) _ rfl).mpr y)
  have y6 : ¬ tK b t q = 256 + 6 := fun y => z6 ((eq 6 (by decide) _ rfl).mpr y)
  have y7 : ¬ tK b t q = 256 + 7 := fun y => z7 ((eq 7 (by decide) _ rfl).mpr y)
  have y8 : ¬ tK b t q = 256 + 8 := fun y => z8 ((eq 8 (by decide) _ rfl).mpr y)
  have y9 : ¬ tK b t q = 256 + 9 := fun y => z9 ((eq 9 (by decide) _ rfl).mpr y)
  have y10 : ¬ tK b t q = 256 + 10 := fun y => z10 ((eq 10 (by decide) _ rfl).mpr y)
  have y11 : ¬ tK b t q = 256 + 11 := fun y => z11 ((eq 11 (by decide) _ rfl).mpr y)
  have y12 : ¬ tK b t q = 256 + 12 := fun y => z12 ((eq 12 (by decide) _ rfl).mpr y)
  have y13 : ¬ tK b t q = 256 + 13 := fun y => z13 ((eq 13 (by decide) _ rfl).mpr y)
  have y14 : ¬ tK b t q = 256 + 14 := fun y => z14 ((eq 14 (by decide) _ rfl).mpr y)
  rw [decide_eq_false (by omega)]
  rfl
theorem sp_isName (hb : ∀ i, i < t → b i < 256) (hq : q ≤ t) (hM : MS b t q S) : Ex G mX12_isName 2 [.ref 412] S (fun r S1 => r = bI (decide (tK b t q = 3)) ∧ S1 = S) := by
  refine eX12_isName (vX12_isName_0 ?_)
  rw [show (1 : Int32) = nI 1 from rfl, hM.so hb (by decide), so_1]
  refine ⟨fun z => ⟨by rw [decide_eq_false (by omega)]; rfl, rfl⟩, fun z => ⟨_, sp_isOwn hb hq hM z, fun r4 S3 g => ?_⟩⟩
  obtain ⟨g1, g2⟩ := g
  subst g2
  rw [g1, bI_0, decide_eq_false_iff_not]
  exact ⟨fun y => ⟨by rw [decide_eq_false (by omega)]; rfl, rfl⟩, fun y => ⟨by rw [decide_eq_true (by omega)]; rfl, rfl⟩⟩
theorem sp_mfind {n w fr : Nat} {f : Nat → Nat} (hn : n ≤ 5) (hfr : fr ≤ 5) (hw : w < 2 ^ 64) (h9 : S.2 412 9 = lN w) (hf : ∀ i, i < n → S.2 414 (fr + i) = lN (f i) ∧ f i < 2 ^ 64) (hd : ∀ i j, i < j → j < n → ¬ f i = f j) : Ex G mX12_find 1 [.ref 412, .int (nI fr), .int (nI n)] S (fun r S1 => r = (if fndI f w n < n then nI (fndI f w n) else -1) ∧ S1 = S) := by
  refine eX12_find (vX12_find_0 (loopUp (n := n) (P := fun i => RM G mX12_find 1 _ 5 [some (.ref 412), some (.int (nI fr)), some (.int (nI n)), some (.int (if fndI f w i < i then nI (fndI f w i) else -1)), some (.int (nI i))] [] S) ?_ ?_ 0 (by omega)))
  · exact vX12_find_5 ⟨fun _ => ⟨rfl, rfl⟩, fun z => absurd (Int32.le_refl _) z⟩
  · intro i hi ih
    rw [nI_succ i] at ih
    refine vX12_find_5 ⟨fun z => absurd ((nI_le_i (by omega) (by omega)).mp z) (by omega), fun _ => ?_⟩
    rw [nI_add, nI_ix (n := fr + i) (by omega), h9, lg_cmp_eq, (hf i hi).1, lN_inj (hf i hi).2 hw]
    refine ⟨vp_in_nI (by omega) (by decide), fun z => ?_, fun z => ?_⟩
    · have e : (if fndI f w (i + 1) < i + 1 then nI (fndI f w (i + 1)) else -1) = (if fndI f w i < i then nI (fndI f w i) else -1) := by
        have hle := fnd_le (f := f) (w := w) i
        rw [fndI]
        by_cases c : fndI f w i < i
        · rw [if_pos c, if_pos c, if_pos (by omega)]
        · rw [if_neg c, if_neg c, if_neg z, if_neg (by omega)]
      rw [e] at ih
      exact ih
    · have c : ¬ fndI f w i < i := fun y => by
        have h1 := fnd_at y
        exact hd _ i y hi (h1.trans z.symm)
      have e : (if fndI f w (i + 1) < i + 1 then nI (fndI f w (i + 1)) else -1) = nI i := by
        rw [fndI, if_neg c, if_pos z, if_pos (by omega)]
      rw [e] at ih
      exact ih
end
