/-! ===== the reference's lines: pieces ===== -/
def MV (S : ovS) (V : pV) : Prop := (S.1 412 29 = nI (V 0 0) ∧ S.1 412 30 = nI (V 0 1) ∧ S.1 412 31 = nI (V 0 2) ∧ S.1 412 32 = nI (V 0 3) ∧ S.1 412 33 = nI (V 0 4) ∧ S.1 412 36 = nI (V 0 5) ∧ S.1 412 37 = nI (V 0 6) ∧ S.1 412 38 = nI (V 0 7) ∧ S.1 412 20 = nI (V 0 9)) ∧ STm S V ∧ (∀ i, i < V 0 0 → S.2 414 (0 + i) = lN (V 1 i) ∧ V 1 i < 2 ^ 64) ∧ (∀ i, i < V 0 1 → S.2 414 (5 + i) = lN (V 2 i) ∧ V 2 i < 2 ^ 64) ∧ ∀ i, i < V 0 1 → S.1 422 i = nI (V 3 i) ∧ S.1 423 i = nI (V 4 i) ∧ S.1 424 i = nI (V 5 i)
abbrev Lz : List Nat := [414, 415, 416, 419, 422, 423, 424]
abbrev Jz : List Nat := [2, 3, 4, 6, 7, 8, 9, 17, 19, 20, 22, 23, 29, 30, 31, 32, 33, 36, 37, 38]
abbrev Jf2 : List Nat := [2, 3, 4, 6, 7, 8, 9]
def BDm (b : Nat → Nat) (t : Nat) (S S1 : ovS) (R : pR) : Prop := FZ Lz Jz S S1 ∧ ((∃ e, R = .inl e ∧ FLm e S1) ∨ (∃ q', R = .inl (ftt b t q' 2) ∧ MS b t q' S1 ∧ ¬ tK b t q' = 59) ∨ (∃ V' q', R = scL b t V' q' ∧ MS b t q' S1 ∧ q' ≤ t ∧ MV S1 V'))
section
variable {G : ovG} {S : ovS} {b : Nat → Nat} {t q : Nat} {V : pV}
theorem MV.fz {L J : List Nat} {S1 : ovS} (h : MV S V) (hF : FZ L J S S1) (hL : ([414, 415, 416, 422, 423, 424].all fun k => !(L.contains k)) = true) (hJ : ([17, 20, 29, 30, 31, 32, 33, 36, 37, 38].all fun k => !(J.contains k)) = true) : MV S1 V := by
  have e : ∀ k, k ∈ [17, 20, 29, 30, 31, 32, 33, 36, 37, 38] → J.contains k = false := fun k hk => by
    have := List.all_eq_true.mp hJ k hk
    simpa using this
  have e2 : ∀ k, k ∈ [414, 415, 416, 422, 423, 424] → L.contains k = false := fun k hk => by
    have := List.all_eq_true.mp hL k hk
    simpa using this
  unfold MV STm
  rw [hF.sl 17 (e 17 (by decide)), hF.sl 20 (e 20 (by decide)), hF.sl 29 (e 29 (by decide)), hF.sl 30 (e 30 (by decide)), hF.sl 31 (e 31 (by decide)), hF.sl 32 (e 32 (by decide)), hF.sl 33 (e 33 (by decide)), hF.sl 36 (e 36 (by decide)), hF.sl 37 (e 37 (by decide)), hF.sl 38 (e 38 (by decide)), hF.at 415 (by rw [e2 415 (by decide)]; rfl), hF.at 416 (by rw [e2 416 (by decide)]; rfl), hF.at 422 (by rw [e2 422 (by decide)]; rfl), hF.at 423 (by rw [e2 423 (by decide)]; rfl), hF.at 424 (by rw [e2 424 (by decide)]; rfl), hF.al 414 (by rw [e2 414 (by decide)]; rfl)]
  exact h
theorem BDm.bad {S1 : ovS} {e : Nat × Nat} {R : pR} (hF : FZ Lz Jz S S1) (hR : R = .inl e) (hL : FLm e S1) : BDm b t S S1 R := ⟨hF, Or.inl ⟨e, hR, hL⟩⟩
theorem sp_want {j : Nat} {w : Int64} (hj : j < 15) (hw : w = lN (kwN.getD j 0)) (hb : ∀ i, i < t → b i < 256) (hq : q ≤ t) (hM : MS b t q S) : Ex G mX12_want 3 [.ref 412, .long w] S (fun _ S1 => (tK b t q = 256 + j ∧ FZ [] [4, 6, 7, 8, 9] S S1 ∧ MS b t (tE b t q) S1) ∨ (¬ tK b t q = 256 + j ∧ FZ [] Jf2 S S1 ∧ FLm (ftt b t q 2) S1)) := by
  refine eX12_want (vX12_want_0 ⟨fun _ => ⟨_, sp_isWord hj hw hb hq hM, fun r4 S3 g => ?_⟩, fun z => absurd (z_le hM.2.2) z⟩)
  obtain ⟨u1, u2⟩ := g
  subst u2
  rw [u1, bI_0, decide_eq_false_iff_not]
  exact ⟨fun z => ⟨_, sp_tok hq hM (by have := Classical.not_not.mp z; omega), fun r S1 g => Or.inl ⟨Classical.not_not.mp z, g⟩⟩, fun z => ⟨_, sp_wrong (c := 2) hb (by decide) (by decide) hM, fun r S1 g => Or.inr ⟨z, g.1.mono rfl rfl, g.2⟩⟩⟩
theorem sp_wantN {w : Int64} {e : Nat × Nat} (hL : FLm e S) : Ex G mX12_want 3 [.ref 412, .long w] S (fun _ S1 => S1 = S) := eX12_want (vX12_want_0 ⟨fun z => absurd z hL.nl, fun _ => rfl⟩)
theorem sp_toldNumber {m : Nat} (hm : m < 10000) (hb : ∀ i, i < t → b i < 256) (hq : q ≤ t) (hM : MS b t q S) : Ex G mX12_toldNumber 3 [.ref 412, .int 0, .int (nI m)] S (fun r S1 => (tK b t q = 2 ∧ ¬ m < tN b t q ∧ r = nI (tN b t q) ∧ FZ [] [4, 6, 7, 8, 9] S S1 ∧ MS b t (tE b t q) S1) ∨ (¬ tK b t q = 2 ∧ FZ [] Jf2 S S1 ∧ FLm (ftt b t q 2) S1) ∨ (tK b t q = 2 ∧ m < tN b t q ∧ FZ [] Jf2 S S1 ∧ FLm (ftt b t q 4) S1)) := by
  refine eX12_toldNumber (vX12_toldNumber_0 ⟨fun _ => ?_, fun z => absurd (z_le hM.2.2) z⟩)
  rw [show (2 : Int32) = nI 2 from rfl, hM.so hb (by decide), so_eq (by decide) (by decide) (by decide)]
  refine ⟨fun z => ?_, fun z => ⟨_, sp_wrong (c := 2) hb (by decide) (by decide) hM, fun r S1 g => ⟨fun _ => Or.inr (Or.inl ⟨z, g.1.mono rfl rfl, g.2⟩), fun y => absurd y g.2.n0⟩⟩⟩
  have hN := tN_lt hq z
  rw [hM.2.1.2.2.2.1 z, nI_le_i (by omega) (by omega)]
  exact ⟨fun y => absurd y (nI_neg (by omega)), fun _ => ⟨fun y => ⟨fun x => absurd hM.2.2 x, fun _ => ⟨_, sp_tok hq hM (by omega), fun r S1 g => Or.inl ⟨z, by omega, rfl, g⟩⟩⟩, fun y => ⟨_, sp_wrong (c := 4) hb (by decide) (by decide) hM, fun r S1 g => ⟨fun _ => Or.inr (Or.inr ⟨z, by omega, g.1.mono rfl rfl, g.2⟩), fun x => absurd x g.2.n0⟩⟩⟩⟩
theorem sp_toldNumN {x y : Int32} {e : Nat × Nat} (hL : FLm e S) : Ex G mX12_toldNumber 3 [.ref 412, .int x, .int y] S (fun r S1 => r = 0 ∧ S1 = S) := eX12_toldNumber (vX12_toldNumber_0 ⟨fun z => absurd z hL.nl, fun _ => ⟨rfl, rfl⟩⟩)
theorem sp_told {j m : Nat} {w : Int64} (hj : j < 15) (hw : w = lN (kwN.getD j 0)) (hm : m < 10000) (hb : ∀ i, i < t → b i < 256) (hq : q ≤ t) (hM : MS b t q S) : Ex G mX12_told 4 [.ref 412, .long w, .int 0, .int (nI m)] S (fun r S1 => (tK b t q = 256 + j ∧ tK b t (tE b t q) = 2 ∧ ¬ m < tN b t (tE b t q) ∧ r = nI (tN b t (tE b t q)) ∧ FZ [] [4, 6, 7, 8, 9] S S1 ∧ MS b t (tE b t (tE b t q)) S1) ∨ (FZ [] Jf2 S S1 ∧ ((¬ tK b t q = 256 + j ∧ FLm (ftt b t q 2) S1) ∨ (tK b t q = 256 + j ∧ ¬ tK b t (tE b t q) = 2 ∧ FLm (ftt b t (tE b t q) 2) S1) ∨ (tK b t q = 256 + j ∧ tK b t (tE b t q) = 2 ∧ m < tN b t (tE b t q) ∧ FLm (ftt b t (tE b t q) 4) S1)))) := by
  refine eX12_told (vX12_told_0 ⟨_, sp_want hj hw hb hq hM, fun r3 S2 g => ?_⟩)
  rcases g with ⟨g1, g2, g3⟩ | ⟨g1, g2, g3⟩
  · refine ⟨_, sp_toldNumber hm hb (tE_hi hq) g3, fun r8 S7 g => ?_⟩
    rcases g with ⟨k1, k2, k3, k4, k5⟩ | ⟨k1, k4, k5⟩ | ⟨k1, k2, k4, k5⟩
    · exact Or.inl ⟨g1, k1, k2, k3, g2.tr k4, k5⟩
    · exact Or.inr ⟨(g2.mono rfl rfl).tr k4, Or.inr (Or.inl ⟨g1, k1, k5⟩)⟩
    · exact Or.inr ⟨(g2.mono rfl rfl).tr k4, Or.inr (Or.inr ⟨g1, k1, k2, k5⟩)⟩
  · refine ⟨_, sp_toldNumN g3, fun r8 S7 g => ?_⟩
    obtain ⟨u1, u2⟩ := g
    subst u2
    exact Or.inr ⟨g2, Or.inl ⟨g1, g3⟩⟩
theorem sp_toldN {w : Int64} {x y : Int32} {e : Nat × Nat} (hL : FLm e S) : Ex G mX12_told 4 [.ref 412, .long w, .int x, .int y] S (fun r S1 => r = 0 ∧ S1 = S) := by
  refine eX12_told (vX12_told_0 ⟨_, sp_wantN hL, fun r3 S2 g => ?_⟩)
  subst g
  exact ⟨_, sp_toldNumN hL, fun r8 S7 g => g⟩
theorem sp_newName {n fr : Nat} {f : Nat → Nat} (hb : ∀ i, i < t → b i < 256) (hq : q ≤ t) (hM : MS b t q S) (hk : ¬ tK b t q = 1) (hn : n < 5) (hfr : fr ≤ 5) (hf : ∀ i, i < n → S.2 414 (fr + i) = lN (f i) ∧ f i < 2 ^ 64) (hd : ∀ i j, i < j → j < n → ¬ f i = f j) : Ex G mX12_newName 3 [.ref 412, .int (nI fr), .int (nI n)] S (fun _ S1 => (tK b t (tE b t q) = 3 ∧ ¬ fndI f (tW b t (tE b t q)) n < n ∧ MS b t (tE b t (tE b t q)) S1 ∧ (∀ i, S1.2 414 i = if i = fr + n then lN (tW b t (tE b t q)) else S.2 414 i) ∧ FZ [414] [4, 6, 7, 8, 9] S S1) ∨ (FZ [414] Jf2 S S1 ∧ ((¬ tK b t (tE b t q) = 3 ∧ FLm (ftt b t (tE b t q) 2) S1) ∨ (tK b t (tE b t q) = 3 ∧ fndI f (tW b t (tE b t q)) n < n ∧ FLm (ftt b t (tE b t q) 3) S1)))) := by
  have hE := tE_hi (b := b) hq
  have bad : ∀ (e : Nat × Nat) (S1 : ovS) (Q : Int32 → ovS → Prop), FLm e S1 → Q 0 S1 → RM G mX12_newName 3 Q 33 [some (.ref 412), some (.int (nI fr)), some (.int (nI n))] [] S1 := fun e S1 Q hL hq => vX12_newName_33 ⟨fun z => absurd z hL.nl, fun _ => hq⟩
  refine eX12_newName (vX12_newName_0 ⟨_, sp_tok hq hM hk, fun r3 S2 g => ?_⟩)
  obtain ⟨g1, g2⟩ := g
  refine ⟨_, sp_isName hb hE g2, fun r8 S7 g => ?_⟩
  obtain ⟨u1, u2⟩ := g
  subst u2
  rw [u1, bI_0, decide_eq_false_iff_not]
  refine ⟨fun z => ?_, fun z => ⟨_, sp_wrong (c := 2) hb (by decide) (by decide) g2, fun r S1 g => bad _ S1 _ g.2 (Or.inr ⟨(g1.mono rfl rfl).tr (g.1.mono rfl rfl), Or.inl ⟨z, g.2⟩⟩)⟩⟩
  have k3 : tK b t (tE b t q) = 3 := Classical.not_not.mp z
  have hw := tW_lt hb hE (Or.inl k3)
  refine ⟨_, sp_mfind (fr := fr) (by omega) hfr hw (g2.2.1.2.2.2.2 (Or.inl k3)) (fun i hi => by rw [g1.al 414 rfl]; exact hf i hi) hd, fun r14 S13 g => ?_⟩
  obtain ⟨v1, v2⟩ := g
  subst v2
  rw [v1]
  by_cases c : fndI f (tW b t (tE b t q)) n < n
  · rw [if_pos c]
    exact ⟨fun y => absurd y (nI_neg (by omega)), fun _ => ⟨_, sp_wrong (c := 3) hb (by decide) (by decide) g2, fun r S1 g => bad _ S1 _ g.2 (Or.inr ⟨(g1.mono rfl rfl).tr (g.1.mono rfl rfl), Or.inr ⟨k3, c, g.2⟩⟩)⟩⟩
  · rw [if_neg c]
    refine ⟨fun _ => vX12_newName_33 ⟨fun _ => ?_, fun y => absurd (z_le g2.2.2) y⟩, fun y => absurd (by decide) y⟩
    rw [nI_add, nI_ix (by omega)]
    refine ⟨vp_in_nI (by omega) (by decide), fun S15 e15 => ?_⟩
    rw [g2.2.1.2.2.2.2 (Or.inl k3)] at e15
    have hF : FZ [414] [] S13 S15 := by rw [e15]; exact FZ.rf.sj rfl rfl
    refine ⟨_, sp_tok hE (g2.fz hF rfl rfl) (by omega), fun r5 S4 g => Or.inl ⟨k3, c, g.2, fun i => ?_, ((g1.mono rfl rfl).tr (hF.mono rfl rfl)).tr (g.1.mono rfl rfl)⟩⟩
    rw [g.1.al 414 rfl, e15, stJ_2, if_pos rfl, g1.al 414 rfl]
theorem sp_oldSoul {n : Nat} {f : Nat → Nat} (hb : ∀ i, i < t → b i < 256) (hq : q ≤ t) (hM : MS b t q S) (hn : n ≤ 5) (h30 : S.1 412 30 = nI n) (hf : ∀ i, i < n → S.2 414 (5 + i) = lN (f i) ∧ f i < 2 ^ 64) (hd : ∀ i j, i < j → j < n → ¬ f i = f j) : Ex G mX12_oldSoul 3 [.ref 412] S (fun r S1 => (tK b t q = 3 ∧ fndI f (tW b t q) n < n ∧ r = nI (fndI f (tW b t q) n) ∧ S1 = S) ∨ (FZ [] Jf2 S S1 ∧ r = 0 ∧ ((¬ tK b t q = 3 ∧ FLm (ftt b t q 2) S1) ∨ (tK b t q = 3 ∧ ¬ fndI f (tW b t q) n < n ∧ FLm (ftt b t q 5) S1)))) := by
  refine eX12_oldSoul (vX12_oldSoul_0 ⟨fun _ => ⟨_, sp_isName hb hq hM, fun r4 S3 g => ?_⟩, fun z => absurd (z_le hM.2.2) z⟩)
  obtain ⟨u1, u2⟩ := g
  subst u2
  rw [u1, bI_0, decide_eq_false_iff_not]
  refine ⟨fun z => ?_, fun z => ⟨_, sp_wrong (c := 2) hb (by decide) (by decide) hM, fun r S1 g => ⟨fun y => absurd y g.2.nl, fun _ => Or.inr ⟨g.1.mono rfl rfl, rfl, Or.inl ⟨z, g.2⟩⟩⟩⟩⟩
  have k3 : tK b t q = 3 := Classical.not_not.mp z
  have hw := tW_lt hb hq (Or.inl k3)
  have fnd := sp_mfind (G := G) (fr := 5) hn (by decide) hw (hM.2.1.2.2.2.2 (Or.inl k3)) hf hd
  rw [h30]
  refine ⟨_, fnd, fun r10 S9 g => ?_⟩
  obtain ⟨v1, v2⟩ := g
  subst v2
  rw [v1]
  by_cases c : fndI f (tW b t q) n < n
  · rw [if_pos c]
    refine ⟨fun _ => ⟨fun _ => ?_, fun y => absurd (z_le hM.2.2) y⟩, fun y => absurd (Int32.not_lt.mp (nI_neg (by omega))) y⟩
    rw [h30]
    refine ⟨_, fnd, fun r17 S16 g => Or.inl ⟨k3, c, ?_, g.2⟩⟩
    rw [g.1, if_pos c]
  · rw [if_neg c]
    exact ⟨fun y => absurd y (by decide), fun _ => ⟨_, sp_wrong (c := 5) hb (by decide) (by decide) hM, fun r S1 g => ⟨fun y => absurd y g.2.nl, fun _ => Or.inr ⟨g.1.mono rfl rfl, rfl, Or.inr ⟨k3, c, g.2⟩⟩⟩⟩⟩
theorem sp_oldSoulN {e : Nat × Nat} (hL : FLm e S) : Ex G mX12_oldSoul 3 [.ref 412] S (fun r S1 => r = 0 ∧ S1 = S) := eX12_oldSoul (vX12_oldSoul_0 ⟨fun z => absurd z hL.nl, fun _ => ⟨rfl, rfl⟩⟩)
end
