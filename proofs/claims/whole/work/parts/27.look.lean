theorem nar_bI (b : Bool) : vp_nar .boolean (bI b) = bI b := by cases b <;> decide
theorem BN.cg {S : ovS} {nm nm2 : Nat → Int32} (h : BN S nm) (he : ∀ i, i < 5 → nm i = nm2 i) : BN S nm2 := by
  refine ⟨fun i hi => (h.1 i hi).trans (he i hi), fun w hw => ?_, ?_⟩
  · rw [h.2.1 w hw]
    congr 1
    apply fb_ct_cong
    intro k hk
    rw [he k hk]
  · rw [h.2.2]
    congr 1
    apply mk_ext
    intro k hk
    rw [he k hk]
theorem sp_lookAtNow {G : ovG} {S : ovS} {n : Nat} (hX : CX S n) (hV : VN n (S.1 26)) : Ex G mX0_lookAtNow 3 [.ref 364] S (fun _ S1 => BB S S1 (S.1 26)) := by
  have hn5 := hX.2.1
  have K45 : ∀ k i : Nat, ∀ S' : ovS, i + k = n → BB S S' (fun j => if j < i then S.1 26 j else -1) → RM G mX0_lookAtNow 3 (fun _ S1 => BB S S1 (S.1 26)) 45 [some (.ref 364), some (.int (nI i))] [] S' := by
    intro k
    induction k with
    | zero =>
      intro i S' hi hB
      have : i = n := by omega
      subst this
      refine vX0_lookAtNow_45 ⟨fun _ => ⟨hB.1, hB.2.1.cg (fun j hj => ?_), hB.2.2⟩, fun c => absurd (by rw [(hB.cx hX).1]; exact Int32.le_refl _) c⟩
      by_cases h : j < i
      · simp [h]
      · simp only [if_neg h]
        exact ((hV j hj).2 (by omega)).symm
    | succ k ih =>
      intro i S' hi hB
      have hv2 : VN n (fun j => if j < i then S.1 26 j else -1) := by
        intro j hj
        by_cases h : j < i
        · simp only [if_pos h]
          exact hV j hj
        · simp only [if_neg h]
          exact ⟨fun _ => Or.inl rfl, fun _ => trivial⟩
      refine vX0_lookAtNow_45 ⟨fun c => absurd c (nI_next (hB.cx hX).1 (by omega) (by omega)), fun _ => ⟨vp_in_nI (by omega) (by decide), ?_⟩⟩
      rw [nI_ix (by omega), hB.1.at 26 rfl]
      refine ⟨_, BB.put hX hv2 hB (by omega) ((hV i (by omega)).1 (by omega)), fun r S3 q => ?_⟩
      have h := ih (i + 1) S3 (by omega) ?_
      · rw [nI_succ] at h
        exact h
      · have e : upd (fun j => if j < i then S.1 26 j else -1) i (S.1 26 i) = (fun j => if j < i + 1 then S.1 26 j else -1) := by
          funext j
          by_cases hj : j = i
          · subst hj
            simp [upd]
          · by_cases h : j < i
            · have h2 : j < i + 1 := by omega
              simp [upd, hj, h, h2]
            · have h2 : ¬ j < i + 1 := by omega
              simp [upd, hj, h, h2]
        rw [← e]
        exact q
  have K10 : ∀ k g : Nat, ∀ S' : ovS, g + k = 32 → Fr [367, 368] S S' → (∀ j, j < 30 → S'.1 367 j = -1) → (∀ j, j < g → S'.1 368 j = bI (anyN 5 (qrF (S.1 29) (nI j)))) → RM G mX0_lookAtNow 3 (fun _ S1 => BB S S1 (S.1 26)) 10 [some (.ref 364), some (.int (nI g))] [] S' := by
    intro k
    induction k with
    | zero =>
      intro g S' hg hF h7 h8
      have : g = 32 := by omega
      subst this
      refine vX0_lookAtNow_10 ⟨fun _ => ⟨_, sp_hush, fun r S3 q => ?_⟩, fun c => absurd (by decide) c⟩
      refine K45 n 0 S3 (by omega) ⟨(hF.mono rfl).tr (q.1.mono rfl), q.2.cg (fun j _ => by simp), ?_, ?_⟩
      · intro j hj
        rw [q.1.at 368 rfl, q.1.at 29 rfl, hF.at 29 rfl]
        exact h8 j hj
      · intro j hj
        rw [q.1.at 367 rfl]
        exact Or.inl (h7 j hj)
    | succ k ih =>
      intro g S' hg hF h7 h8
      refine vX0_lookAtNow_10 ⟨fun c => absurd ((nI_le_i (a := 32) (by decide) (by omega)).mp c) (by omega), fun _ => ⟨_, sp_quarrel, fun r S8 q => ⟨vp_in_nI (by omega) (by decide), fun S12 e12 => ?_⟩⟩⟩
      obtain ⟨q1, q2⟩ := q
      subst q2 e12
      rw [nI_ix (by omega), q1, nar_bI]
      have h := ih (g + 1) (stI S8 368 g (bI (anyN 5 (qrF (S8.1 29) (nI g))))) (by omega) (hF.st rfl) (fun j hj => ?_) (fun j hj => ?_)
      · rw [nI_succ] at h
        exact h
      · rw [stI_row (by decide)]
        exact h7 j hj
      · rw [stI_self]
        by_cases e : j = g
        · subst e
          simp [upd, hF.at 29 rfl]
        · simp only [upd, if_neg e]
          exact h8 j (by omega)
  refine eX0_lookAtNow (vX0_lookAtNow_0 ⟨_, sp_fill ov_c367 ov_n367 (by decide), fun r S2 e2 => ?_⟩)
  subst e2
  refine K10 32 0 _ (by decide) (Fr.rf.se rfl) (fun j hj => ?_) (fun j hj => absurd hj (by omega))
  rw [seI_self]
  simp [fillR, hj]
