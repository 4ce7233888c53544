/-! ===== rounds, groups, spoilers ===== -/
theorem bsF_nm {n : Nat} {g : Int32 → Int32} {c : Int32} (hc : isNm n c) : ∀ j, j ≤ n + 1 → isNm n (bsF g c j).1
  | 0, _ => hc
  | j + 1, h => by
    rw [bsF]
    split
    · exact bsF_nm hc j (by omega)
    · exact isNm_j (by omega)
/-- a round: each in turn says what is best for him -/
def rdF (S : ovS) (n : Nat) (nm : Nat → Int32) : Nat → (Nat → Int32) × Bool
  | 0 => (nm, false)
  | s + 1 => if bsN S n (rdF S n nm s).1 s = (rdF S n nm s).1 s then rdF S n nm s else (upd (rdF S n nm s).1 s (bsN S n (rdF S n nm s).1 s), true)
theorem bsN_nm {S : ovS} {n s : Nat} {nm : Nat → Int32} (hV : VN n nm) (hs : s < n) (hn : n ≤ 5) : isNm n (bsN S n nm s) := bsF_nm ((hV s (by omega)).1 hs) (n + 1) (Nat.le_refl _)
theorem rdF_VN {S : ovS} {n : Nat} {nm : Nat → Int32} (hV : VN n nm) (hn : n ≤ 5) : ∀ s, s ≤ n → VN n (rdF S n nm s).1
  | 0, _ => hV
  | s + 1, h => by
    have ih := rdF_VN (S := S) hV hn s (by omega)
    rw [rdF]
    split
    · exact ih
    · exact ih.up (by omega) (bsN_nm ih (by omega) hn)
section
variable {G : ovG} {S S0 : ovS} {n : Nat} {nm : Nat → Int32}
theorem sp_changesInRound (hX : CX S0 n) (hV : VN n nm) (h : BX S0 S nm) : Ex G mX8_changesInRound 6 [.ref 369] S (fun r S1 => r = bI (rdF S0 n nm n).2 ∧ BX S0 S1 (rdF S0 n nm n).1 ∧ Fr L6 S S1) := by
  have hn5 := hX.2.1
  have key : ∀ k i : Nat, ∀ S' : ovS, i + k = n → BX S0 S' (rdF S0 n nm i).1 → Fr L6 S S' → RM G mX8_changesInRound 6 (fun r S1 => r = bI (rdF S0 n nm n).2 ∧ BX S0 S1 (rdF S0 n nm n).1 ∧ Fr L6 S S1) 4 [some (.ref 369), some (.int (bI (rdF S0 n nm i).2)), some (.int (nI i)), none] [] S' := by
    intro k
    induction k with
    | zero =>
      intro i S' hi hB hF
      have : i = n := by omega
      subst this
      exact vX8_changesInRound_4 ⟨fun _ => ⟨by cases (rdF S0 i nm i).2 <;> simp [bI], rfl, hB, hF⟩, fun c => absurd (by rw [(hB.cx hX).1]; exact Int32.le_refl _) c⟩
    | succ k ih =>
      intro i S' hi hB hF
      have hv := rdF_VN (S := S0) hV hn5 i (by omega)
      refine vX8_changesInRound_4 ⟨fun c => absurd c (nI_next (hB.cx hX).1 (by omega) (by omega)), fun _ => ⟨_, hB.bestFor hX hv (by omega), fun r S3 q => ⟨vp_in_nI (by omega) (by decide), ?_⟩⟩⟩
      rw [nI_ix (by omega), q.2.1.nm (by omega), q.1]
      refine ⟨fun c => ?_, fun c => ⟨_, q.2.1.put hX hv (by omega) (bsN_nm hv (by omega) hn5), fun r10 S9 q9 => ?_⟩⟩
      · have hs : rdF S0 n nm (i + 1) = rdF S0 n nm i := by rw [rdF, if_pos c]
        have h := ih (i + 1) S3 (by omega) (by rw [hs]; exact q.2.1) (hF.tr q.2.2)
        rw [hs, nI_succ i] at h
        exact h
      · have hs : rdF S0 n nm (i + 1) = (upd (rdF S0 n nm i).1 i (bsN S0 n (rdF S0 n nm i).1 i), true) := by rw [rdF, if_neg c]
        have h := ih (i + 1) S9 (by omega) (by rw [hs]; exact q9.1) ((hF.tr q.2.2).tr q9.2)
        rw [hs, nI_succ i] at h
        exact h
  exact eX8_changesInRound (vX8_changesInRound_0 (key n 0 S (by omega) h Fr.rf))
/-- the SAYINGS behind so many rounds -/
def rsF (S : ovS) (n : Nat) (nm : Nat → Int32) : Nat → (Nat → Int32)
  | 0 => nm
  | r + 1 => (rdF S n (rsF S n nm r) n).1
theorem rsF_VN {S : ovS} {n : Nat} {nm : Nat → Int32} (hV : VN n nm) (hn : n ≤ 5) : ∀ r, VN n (rsF S n nm r)
  | 0 => hV
  | r + 1 => rdF_VN (rsF_VN hV hn r) hn n (Nat.le_refl _)
/-- at rest behind the r-th round, and not before -/
def rests (S : ovS) (n : Nat) (nm : Nat → Int32) (r : Nat) : Prop := (rdF S n (rsF S n nm r) n).2 = false ∧ ∀ q, q < r → (rdF S n (rsF S n nm q) n).2 = true
theorem sp_rest (hX : CX S n) (hV : VN n (S.1 26)) : Ex G mX8_roundsToRest 7 [.ref 369] S (fun r S1 => Fr L8 S S1 ∧ ((∃ k, k ≤ 50 ∧ rests S n (S.1 26) k ∧ r = nI k ∧ S1.1 369 4 = nI n ∧ (∀ j, j ≠ 4 → S1.1 369 j = S.1 369 j) ∧ (∀ i, i < 5 → S1.1 370 i = (rdF S n (rsF S n (S.1 26) k) n).1 i)) ∨ ((∀ q, q ≤ 50 → (rdF S n (rsF S n (S.1 26) q) n).2 = true) ∧ r = -1 ∧ S1.1 369 4 = 0 ∧ (∀ j, j ≠ 4 → S1.1 369 j = S.1 369 j) ∧ S1.1 370 = S.1 370))) := by
  have hn5 := hX.2.1
  obtain ⟨Q, hQ⟩ : ∃ Q : Int32 → ovS → Prop, Q = (fun r S1 => Fr L8 S S1 ∧ ((∃ k, k ≤ 50 ∧ rests S n (S.1 26) k ∧ r = nI k ∧ S1.1 369 4 = nI n ∧ (∀ j, j ≠ 4 → S1.1 369 j = S.1 369 j) ∧ (∀ i, i < 5 → S1.1 370 i = (rdF S n (rsF S n (S.1 26) k) n).1 i)) ∨ ((∀ q, q ≤ 50 → (rdF S n (rsF S n (S.1 26) q) n).2 = true) ∧ r = -1 ∧ S1.1 369 4 = 0 ∧ (∀ j, j ≠ 4 → S1.1 369 j = S.1 369 j) ∧ S1.1 370 = S.1 370))) := ⟨_, rfl⟩
  rw [← hQ]
  have key : ∀ k i : Nat, ∀ S' : ovS, i + k = 51 → (∀ q, q < i → (rdF S n (rsF S n (S.1 26) q) n).2 = true) → BX S S' (rsF S n (S.1 26) i) → Fr L6 S S' → RM G mX8_roundsToRest 7 Q 9 [some (.ref 369), some (.int (nI i))] [] S' := by
    intro k
    induction k with
    | zero =>
      intro i S' hi hq hB hF
      have : i = 51 := by omega
      subst this
      refine vX8_roundsToRest_9 ⟨fun _ => ⟨_, sp_clearLying, fun r S3 e3 => ?_⟩, fun c => absurd (by decide) c⟩
      subst e3
      rw [hQ]
      refine ⟨(hF.mono rfl).st rfl, Or.inr ⟨fun q h => hq q (by omega), rfl, ?_, fun j hj => ?_, ?_⟩⟩
      · rw [stI_self]
        simp [upd]
      · rw [stI_self]
        simp only [upd, if_neg hj, hF.at 369 rfl]
      · rw [stI_row (by decide), hF.at 370 rfl]
    | succ k ih =>
      intro i S' hi hq hB hF
      refine vX8_roundsToRest_9 ⟨fun c => absurd ((nI_lt_i (a := 50) (by decide) (by omega)).mp c) (by omega), fun _ => ⟨_, sp_changesInRound hX (rsF_VN hV hn5 i) hB, fun r S8 q => ?_⟩⟩
      rw [q.1, bI_0]
      refine ⟨fun c => ?_, fun c => ⟨_, q.2.1.lay hX, fun r15 S14 q14 => ?_⟩⟩
      · have hc : (rdF S n (rsF S n (S.1 26) i) n).2 = true := by
          cases hh : (rdF S n (rsF S n (S.1 26) i) n).2 with
          | true => rfl
          | false => exact absurd hh c
        have h := ih (i + 1) S8 (by omega) (fun q h => by
          rcases Nat.lt_succ_iff_lt_or_eq.mp h with h | h
          · exact hq q h
          · subst h; exact hc) q.2.1 (hF.tr q.2.2)
        rw [nI_succ i] at h
        exact h
      · rw [hQ]
        have hF8 := hF.tr q.2.2
        exact ⟨q14.1.fr, Or.inl ⟨i, by omega, ⟨c, hq⟩, rfl, q14.2.1, fun j hj => by rw [q14.2.2.1 j hj, hF8.at 369 rfl], q14.2.2.2⟩⟩
  exact eX8_roundsToRest (vX8_roundsToRest_0 ⟨_, BX.look hX hV, fun r S2 q => key 51 0 S2 (by omega) (fun q h => absurd h (by omega)) q.1 q.2⟩)
def stPe (S : ovS) (b : Int32) (g : Nat) : Int32 := if ¬ bcF (nI g) ≤ bcF b ∧ anyN 5 (qrF (S.1 29) (nI g)) = false then nI g else b
theorem pow5 {n : Nat} (h : n ≤ 5) : 2 ^ n ≤ 32 := by
  have : n = 0 ∨ n = 1 ∨ n = 2 ∨ n = 3 ∨ n = 4 ∨ n = 5 := by omega
  rcases this with rfl | rfl | rfl | rfl | rfl | rfl <;> decide
theorem sp_peace (hn : S.1 16 0 = nI n) (hn5 : n ≤ 5) : Ex G mX8_largestPeace 2 [.ref 369] S (fun r S1 => r = fvF (stPe S) 0 (2 ^ n) ∧ S1 = S) := by
  have hp := pow5 hn5
  have hsh : (1 : Int32) <<< (S.1 16 0 &&& 31) = nI (2 ^ n) := by rw [hn, sh1 n (by omega)]
  refine eX8_largestPeace (vX8_largestPeace_0 (loopUp (n := 2 ^ n) (P := fun g => RM G mX8_largestPeace 2 (fun r S1 => r = fvF (stPe S) 0 (2 ^ n) ∧ S1 = S) 4 [some (.ref 369), some (.int (fvF (stPe S) 0 g)), some (.int (nI g))] [] S) ?_ ?_ 0 (Nat.zero_le _)))
  · exact vX8_largestPeace_4 ⟨fun _ => ⟨rfl, rfl⟩, fun c => absurd (by rw [hsh]; exact Int32.le_refl _) c⟩
  · intro g hg ih
    rw [nI_succ g, fvF] at ih
    refine vX8_largestPeace_4 ⟨fun c => ?_, fun _ => ⟨_, sp_bitCount, fun r4 S3 q3 => ⟨_, sp_bitCount, fun r9 S8 q8 => ?_⟩⟩⟩
    · rw [hsh, nI_le_i (by omega) (by omega)] at c
      omega
    · obtain ⟨a1, a2⟩ := q3
      obtain ⟨b1, b2⟩ := q8
      subst a2 b2
      rw [a1, b1]
      refine ⟨fun c => ?_, fun c => ⟨_, sp_quarrel, fun r15 S14 q14 => ?_⟩⟩
      · rw [stPe, if_neg (fun h => h.1 c)] at ih
        exact ih
      · obtain ⟨d1, d2⟩ := q14
        subst d2
        rw [d1, bI_0]
        refine ⟨fun c2 => ?_, fun c2 => ?_⟩
        · rw [stPe, if_neg (fun h => c2 h.2)] at ih
          exact ih
        · rw [stPe, if_pos ⟨c, c2⟩] at ih
          exact ih
def stSi (S : ovS) (sy b : Int32) (g : Nat) : Int32 := if ¬ bcF b ≤ bcF (nI g) ∧ (nI g &&& (sy ^^^ (-1))) = 0 ∧ anyN 5 (qrF (S.1 29) (sy &&& (nI g ^^^ (-1)))) = false then nI g else b
theorem sp_silent (hn : S.1 16 0 = nI n) (hn5 : n ≤ 5) : Ex G mX8_fewestSilent 2 [.ref 369] S (fun r S1 => r = fvF (stSi S (nI (mk (fun i => decide (¬ S.1 26 i = -1)) 5))) (nI (mk (fun i => decide (¬ S.1 26 i = -1)) 5)) (2 ^ n) ∧ S1 = S) := by
  have hp := pow5 hn5
  have hsh : (1 : Int32) <<< (S.1 16 0 &&& 31) = nI (2 ^ n) := by rw [hn, sh1 n (by omega)]
  refine eX8_fewestSilent (vX8_fewestSilent_0 ⟨_, sp_sayers, fun r3 S2 q2 => ?_⟩)
  obtain ⟨s1, s2⟩ := q2
  subst s2
  rw [← s1]
  refine loopUp (n := 2 ^ n) (P := fun g => RM G mX8_fewestSilent 2 (fun r S1 => r = fvF (stSi S2 r3) r3 (2 ^ n) ∧ S1 = S2) 12 [some (.ref 369), some (.int r3), some (.int (fvF (stSi S2 r3) r3 g)), some (.int (nI g)), none] [] S2) ?_ ?_ 0 (Nat.zero_le _)
  · exact vX8_fewestSilent_12 ⟨fun _ => ⟨rfl, rfl⟩, fun c => absurd (by rw [hsh]; exact Int32.le_refl _) c⟩
  · intro g hg ih
    rw [nI_succ g, fvF] at ih
    refine vX8_fewestSilent_12 ⟨fun c => ?_, fun _ => ⟨_, sp_bitCount, fun r4 S3 q3 => ⟨_, sp_bitCount, fun r9 S8 q8 => ?_⟩⟩⟩
    · rw [hsh, nI_le_i (by omega) (by omega)] at c
      omega
    · obtain ⟨a1, a2⟩ := q3
      obtain ⟨b1, b2⟩ := q8
      subst a2 b2
      rw [a1, b1]
      refine ⟨fun c => ?_, fun c => ?_⟩
      · rw [stSi, if_neg (fun h => h.1 c)] at ih
        exact ⟨fun _ => ih, fun _ => ⟨fun _ => ih, fun h => absurd rfl h⟩⟩
      · refine ⟨fun c1 => ?_, fun c1 => ⟨fun h => absurd h (by decide), fun _ => ⟨_, sp_quarrel, fun r15 S14 q14 => ?_⟩⟩⟩
        · rw [stSi, if_neg (fun h => c1 h.2.1)] at ih
          exact ih
        · obtain ⟨d1, d2⟩ := q14
          subst d2
          rw [d1, bI_0]
          refine ⟨fun c2 => ?_, fun c2 => ?_⟩
          · rw [stSi, if_neg (fun h => c2 h.2.2)] at ih
            exact ih
          · rw [stSi, if_pos ⟨c, c1, c2⟩] at ih
            exact ih
theorem upd_back {s : Nat} {w : Int32} : upd (upd nm s w) s (nm s) = nm := by
  funext i
  by_cases e : i = s
  · simp [upd, e]
  · simp [upd, e]
def stSp (S : ovS) (n : Nat) (nm : Nat → Int32) (a : Int32 × Int32) (s : Nat) : Int32 × Int32 := if nm s = -1 then a else if smI (gG S (upd nm s (-1))) n ≤ a.2 then a else (nI s, smI (gG S (upd nm s (-1))) n)
theorem sp_spoiler {x : Int32} (hX : CX S n) (hV : VN n (S.1 26)) : Ex G mX8_findSpoiler 7 [.ref 369, .int x] S (fun r S1 => r = (if x = 0 then (fvF (stSp S n (S.1 26)) (-1, -1) n).1 else (fvF (stSp S n (S.1 26)) (-1, -1) n).2) ∧ Fr L6 S S1) := by
  have hn5 := hX.2.1
  obtain ⟨nm, hnm⟩ : ∃ nm, nm = S.1 26 := ⟨_, rfl⟩
  rw [← hnm] at hV ⊢
  have key : ∀ k i : Nat, ∀ S' : ovS, i + k = n → BX S S' nm → Fr L6 S S' → RM G mX8_findSpoiler 7 (fun r S1 => r = (if x = 0 then (fvF (stSp S n nm) (-1, -1) n).1 else (fvF (stSp S n nm) (-1, -1) n).2) ∧ Fr L6 S S1) 14 [some (.ref 369), some (.int x), some (.int (fvF (stSp S n nm) (-1, -1) i).1), some (.int (fvF (stSp S n nm) (-1, -1) i).2), some (.int (nI i)), none, none] [] S' := by
    intro k
    induction k with
    | zero =>
      intro i S' hi hB hF
      have : i = n := by omega
      subst this
      exact vX8_findSpoiler_14 ⟨fun _ => ⟨fun c => ⟨by rw [if_neg c], hF⟩, fun c => ⟨by rw [if_pos c], hF⟩⟩, fun c => absurd (by rw [(hB.cx hX).1]; exact Int32.le_refl _) c⟩
    | succ k ih =>
      intro i S' hi hB hF
      have step : fvF (stSp S n nm) (-1, -1) (i + 1) = stSp S n nm (fvF (stSp S n nm) (-1, -1) i) i := rfl
      refine vX8_findSpoiler_14 ⟨fun c => absurd c (nI_next (hB.cx hX).1 (by omega) (by omega)), fun _ => ⟨vp_in_nI (by omega) (by decide), ?_⟩⟩
      rw [nI_ix (by omega), hB.nm (by omega)]
      refine ⟨fun c => ?_, fun c => ⟨_, hB.put hX hV (by omega) (Or.inl rfl), fun r6 S5 q5 => ⟨_, q5.1.gainOfAll hX (hV.up (by omega) (Or.inl rfl)), fun r11 S10 q10 => ⟨_, q10.2.1.put hX (hV.up (by omega) (Or.inl rfl)) (by omega) ((hV i (by omega)).1 (by omega)), fun r16 S15 q15 => ?_⟩⟩⟩⟩
      · have h := ih (i + 1) S' (by omega) hB hF
        rw [step, stSp, if_pos c, nI_succ i] at h
        exact h
      · rw [q10.1]
        have hB2 := q15.1
        rw [upd_back] at hB2
        have h := ih (i + 1) S15 (by omega) hB2 (((hF.tr q5.2).tr q10.2.2).tr q15.2)
        rw [step, stSp, if_neg c, nI_succ i] at h
        refine ⟨fun c2 => ?_, fun c2 => ?_⟩
        · rw [if_pos c2] at h
          exact h
        · rw [if_neg c2] at h
          exact h
  refine eX8_findSpoiler (vX8_findSpoiler_0 ⟨_, BX.look hX (by rw [← hnm]; exact hV), fun r S2 q => ?_⟩)
  rw [← hnm] at q
  exact key n 0 S2 (by omega) q.1 q.2
end
