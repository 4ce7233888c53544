/-! ===== the Scanner goes on by a TOKEN ===== -/
section
variable {G : ovG} {S : ovS} {b : Nat → Nat} {t : Nat}
theorem oWd_n : ∀ i, i < 15 → oWd.getD i 0 = lN (kwN.getD i 0) := by decide
theorem kwN_lt : ∀ i, i < 15 → kwN.getD i 0 < 2 ^ 64 := by decide
theorem sp_kw {w : Nat} (hw : w < 2 ^ 64) (h0 : S.1 13 0 = 3) (h3 : S.2 13 3 = lN w) {Q : Int32 → ovS → Prop} (hQ : ∀ S1, S1.1 13 0 = nI (kwF w 15) → (∀ j, j ≠ 0 → S1.1 13 j = S.1 13 j) → S1.2 = S.2 → FA S S1 → Q 0 S1) : RM G mX7_scanWord 2 Q 87 [some (.ref 13), some (.int 0)] [] S := by
  have key : ∀ k i : Nat, ∀ S' : ovS, i + k = 15 → S'.1 13 0 = nI (kwF w i) → (∀ j, j ≠ 0 → S'.1 13 j = S.1 13 j) → S'.2 = S.2 → FA S S' → RM G mX7_scanWord 2 Q 87 [some (.ref 13), some (.int (nI i))] [] S' := by
    intro k
    induction k with
    | zero =>
      intro i S' hi a1 a2 a3 a4
      have : i = 15 := by omega
      subst this
      exact vX7_scanWord_87 ⟨fun _ => hQ S' a1 a2 a3 a4, fun z => absurd (by decide) z⟩
    | succ k ih =>
      intro i S' hi a1 a2 a3 a4
      have hk : kwF w i < 2147483648 := by
        rcases kwF_3 (w := w) i with h | ⟨j, h1, h2, h3⟩ <;> omega
      refine vX7_scanWord_87 ⟨fun z => absurd ((nI_le_i (a := 15) (by decide) (by omega)).mp z) (by omega), fun _ => ?_⟩
      rw [a1, show (3 : Int32) = nI 3 from rfl, nI_eq_i hk (by decide)]
      refine ⟨fun z => hQ S' ?_ a2 a3 a4, fun z => ⟨vp_in_nI (by omega) (by decide), ?_⟩⟩
      · have := kwF_st z (k + 1)
        rw [hi] at this
        rw [this]
        exact a1
      · rw [nI_ix (by omega), lg_cmp_eq, a3, h3, oWd_n i (by omega), lN_inj (kwN_lt i (by omega)) hw]
        have go := ih (i + 1)
        rw [nI_succ i] at go
        refine ⟨fun y => go S' (by omega) ?_ a2 a3 a4, fun y S4 e4 => go S4 (by omega) ?_ ?_ ?_ ?_⟩
        · rw [kwF, if_neg (fun x => y x.2)]
          exact a1
        · rw [e4, kwF, if_pos ⟨z, y⟩, stI_1, if_pos rfl, if_pos rfl, show (256 : Int32) = nI 256 from rfl, nI_add]
        · intro j hj
          rw [e4, stI_1, if_pos rfl, if_neg hj]
          exact a2 j hj
        · rw [e4, stI_2]
          exact a3
        · rw [e4]
          exact a4.st
  exact key 15 0 S (by omega) h0 (fun _ _ => rfl) rfl FA.rf
theorem sp_scanWord {p : Nat} (hX : TX b t S) (hp : p ≤ t) (h1 : S.1 13 1 = nI p) (h6 : S.1 13 6 = nI p) : Ex G mX7_scanWord 2 [.ref 13] S (fun _ S1 => FA S S1 ∧ S1.1 13 0 = nI (if 8 < sk b t isLb p - p then 1 else kwF (wdF b p (sk b t isLb p - p)) 15) ∧ S1.1 13 1 = nI p ∧ S1.1 13 5 = nI t ∧ S1.1 13 6 = nI (sk b t isLb p) ∧ (sk b t isLb p - p ≤ 8 → S1.2 13 3 = lN (wdF b p (sk b t isLb p - p)))) := by
  have ht := hX.1
  obtain ⟨Q, hQ⟩ : ∃ Q : Int32 → ovS → Prop, Q = (fun _ S1 => FA S S1 ∧ S1.1 13 0 = nI (if 8 < sk b t isLb p - p then 1 else kwF (wdF b p (sk b t isLb p - p)) 15) ∧ S1.1 13 1 = nI p ∧ S1.1 13 5 = nI t ∧ S1.1 13 6 = nI (sk b t isLb p) ∧ (sk b t isLb p - p ≤ 8 → S1.2 13 3 = lN (wdF b p (sk b t isLb p - p)))) := ⟨_, rfl⟩
  rw [← hQ]
  have fin : ∀ (n : Nat) (S' : ovS), sk b t isLb p = p + n → (∀ j, j < n → b (p + j) < 256) → FA S S' → S'.1 13 1 = nI p → S'.1 13 5 = nI t → S'.1 13 6 = nI (p + n) → (n ≤ 8 → S'.2 13 3 = lN (wdF b p n)) → (((nI (p + n) - nI p) ≤ 8 → ∀ S3 : ovS, S3 = stI S' 13 0 3 → RM G mX7_scanWord 2 Q 87 [some (.ref 13), some (.int 0)] [] S3) ∧ (¬ (nI (p + n) - nI p) ≤ 8 → ∀ S4 : ovS, S4 = stI S' 13 0 1 → RM G mX7_scanWord 2 Q 87 [some (.ref 13), some (.int 0)] [] S4)) := by
    intro n S' hn hb a1 a2 a3 a4 a5
    have hle : p + n ≤ t := by
      rw [← hn]
      exact sk_hi hp
    rw [nI_subk (by omega), show p + n - p = n by omega, show (8 : Int32) = nI 8 from rfl, nI_le_i (by omega) (by decide)]
    have en : sk b t isLb p - p = n := by omega
    rw [en, hn] at hQ
    refine ⟨fun c S3 e3 => ?_, fun c S4 e4 => ?_⟩
    · have hw : wdF b p n < 2 ^ 64 := Nat.lt_of_lt_of_le (wd_lt n hb) (pw8 c)
      refine sp_kw (w := wdF b p n) hw (by rw [e3, stI_1, if_pos rfl, if_pos rfl]) (by rw [e3, stI_2]; exact a5 c) (fun S1 g1 g2 g3 g4 => ?_)
      rw [hQ]
      have hF3 : FA S S3 := by rw [e3]; exact a1.st
      refine ⟨hF3.tr g4, ?_, ?_, ?_, ?_, fun _ => ?_⟩
      · rw [g1, if_neg (by omega)]
      · rw [g2 1 (by decide), e3, stI_1, if_pos rfl, if_neg (by decide)]
        exact a2
      · rw [g2 5 (by decide), e3, stI_1, if_pos rfl, if_neg (by decide)]
        exact a3
      · rw [g2 6 (by decide), e3, stI_1, if_pos rfl, if_neg (by decide)]
        exact a4
      · rw [g3, e3, stI_2]
        exact a5 c
    · refine vX7_scanWord_87 ⟨fun z => absurd z (by decide), fun _ => ⟨fun _ => ?_, fun z => ?_⟩⟩
      · rw [hQ, e4]
        refine ⟨a1.st, ?_, ?_, ?_, ?_, fun z => absurd z c⟩
        · rw [stI_1, if_pos rfl, if_pos rfl, if_pos (by omega)]
          rfl
        · rw [stI_1, if_pos rfl, if_neg (by decide)]
          exact a2
        · rw [stI_1, if_pos rfl, if_neg (by decide)]
          exact a3
        · rw [stI_1, if_pos rfl, if_neg (by decide)]
          exact a4
      · rw [e4, stI_1, if_pos rfl, if_pos rfl] at z
        exact absurd z (by decide)
  have key : ∀ k i : Nat, ∀ S' : ovS, p + i + k = t → sk b t isLb p = sk b t isLb (p + i) → (∀ j, j < i → isLb (b (p + j)) = true) → FA S S' → S'.1 13 1 = nI p → S'.1 13 5 = nI t → S'.1 13 6 = nI (p + i) → (i ≤ 8 → S'.2 13 3 = lN (wdF b p i)) → RM G mX7_scanWord 2 Q 5 [some (.ref 13), none] [] S' := by
    intro k
    induction k with
    | zero =>
      intro i S' hk hs hL a1 a2 a3 a4 a5
      have hn : sk b t isLb p = p + i := by rw [hs, sk_n (by omega)]
      refine vX7_scanWord_5 ?_
      rw [a4, a2, a3]
      refine ⟨fun _ => fin i S' hn (fun j hj => by have := isLb_r (hL j hj); omega) a1 a2 a3 a4 a5, fun z => absurd ((nI_le_i (by omega) (by omega)).mpr (by omega)) z⟩
    | succ k ih =>
      intro i S' hk hs hL a1 a2 a3 a4 a5
      have hX' : TX b t S' := ⟨ht, a3, fun i hi => by rw [(a1 1 (by decide)).1]; exact hX.2.2 i hi⟩
      refine vX7_scanWord_5 ?_
      rw [a4, a2, a3]
      refine ⟨fun z => absurd ((nI_le_i (by omega) (by omega)).mp z) (by omega), fun _ => ⟨_, sp_cLet hX' (by omega), fun r7 S6 q => ?_⟩⟩
      obtain ⟨q1, q2⟩ := q
      subst q2
      rw [q1, a4, a2, bI_0, decide_eq_true (show p + i < t by omega), Bool.true_and]
      have hb := hX'.2.2 (p + i) (by omega)
      refine ⟨fun z => fin i S6 (by rw [hs, sk_n (by rw [z]; simp)]) (fun j hj => by have := isLb_r (hL j hj); omega) a1 a2 a3 a4 a5, fun z => ⟨vp_in_nI (by omega) (by decide), fun S14 e14 S15 e15 => ?_⟩⟩
      have z' : isLb (b (p + i)) = true := by
        revert z
        cases isLb (b (p + i)) <;> simp
      have hr := isLb_r z'
      refine ih (i + 1) S15 (by omega) ?_ ?_ ?_ ?_ ?_ ?_ ?_
      · rw [hs, sk_s (by omega) z']
        rfl
      · intro j hj
        by_cases e : j = i
        · rw [e]; exact z'
        · exact hL j (by omega)
      · rw [e15, e14]
        exact a1.sj.st
      · rw [e15, stI_1, if_pos rfl, if_neg (by decide), e14, stJ_1]
        exact a2
      · rw [e15, stI_1, if_pos rfl, if_neg (by decide), e14, stJ_1]
        exact a3
      · rw [e15, stI_1, if_pos rfl, if_pos rfl, e14, stJ_1, a4, nI_1]
        rfl
      · intro h8
        have hw : wdF b p i < 2 ^ 56 := Nat.lt_of_lt_of_le (wd_lt i (fun j hj => by have := isLb_r (hL j hj); omega)) (pw7 (by omega))
        rw [e15, stI_2, e14, stJ_2, if_pos rfl, if_pos rfl, a5 (by omega), nI_ix (by omega), hb.2, sby_lt (by omega), wd_step hw (by omega)]
        rfl
  refine eX7_scanWord (vX7_scanWord_0 (fun S1 e1 => ?_))
  subst e1
  refine key (t - p) 0 _ (by omega) rfl (fun j hj => absurd hj (by omega)) FA.rf.sj h1 hX.2.1 h6 (fun _ => ?_)
  rw [stJ_2, if_pos rfl, if_pos rfl]
  rfl
theorem nm_lt {q : Nat} : ∀ n, (∀ i, i < n → isDb (b (q + i)) = true) → nmF b q n < 10 ^ n
  | 0, _ => by simp [nmF]
  | n + 1, h => by
    have h1 := nm_lt n (fun i hi => h i (by omega))
    have h2 := isDb_r (h n (by omega))
    rw [nmF, Nat.pow_succ]
    omega
theorem pw4 {n : Nat} (h : n ≤ 4) : (10 : Nat) ^ n ≤ 10000 := Nat.le_trans (Nat.pow_le_pow_right (by decide) h) (by decide)
theorem nm_step {v c : Nat} (h : 48 ≤ c) : nI v * 10 + nI c - 48 = nI (10 * v + (c - 48)) := by
  rw [show (10 : Int32) = nI 10 from rfl, show (48 : Int32) = nI 48 from rfl, pk_mul, nI_add, nI_subk (by omega)]
  congr 1
  omega
theorem sp_scanNumber {p : Nat} (hX : TX b t S) (hp : p ≤ t) (h1 : S.1 13 1 = nI p) (h6 : S.1 13 6 = nI p) : Ex G mX7_scanNumber 2 [.ref 13] S (fun _ S1 => FA S S1 ∧ S1.1 13 0 = nI (if 4 < sk b t isDb p - p ∨ (sk b t isDb p < t ∧ isLb (b (sk b t isDb p)) = true) then 1 else 2) ∧ S1.1 13 1 = nI p ∧ S1.1 13 5 = nI t ∧ S1.1 13 6 = nI (sk b t isDb p) ∧ (sk b t isDb p - p ≤ 4 → S1.1 13 2 = nI (nmF b p (sk b t isDb p - p)))) := by
  have ht := hX.1
  obtain ⟨Q, hQ⟩ : ∃ Q : Int32 → ovS → Prop, Q = (fun _ S1 => FA S S1 ∧ S1.1 13 0 = nI (if 4 < sk b t isDb p - p ∨ (sk b t isDb p < t ∧ isLb (b (sk b t isDb p)) = true) then 1 else 2) ∧ S1.1 13 1 = nI p ∧ S1.1 13 5 = nI t ∧ S1.1 13 6 = nI (sk b t isDb p) ∧ (sk b t isDb p - p ≤ 4 → S1.1 13 2 = nI (nmF b p (sk b t isDb p - p)))) := ⟨_, rfl⟩
  rw [← hQ]
  have fin : ∀ (n : Nat) (S' : ovS), sk b t isDb p = p + n → FA S S' → S'.1 13 1 = nI p → S'.1 13 5 = nI t → S'.1 13 6 = nI (p + n) → (n ≤ 4 → S'.1 13 2 = nI (nmF b p n)) → RM G mX7_scanNumber 2 Q 64 [some (.ref 13), none] [] S' := by
    intro n S' hn a1 a2 a3 a4 a5
    have hle : p + n ≤ t := by
      rw [← hn]
      exact sk_hi hp
    have en : sk b t isDb p - p = n := by omega
    rw [en, hn] at hQ
    have hX' : TX b t S' := ⟨ht, a3, fun i hi => by rw [(a1 1 (by decide)).1]; exact hX.2.2 i hi⟩
    have ok : ∀ (c : Nat) (S3 : ovS), S3 = stI S' 13 0 (nI c) → c = (if 4 < n ∨ (p + n < t ∧ isLb (b (p + n)) = true) then 1 else 2) → Q 0 S3 := by
      intro c S3 e3 hc
      rw [hQ, e3]
      refine ⟨a1.st, ?_, ?_, ?_, ?_, fun z => ?_⟩
      · rw [stI_1, if_pos rfl, if_pos rfl, hc]
      · rw [stI_1, if_pos rfl, if_neg (by decide)]
        exact a2
      · rw [stI_1, if_pos rfl, if_neg (by decide)]
        exact a3
      · rw [stI_1, if_pos rfl, if_neg (by decide)]
        exact a4
      · rw [stI_1, if_pos rfl, if_neg (by decide)]
        exact a5 z
    refine vX7_scanNumber_64 ?_
    rw [a4, a2, a3, nI_subk (by omega), show p + n - p = n by omega, show (4 : Int32) = nI 4 from rfl, nI_lt_i (by decide) (by omega), nI_le_i (by omega) (by omega)]
    refine ⟨fun c => ⟨fun _ S3 e3 => ok 1 S3 e3 (by rw [if_pos (Or.inl c)]), fun z => absurd rfl z⟩, fun c => ⟨fun d => ⟨fun z => absurd z (by decide), fun _ S8 e8 => ok 2 S8 e8 (by rw [if_neg (fun z => z.elim c (fun y => absurd y.1 (by omega)))])⟩, fun d => ⟨_, sp_cLet hX' (by omega), fun r11 S10 q => ?_⟩⟩⟩
    obtain ⟨q1, q2⟩ := q
    subst q2
    rw [q1, bI_0, decide_eq_true (show p + n < t by omega), Bool.true_and]
    refine ⟨fun z => ⟨fun _ S16 e => ok 1 S16 e (by rw [if_pos (Or.inr ⟨by omega, by revert z; cases isLb (b (p + n)) <;> simp⟩)]), fun y => absurd rfl y⟩, fun z => ⟨fun y => absurd y (by decide), fun _ S20 e => ok 2 S20 e (by rw [if_neg (fun y => y.elim c (fun x => by rw [z] at x; exact absurd x.2 (by decide)))])⟩⟩
  have key : ∀ k i : Nat, ∀ S' : ovS, p + i + k = t → sk b t isDb p = sk b t isDb (p + i) → (∀ j, j < i → isDb (b (p + j)) = true) → FA S S' → S'.1 13 1 = nI p → S'.1 13 5 = nI t → S'.1 13 6 = nI (p + i) → (i ≤ 4 → S'.1 13 2 = nI (nmF b p i)) → RM G mX7_scanNumber 2 Q 5 [some (.ref 13), none] [] S' := by
    intro k
    induction k with
    | zero =>
      intro i S' hk hs hL a1 a2 a3 a4 a5
      have hn : sk b t isDb p = p + i := by rw [hs, sk_n (by omega)]
      refine vX7_scanNumber_5 ?_
      rw [a4, a3]
      refine ⟨fun _ => fin i S' hn a1 a2 a3 a4 a5, fun z => absurd ((nI_le_i (by omega) (by omega)).mpr (by omega)) z⟩
    | succ k ih =>
      intro i S' hk hs hL a1 a2 a3 a4 a5
      have hX' : TX b t S' := ⟨ht, a3, fun i hi => by rw [(a1 1 (by decide)).1]; exact hX.2.2 i hi⟩
      refine vX7_scanNumber_5 ?_
      rw [a4, a3]
      refine ⟨fun z => absurd ((nI_le_i (by omega) (by omega)).mp z) (by omega), fun _ => ⟨_, sp_cDig hX' (by omega), fun r7 S6 q => ?_⟩⟩
      obtain ⟨q1, q2⟩ := q
      subst q2
      rw [q1, a4, bI_0, decide_eq_true (show p + i < t by omega), Bool.true_and]
      have hb := hX'.2.2 (p + i) (by omega)
      refine ⟨fun z => fin i S6 (by rw [hs, sk_n (by rw [z]; simp)]) a1 a2 a3 a4 a5, fun z => ⟨vp_in_nI (by omega) (by decide), fun S14 e14 S15 e15 => ?_⟩⟩
      have z' : isDb (b (p + i)) = true := by
        revert z
        cases isDb (b (p + i)) <;> simp
      have hr := isDb_r z'
      refine ih (i + 1) S15 (by omega) ?_ ?_ ?_ ?_ ?_ ?_ ?_
      · rw [hs, sk_s (by omega) z']
        rfl
      · intro j hj
        by_cases e : j = i
        · rw [e]; exact z'
        · exact hL j (by omega)
      · rw [e15, e14]
        exact a1.st.st
      · rw [e15, stI_1, if_pos rfl, if_neg (by decide), e14, stI_1, if_pos rfl, if_neg (by decide)]
        exact a2
      · rw [e15, stI_1, if_pos rfl, if_neg (by decide), e14, stI_1, if_pos rfl, if_neg (by decide)]
        exact a3
      · rw [e15, stI_1, if_pos rfl, if_pos rfl, e14, stI_1, if_pos rfl, if_neg (by decide), a4, nI_1]
        rfl
      · intro h8
        rw [e15, stI_1, if_pos rfl, if_neg (by decide), e14, stI_1, if_pos rfl, if_pos rfl, a5 (by omega), nI_ix (by omega), hb.2, sby_lt (by omega), nm_step hr.1]
        rfl
  refine eX7_scanNumber (vX7_scanNumber_0 (fun S1 e1 => ?_))
  subst e1
  refine key (t - p) 0 _ (by omega) rfl (fun j hj => absurd hj (by omega)) FA.rf.st ?_ ?_ ?_ (fun _ => ?_)
  · rw [stI_1, if_pos rfl, if_neg (by decide)]; exact h1
  · rw [stI_1, if_pos rfl, if_neg (by decide)]; exact hX.2.1
  · rw [stI_1, if_pos rfl, if_neg (by decide)]; exact h6
  · rw [stI_1, if_pos rfl, if_pos rfl]
    rfl
theorem sp_advance {q : Nat} (hX : TX b t S) (hq : q ≤ t) (h6 : S.1 13 6 = nI q) : Ex G mX7_advance 9 [.ref 13] S (fun _ S1 => FA S S1 ∧ TC b t q S1 ∧ S1.1 13 5 = nI t) := by
  have ht := hX.1
  have hp := tP_hi (b := b) hq
  obtain ⟨Q, hQ⟩ : ∃ Q : Int32 → ovS → Prop, Q = (fun _ S1 => FA S S1 ∧ TC b t q S1 ∧ S1.1 13 5 = nI t) := ⟨_, rfl⟩
  rw [← hQ]
  have fin : ∀ S' : ovS, FA S S' → S'.1 13 5 = nI t → S'.1 13 6 = nI (tP b t q) → RM G mX7_advance 9 Q 52 [some (.ref 13), none] [] S' := by
    intro S' a1 a3 a4
    refine vX7_advance_52 (fun S1 e1 => ?_)
    rw [a4] at e1
    have g5 : S1.1 13 5 = nI t := by rw [e1, stI_1, if_pos rfl, if_neg (by decide)]; exact a3
    have g6 : S1.1 13 6 = nI (tP b t q) := by rw [e1, stI_1, if_pos rfl, if_neg (by decide)]; exact a4
    have g1 : S1.1 13 1 = nI (tP b t q) := by rw [e1, stI_1, if_pos rfl, if_pos rfl]
    have hF : FA S S1 := by rw [e1]; exact a1.st
    have hX1 : TX b t S1 := ⟨ht, g5, fun i hi => by rw [(hF 1 (by decide)).1]; exact hX.2.2 i hi⟩
    clear e1
    have hLn := tLn_hi (b := b) hq
    have hDn := tDn_hi (b := b) hq
    have sL := sk_lo (b := b) (t := t) (p := isLb) (q := tP b t q)
    have sD := sk_lo (b := b) (t := t) (p := isDb) (q := tP b t q)
    have eL : sk b t isLb (tP b t q) = tP b t q + tLn b t q := by unfold tLn; omega
    have eD : sk b t isDb (tP b t q) = tP b t q + tDn b t q := by unfold tDn; omega
    rw [g6, g5, nI_lt_i (by omega) (by omega)]
    refine ⟨fun c => ⟨_, sp_cLet hX1 (by omega), fun r5 S4 q1 => ?_⟩, fun c S35 e35 => ?_⟩
    · obtain ⟨q1, q2⟩ := q1
      subst q2
      have hz : ¬ t ≤ tP b t q := by omega
      have hb := hX1.2.2 _ c
      rw [q1, g6, bI_0, decide_eq_true c, Bool.true_and]
      refine ⟨fun d => ⟨_, sp_cDig hX1 (by omega), fun r11 S10 q2 => ?_⟩, fun d => ⟨_, sp_scanWord hX1 hp g1 g6, fun r32 S31 z => ?_⟩⟩
      · obtain ⟨q3, q4⟩ := q2
        subst q4
        have d' : ¬ isLb (b (tP b t q)) = true := by rw [d]; decide
        rw [q3, g6, bI_0, decide_eq_true c, Bool.true_and]
        refine ⟨fun e => ⟨vp_in_nI (by omega) (by decide), ?_⟩, fun e => ⟨_, sp_scanNumber hX1 hp g1 g6, fun r27 S26 z => ?_⟩⟩
        · have e' : ¬ isDb (b (tP b t q)) = true := by rw [e]; decide
          rw [nI_ix (by omega), hb.2, sby_255 _ hb.1, ch_255 _ hb.1]
          refine ⟨_, sp_indexOf hb.1, fun r17 S16 q5 => ?_⟩
          obtain ⟨q6, q7⟩ := q5
          subst q7
          rw [q6]
          have hE : tE b t q = tP b t q + 1 := by
            unfold tE
            rw [if_neg hz, if_neg d', if_neg e']
          refine ⟨fun y S21 e21 S22 e22 => ?_, fun y S21 e21 S22 e22 => ?_⟩
          · have hK : tK b t q = 1 := by
              unfold tK
              rw [if_neg hz, if_neg d', if_neg e', if_neg (by rw [y]; decide)]
            rw [hQ, e22, e21]
            refine ⟨hF.st.st, ⟨?_, ?_, ?_, fun x => ?_, fun x => ?_⟩, ?_⟩
            · rw [stI_1, if_pos rfl, if_neg (by decide), stI_1, if_pos rfl, if_pos rfl, hK]
              rfl
            · rw [stI_1, if_pos rfl, if_neg (by decide), stI_1, if_pos rfl, if_neg (by decide)]
              exact g1
            · rw [stI_1, if_pos rfl, if_pos rfl, stI_1, if_pos rfl, if_neg (by decide), g6, nI_1, hE]
            · rw [hK] at x; cases x
            · rw [hK] at x; cases x
            · rw [stI_1, if_pos rfl, if_neg (by decide), stI_1, if_pos rfl, if_neg (by decide)]
              exact g5
          · have y' : isSb (b (tP b t q)) = true := by
              revert y
              cases isSb (b (tP b t q)) <;> simp
            have hK : tK b t q = b (tP b t q) := by
              unfold tK
              rw [if_neg hz, if_neg d', if_neg e', if_pos y']
            have h23 : ¬ b (tP b t q) = 2 ∧ ¬ b (tP b t q) = 3 := by
              constructor <;> (intro x; rw [x] at y'; exact absurd y' (by decide))
            rw [hQ, e22, e21]
            refine ⟨hF.st.st, ⟨?_, ?_, ?_, fun x => ?_, fun x => ?_⟩, ?_⟩
            · rw [stI_1, if_pos rfl, if_neg (by decide), stI_1, if_pos rfl, if_pos rfl, hK]
            · rw [stI_1, if_pos rfl, if_neg (by decide), stI_1, if_pos rfl, if_neg (by decide)]
              exact g1
            · rw [stI_1, if_pos rfl, if_pos rfl, stI_1, if_pos rfl, if_neg (by decide), g6, nI_1, hE]
            · rw [hK] at x; exact absurd x h23.1
            · rw [hK] at x; exact absurd x h23.2
            · rw [stI_1, if_pos rfl, if_neg (by decide), stI_1, if_pos rfl, if_neg (by decide)]
              exact g5
        · have e' : isDb (b (tP b t q)) = true := by
            revert e
            cases isDb (b (tP b t q)) <;> simp
          obtain ⟨z1, z2, z3, z4, z5, z6⟩ := z
          rw [eD] at z2 z5
          have hK : tK b t q = (if 4 < tDn b t q ∨ (tP b t q + tDn b t q < t ∧ isLb (b (tP b t q + tDn b t q)) = true) then 1 else 2) := by
            unfold tK
            rw [if_neg hz, if_neg d', if_pos e']
          have hE : tE b t q = tP b t q + tDn b t q := by
            unfold tE
            rw [if_neg hz, if_neg d', if_pos e']
          rw [hQ]
          refine ⟨hF.tr z1, ⟨?_, z3, ?_, fun x => ?_, fun x => ?_⟩, z4⟩
          · rw [z2, hK, Nat.add_sub_cancel_left]
          · rw [z5, hE]
          · refine z6 ?_
            rw [hK] at x
            split at x
            · cases x
            · next y =>
              show tDn b t q ≤ 4
              omega
          · rw [hK] at x
            split at x <;> cases x
      · have d' : isLb (b (tP b t q)) = true := by
          revert d
          cases isLb (b (tP b t q)) <;> simp
        obtain ⟨z1, z2, z3, z4, z5, z6⟩ := z
        rw [eL] at z5
        have hK : tK b t q = (if 8 < tLn b t q then 1 else kwF (tW b t q) 15) := by
          unfold tK
          rw [if_neg hz, if_pos d']
        have hE : tE b t q = tP b t q + tLn b t q := by
          unfold tE
          rw [if_neg hz, if_pos d']
        rw [hQ]
        refine ⟨hF.tr z1, ⟨?_, z3, ?_, fun x => ?_, fun x => ?_⟩, z4⟩
        · rw [z2, hK]
          rfl
        · rw [z5, hE]
        · rw [hK] at x
          split at x
          · cases x
          · rcases kwF_3 (w := tW b t q) 15 with h1 | ⟨j, h1, h2, h3⟩ <;> omega
        · refine z6 ?_
          rw [hK] at x
          split at x
          · cases x
          · next y =>
            show tLn b t q ≤ 8
            omega
    · have hz : t ≤ tP b t q := by omega
      have hK : tK b t q = 0 := by
        unfold tK
        rw [if_pos hz]
      have hE : tE b t q = tP b t q := by
        unfold tE
        rw [if_pos hz]
      rw [hQ, e35]
      refine ⟨hF.st, ⟨?_, ?_, ?_, fun x => ?_, fun x => ?_⟩, ?_⟩
      · rw [stI_1, if_pos rfl, if_pos rfl, hK]
        rfl
      · rw [stI_1, if_pos rfl, if_neg (by decide)]
        exact g1
      · rw [stI_1, if_pos rfl, if_neg (by decide), hE]
        exact g6
      · rw [hK] at x; cases x
      · rw [hK] at x; cases x
      · rw [stI_1, if_pos rfl, if_neg (by decide)]
        exact g5
  have key : ∀ k i : Nat, ∀ S' : ovS, i + k = t → tP b t q = sk b t isWb i → FA S S' → S'.1 13 5 = nI t → S'.1 13 6 = nI i → RM G mX7_advance 9 Q 0 [some (.ref 13), none] [] S' := by
    intro k
    induction k with
    | zero =>
      intro i S' hk hs a1 a3 a4
      refine vX7_advance_0 ?_
      rw [a4, a3]
      exact ⟨fun _ => fin S' a1 a3 (by rw [hs, sk_n (by omega)]; exact a4), fun z => absurd ((nI_le_i (by omega) (by omega)).mpr (by omega)) z⟩
    | succ k ih =>
      intro i S' hk hs a1 a3 a4
      have hb := hX.2.2 i (by omega)
      refine vX7_advance_0 ?_
      rw [a4, a3, nI_ix (by omega), (a1 1 (by decide)).1, hb.2, sby_32 _ hb.1, sby_10 _ hb.1]
      have go : ∀ S3, isWb (b i) = true → S3 = stI S' 13 6 (nI i + 1) → RM G mX7_advance 9 Q 0 [some (.ref 13), none] [] S3 := by
        intro S3 hw e3
        refine ih (i + 1) S3 (by omega) (by rw [hs, sk_s (by omega) hw]) ?_ ?_ ?_
        · rw [e3]; exact a1.st
        · rw [e3, stI_1, if_pos rfl, if_neg (by decide)]; exact a3
        · rw [e3, stI_1, if_pos rfl, if_pos rfl, nI_1]
      refine ⟨fun z => absurd ((nI_le_i (by omega) (by omega)).mp z) (by omega), fun _ => ⟨vp_in_nI (by omega) (by decide), fun z S3 e3 => go S3 (by unfold isWb; rw [z]; rfl) e3, fun z => ⟨vp_in_nI (by omega) (by decide), fun y => ?_, fun y S5 e5 => go S5 (by unfold isWb; rw [y]; rfl) e5⟩⟩⟩
      refine fin S' a1 a3 ?_
      rw [hs, sk_n (by unfold isWb; simp [z, y])]
      exact a4
  exact eX7_advance (key (t - q) q S (by omega) rfl FA.rf hX.2.1 h6)
end
