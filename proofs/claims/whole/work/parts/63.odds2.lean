/-! ===== odds, the reference ===== -/
section
variable {G : ovG} {S : ovS} {n m : Nat}
theorem mn_s : ∀ j, j < 100 → (99 ≤ nI j → mn j = j) ∧ (¬ 99 ≤ nI j → nI j + 1 = nI (mn j)) := by decide +kernel
theorem sp_goWays {st : Nat} {w : Nat → Nat} (hM : MX S n) (hst : S.1 412 49 = nI st) (hst9 : st ≤ 99) (hw : ∀ v, v < 100 → S.1 432 v = nI (w v) ∧ w v < 2147483648) : Ex G mX12_goWays 4 [.ref 412] S (fun _ S1 => FJ [420, 421, 432, 433] [49] S S1 ∧ S1.1 412 49 = nI (mn st) ∧ ∀ v, v < 100 → S1.1 432 v = nI (wS (LN S st) w 100 v)) := by
  obtain ⟨Q, hQ⟩ : ∃ Q : Int32 → ovS → Prop, Q = (fun _ S1 => FJ [420, 421, 432, 433] [49] S S1 ∧ S1.1 412 49 = nI (mn st) ∧ ∀ v, v < 100 → S1.1 432 v = nI (wS (LN S st) w 100 v)) := ⟨_, rfl⟩
  rw [← hQ]
  -- the last loop
  have cp : ∀ d j : Nat, ∀ S' : ovS, j + d = 100 → Fr [420, 421, 432, 433] S S' → (∀ v, v < 100 → S'.1 433 v = nI (wS (LN S st) w 100 v)) → (∀ v, v < j → S'.1 432 v = nI (wS (LN S st) w 100 v)) → RM G mX12_goWays 4 Q 89 [some (.ref 412), some (.int (nI j)), none] [] S' := by
    intro d
    induction d with
    | zero =>
      intro j S' hj hF h1 h2
      have : j = 100 := by omega
      subst this
      refine vX12_goWays_89 ⟨fun _ => ?_, fun c => absurd (by decide) c⟩
      rw [hF.at 412 rfl, hst]
      refine ⟨fun c => ?_, fun c S3 e3 => ?_⟩
      · rw [hQ]
        exact ⟨FJ.of hF rfl, by rw [hF.at 412 rfl, hst, (mn_s st (by omega)).1 c], h2⟩
      · rw [hQ]
        rw [(mn_s st (by omega)).2 c] at e3
        subst e3
        exact ⟨(FJ.of hF rfl).s4 rfl, by rw [stI_1]; rfl, fun v hv => by rw [stI_row (by decide)]; exact h2 v hv⟩
    | succ d ih =>
      intro j S' hj hF h1 h2
      have i100 : vp_in (nI j) 100 := vp_in_nI (by omega) (by decide)
      refine vX12_goWays_89 ⟨fun c => absurd ((nI_lt_i (a := 99) (by decide) (by omega)).mp c) (by omega), fun _ => ⟨i100, i100, fun S4 e4 => ?_⟩⟩
      rw [nI_ix (n := j) (by omega), h1 j (by omega)] at e4
      have hh := ih (j + 1) S4 (by omega) (by rw [e4]; exact hF.st rfl) (fun v hv => by rw [e4, stI_row (by decide)]; exact h1 v hv) (fun v hv => ?_)
      · rw [nI_succ j] at hh
        exact hh
      · rw [e4, stI_1, if_pos rfl]
        by_cases e : v = j
        · rw [if_pos e, e]
        · rw [if_neg e]
          exact h2 v (by omega)
  have key : ∀ d o : Nat, ∀ S' : ovS, o + d = 100 → Fr [420, 421, 433] S S' → (∀ v, v < 100 → S'.1 433 v = nI (wS (LN S st) w o v)) → RM G mX12_goWays 4 Q 23 [some (.ref 412), some (.int (nI o)), none] [] S' := by
    intro d
    induction d with
    | zero =>
      intro o S' ho hF h
      have : o = 100 := by omega
      subst this
      exact vX12_goWays_23 ⟨fun _ => cp 100 0 S' (by omega) (hF.mono rfl) h (fun v hv => absurd hv (by omega)), fun c => absurd (by decide) c⟩
    | succ d ih =>
      intro o S' ho hF h
      have e432 : S'.1 432 o = nI (w o) := by rw [hF.at 432 rfl]; exact (hw o (by omega)).1
      refine vX12_goWays_23 ⟨fun c => absurd ((nI_lt_i (a := 99) (by decide) (by omega)).mp c) (by omega), fun _ => ⟨vp_in_nI (by omega) (by decide), ?_⟩⟩
      rw [nI_ix (n := o) (by omega), e432, show (0 : Int32) = nI 0 from rfl, nI_eq_i (hw o (by omega)).2 (by decide)]
      have inner : ∀ e k : Nat, ∀ S'' : ovS, k + e = 10 → Fr [420, 421, 433] S S'' → (∀ v, v < 100 → S''.1 433 v = nI (wS (LN S st) w o v + w o * cL (LN S st o) v k)) → RM G mX12_goWays 4 Q 43 [some (.ref 412), some (.int (nI o)), some (.int (nI k))] [] S'' := by
        intro e
        induction e with
        | zero =>
          intro k S'' hk hF2 h2
          have : k = 10 := by omega
          subst this
          have hh := ih (o + 1) S'' (by omega) hF2 (fun v hv => h2 v hv)
          rw [nI_succ o] at hh
          exact vX12_goWays_43 ⟨fun _ => hh, fun c => absurd (by decide) c⟩
        | succ e ih2 =>
          intro k S'' hk hF2 h2
          obtain ⟨fl, hfr⟩ := (hM.fr hF2 rfl rfl).2.2.1
          refine vX12_goWays_43 ⟨fun c => absurd ((nI_lt_i (a := 9) (by decide) (by omega)).mp c) (by omega), fun _ => ⟨_, sp_mLoaf hfr, fun r4 S3 q => ?_⟩⟩
          obtain ⟨q1, q2⟩ := q
          rw [hF2.at 412 rfl, hst, LF_sm' (hF2.at 20 rfl) (hF2.at 21 rfl) (hF2.at 22 rfl), (LN_s S st o k).2] at q1
          have hl := (LN_s S st o k).1
          have i100 : vp_in r4 100 := by rw [q1]; exact vp_in_nI hl (by decide)
          have ix4 : r4.toNatClampNeg = LN S st o k := by rw [q1]; exact nI_ix (by omega)
          refine ⟨i100, vp_in_nI (by omega) (by decide), i100, fun S7 e7 => ?_⟩
          rw [ix4, q2.at 433 rfl, h2 _ hl, q2.at 432 rfl, hF2.at 432 rfl, nI_ix (n := o) (by omega), (hw o (by omega)).1, nI_add] at e7
          have hh := ih2 (k + 1) S7 (by omega) (by rw [e7]; exact (hF2.tr (q2.mono rfl)).st rfl) (fun v hv => ?_)
          · rw [nI_succ k] at hh
            exact hh
          · have ec : cL (LN S st o) v (k + 1) = cL (LN S st o) v k + (if decide (LN S st o k = v) then 1 else 0) := rfl
            rw [e7, stI_1, if_pos rfl, ec]
            by_cases ev : v = LN S st o k
            · rw [if_pos ev, if_pos (by simp [ev]), ev, Nat.mul_add, Nat.mul_one, Nat.add_assoc]
            · rw [if_neg ev, if_neg (by simpa using fun z => ev z.symm), Nat.add_zero, q2.at 433 rfl]
              exact h2 v hv
      refine ⟨fun _ => inner 10 0 S' (by omega) hF (fun v hv => ?_), fun c => ?_⟩
      · rw [h v hv]
        congr 1
      · have hh := ih (o + 1) S' (by omega) hF (fun v hv => by
          rw [h v hv, wS, wS, fb_sm_succ, c, Nat.zero_mul, Nat.add_zero])
        rw [nI_succ o] at hh
        exact hh
  have zs : ∀ d j : Nat, ∀ S' : ovS, j + d = 100 → Fr [420, 421, 433] S S' → (∀ v, v < j → S'.1 433 v = 0) → RM G mX12_goWays 4 Q 2 [some (.ref 412), some (.int (nI j)), none] [] S' := by
    intro d
    induction d with
    | zero =>
      intro j S' hj hF h
      have : j = 100 := by omega
      subst this
      exact vX12_goWays_2 ⟨fun _ => key 100 0 S' (by omega) hF (fun v hv => h v hv), fun c => absurd (by decide) c⟩
    | succ d ih =>
      intro j S' hj hF h
      refine vX12_goWays_2 ⟨fun c => absurd ((nI_lt_i (a := 99) (by decide) (by omega)).mp c) (by omega), fun _ => ⟨vp_in_nI (by omega) (by decide), fun S2 e2 => ?_⟩⟩
      rw [nI_ix (n := j) (by omega)] at e2
      have hh := ih (j + 1) S2 (by omega) (by rw [e2]; exact hF.st rfl) (fun v hv => ?_)
      · rw [nI_succ j] at hh
        exact hh
      · rw [e2, stI_1, if_pos rfl]
        by_cases e : v = j
        · rw [if_pos e]
        · rw [if_neg e]
          exact h v (by omega)
  exact eX12_goWays (vX12_goWays_0 (zs 100 0 S (by omega) Fr.rf (fun v hv => absurd hv (by omega))))
theorem hiN0 {l0 : Nat} {least : Int32} (hl0 : l0 < 100) : hiN (fun v => if v = l0 then 1 else 0) least 100 = if nI l0 < least then 0 else 1 := by
  have e : hiN (fun v => if v = l0 then 1 else 0) least 100 = fb_sm (fun v => (if nI l0 < least then 0 else 1) * (if decide (l0 = v) then 1 else 0)) 100 := by
    refine fb_sm_cong (fun v _ => ?_)
    show (if nI v < least then 0 else if v = l0 then 1 else 0) = _
    by_cases h : v = l0
    · subst h
      simp
    · have d : decide (l0 = v) = false := decide_eq_false (fun z => h z.symm)
      simp only [d, if_neg h, Nat.mul_zero, Bool.false_eq_true, if_false]
      split <;> rfl
  rw [e, sm_mul, sm_one, if_pos hl0, Nat.mul_one]
theorem sp_mOdds {x y least p : Int32} (hM : MX S n) (hr : ∀ s, s < n → ∃ j, j ≤ 99 ∧ S.1 27 s = nI j) : Ex G mX12_odds 5 [.ref 412, .int x, .int y, .int least, .int p] S (fun r S1 => ((¬ sIn n x ∨ ¬ sIn 7 y ∨ ¬ sIn 2 p → r = -1) ∧ ∀ s k st l0, s < n → x = nI s → k ≤ 6 → y = nI k → sIn 2 p → st ≤ 99 → S.1 27 s = nI st → l0 < 100 → gLo S s (gSd (S.1 26)) = nI l0 → r = odG (wN S st l0 k).2 k least p) ∧ FJ Lf Jf S S1) := by
  have hn := hM.n5
  obtain ⟨Q, hQ⟩ : ∃ Q : Int32 → ovS → Prop, Q = (fun r S1 => ((¬ sIn n x ∨ ¬ sIn 7 y ∨ ¬ sIn 2 p → r = -1) ∧ ∀ s k st l0, s < n → x = nI s → k ≤ 6 → y = nI k → sIn 2 p → st ≤ 99 → S.1 27 s = nI st → l0 < 100 → gLo S s (gSd (S.1 26)) = nI l0 → r = odG (wN S st l0 k).2 k least p) ∧ FJ Lf Jf S S1) := ⟨_, rfl⟩
  rw [← hQ]
  refine eX12_odds (vX12_odds_0 ⟨_, sp_mIsSoul hM.2.1 hn, fun r3 S2 q => ?_⟩)
  obtain ⟨q1, q2⟩ := q
  subst q2
  refine ⟨fun c => by rw [hQ]; exact ⟨⟨fun _ => rfl, fun s k st l0 hs e => absurd ⟨s, hs, e⟩ (q1.mp c)⟩, FJ.rf⟩, fun c => ⟨_, sp_isIn, fun r9 S8 q => ?_⟩⟩
  have hin : sIn n x := nn_in q1 c
  obtain ⟨p1, p2⟩ := q
  subst p2
  have p1' : r9 = 0 ↔ ¬ sIn 7 y := by
    rw [p1, bI_0, decide_eq_false_iff_not]
    exact not_congr (in_lt (n := 7) (by decide))
  refine ⟨fun d => by rw [hQ]; exact ⟨⟨fun _ => rfl, fun s k st l0 hs e hk z => absurd ⟨k, by omega, z⟩ (p1'.mp d)⟩, FJ.rf⟩, fun d => ⟨_, sp_isIn, fun r15 S14 q => ?_⟩⟩
  have hyin : sIn 7 y := nn_in p1' d
  obtain ⟨p3, p4⟩ := q
  subst p4
  have p3' : r15 = 0 ↔ ¬ sIn 2 p := by
    rw [p3, bI_0, decide_eq_false_iff_not]
    exact not_congr (in_lt (n := 2) (by decide))
  refine ⟨fun e => ?_, fun e => by rw [hQ]; exact ⟨⟨fun _ => rfl, fun s k st l0 _ _ _ _ z => absurd z (p3'.mp e)⟩, FJ.rf⟩⟩
  have hpin : sIn 2 p := nn_in p3' e
  clear c d e p1 p3 q1 p1' p3'
  obtain ⟨s, hs, hx⟩ := hin
  obtain ⟨k, hk, hy⟩ := hyin
  obtain ⟨st, hst9, hst⟩ := hr s hs
  obtain ⟨l0, hl0, hl⟩ := LF_rng S14 (S14.1 25 s) (S14.1 27 s) (S14.1 28 s) (S14.1 24 7) (nI (gSd (S14.1 26)))
  have hl' : gLo S14 s (gSd (S14.1 26)) = nI l0 := hl
  subst hx hy
  have h10 := p10 (k := k) (by omega)
  have fin : ∀ {r : Int32} {S1 : ovS}, r = odG (wN S14 st l0 k).2 k least p → FJ Lf Jf S14 S1 → Q r S1 := by
    intro r S1 e hF
    rw [hQ]
    refine ⟨⟨fun z => z.elim (fun z => absurd ⟨s, hs, rfl⟩ z) (fun z => z.elim (fun z => absurd ⟨k, hk, rfl⟩ z) (fun z => absurd hpin z)), fun s' k' st' l0' g1 g2 g3 g4 _ g5 g6 g7 g8 => ?_⟩, hF⟩
    have e1 := (nI_eq_i (by omega) (by omega)).mp g2
    have e2 := (nI_eq_i (by omega) (by omega)).mp g4
    subst e1 e2
    have e3 : st = st' := (nI_eq_i (by omega) (by omega)).mp (hst.symm.trans g6)
    have e4 : l0 = l0' := (nI_eq_i (by omega) (by omega)).mp (hl'.symm.trans g8)
    subst e3 e4
    exact e
  have hh : hiN (wN S14 st l0 k).2 least 100 ≤ 10 ^ k := by rw [← wN_tot (S := S14) (st := st) hl0 k]; exact hiN_le
  have hg : 0 < Nat.gcd (10 ^ k) (hiN (wN S14 st l0 k).2 least 100) := Nat.gcd_pos_of_pos_left _ (Nat.pow_pos (by decide))
  have hg2 : Nat.gcd (10 ^ k) (hiN (wN S14 st l0 k).2 least 100) ≤ 10 ^ k := Nat.gcd_le_left _ (Nat.pow_pos (by decide))
  have hne : ¬ nI (Nat.gcd (10 ^ k) (hiN (wN S14 st l0 k).2 least 100)) = 0 := nI_ne0 hg (by omega)
  -- powers of ten, and the end
  have L186 : ∀ d i : Nat, ∀ S' : ovS, i + d = k → FJ Lf Jf S14 S' → RM G mX12_odds 5 Q 186 [none, none, some (.int (nI k)), none, some (.int p), some (.int (nI (hiN (wN S14 st l0 k).2 least 100))), some (.int (nI (10 ^ i))), some (.int (nI i))] [] S' := by
    intro d
    induction d with
    | zero =>
      intro i S' hi hF
      have : i = k := by omega
      subst this
      refine vX12_odds_186 ⟨fun _ => ⟨_, sp_mCommon (by omega) (by omega), fun r4 S3 q => ?_⟩, fun c => absurd (Int32.le_refl _) c⟩
      obtain ⟨z1, z2⟩ := q
      subst z2
      rw [z1]
      exact ⟨fun c => ⟨hne, fin (by rw [odG, if_neg c]) hF⟩, fun c => ⟨hne, fin (by rw [odG, if_pos c]) hF⟩⟩
    | succ d ih =>
      intro i S' hi hF
      have h2 := ih (i + 1) S' (by omega) hF
      rw [nI_succ i, Nat.pow_succ] at h2
      refine vX12_odds_186 ⟨fun c => absurd ((nI_le_i (by omega) (by omega)).mp c) (by omega), fun _ => ?_⟩
      rw [show (10 : Int32) = nI 10 from rfl, pk_mul]
      exact h2
  have L148 : ∀ d j : Nat, ∀ S' : ovS, j + d = 100 → FJ Lf Jf S14 S' → (∀ v, v < 100 → S'.1 432 v = nI ((wN S14 st l0 k).2 v)) → RM G mX12_odds 5 Q 148 [some (.ref 412), none, some (.int (nI k)), some (.int least), some (.int p), some (.int (nI (hiN (wN S14 st l0 k).2 least j))), some (.int 1), some (.int (nI j))] [] S' := by
    intro d
    induction d with
    | zero =>
      intro j S' hj hF h
      have : j = 100 := by omega
      subst this
      exact vX12_odds_148 ⟨fun _ => L186 k 0 S' (by omega) hF, fun c => absurd (by decide) c⟩
    | succ d ih =>
      intro j S' hj hF h
      have h2 := ih (j + 1) S' (by omega) hF h
      have es : hiN (wN S14 st l0 k).2 least (j + 1) = hiN (wN S14 st l0 k).2 least j + (if nI j < least then 0 else (wN S14 st l0 k).2 j) := rfl
      rw [nI_succ j, es] at h2
      refine vX12_odds_148 ⟨fun c => absurd ((nI_lt_i (a := 99) (by decide) (by omega)).mp c) (by omega), fun _ => ⟨fun c => ?_, fun c => ⟨vp_in_nI (by omega) (by decide), ?_⟩⟩⟩
      · rw [if_pos c] at h2
        rw [Int32.add_zero]
        exact h2
      · rw [if_neg c] at h2
        rw [nI_ix (n := j) (by omega), h j (by omega), nI_add]
        exact h2
  have L122 : ∀ d i : Nat, ∀ S' : ovS, i + d + 1 = k → FJ Lf Jf S14 S' → S'.1 412 49 = nI (mn (wN S14 st l0 i).1) → (∀ v, v < 100 → S'.1 432 v = nI ((wN S14 st l0 i).2 v)) → RM G mX12_odds 5 Q 122 [some (.ref 412), none, some (.int (nI k)), some (.int least), some (.int p), none, some (.int 1), some (.int (nI (i + 1)))] [] S' := by
    intro d
    induction d with
    | zero =>
      intro i S' hi hF h1 h2
      have ei : k = i + 1 := by omega
      have hb : 10 ^ i ≤ 1000000 := p10 (by omega)
      have gw := sp_goWays (G := G) (hM.fj hF rfl rfl) h1 (mn_le _) (fun v hv => ⟨h2 v hv, by have := wN_le (S := S14) (st := st) hl0 i hv; omega⟩)
      refine vX12_odds_122 ⟨fun _ => ⟨_, gw, fun r4 S3 q => ?_⟩, fun c => absurd (by rw [ei]; exact Int32.le_refl _) c⟩
      obtain ⟨z1, z2, z3⟩ := q
      rw [LN_fr (LF_sm (hF.sm rfl))] at z3
      refine L148 100 0 S3 (by omega) ⟨fun k h1 h2 => ?_, fun j hj => ?_, z1.2.2.trans hF.2.2⟩ (by rw [ei]; exact z3)
      · rw [z1.1 k ?_ h2, hF.1 k h1 h2]
        cases hc : ([420, 421, 432, 433] : List Nat).contains k with
        | false => rfl
        | true =>
          have hall : ∀ k, k ∈ ([420, 421, 432, 433] : List Nat) → Lf.contains k = true := by decide
          have := hall k (by simpa using hc)
          rw [h1] at this
          cases this
      · rw [z1.2.1 j ?_, hF.2.1 j hj]
        cases hc : ([49] : List Nat).contains j with
        | false => rfl
        | true =>
          have : j = 49 := by simpa using hc
          subst this
          cases hj
    | succ d ih =>
      intro i S' hi hF h1 h2
      have hb : 10 ^ i ≤ 1000000 := p10 (by omega)
      have gw := sp_goWays (G := G) (hM.fj hF rfl rfl) h1 (mn_le _) (fun v hv => ⟨h2 v hv, by have := wN_le (S := S14) (st := st) hl0 i hv; omega⟩)
      refine vX12_odds_122 ⟨fun c => absurd ((nI_le_i (by omega) (by omega)).mp c) (by omega), fun _ => ⟨_, gw, fun r4 S3 q => ?_⟩⟩
      obtain ⟨z1, z2, z3⟩ := q
      rw [LN_fr (LF_sm (hF.sm rfl))] at z3
      have h3 := ih (i + 1) S3 (by omega) ⟨fun k h1 h2 => ?_, fun j hj => ?_, z1.2.2.trans hF.2.2⟩ z2 z3
      · rw [nI_succ (i + 1)] at h3
        exact h3
      · rw [z1.1 k ?_ h2, hF.1 k h1 h2]
        cases hc : ([420, 421, 432, 433] : List Nat).contains k with
        | false => rfl
        | true =>
          have hall : ∀ k, k ∈ ([420, 421, 432, 433] : List Nat) → Lf.contains k = true := by decide
          have := hall k (by simpa using hc)
          rw [h1] at this
          cases this
      · rw [z1.2.1 j ?_, hF.2.1 j hj]
        cases hc : ([49] : List Nat).contains j with
        | false => rfl
        | true =>
          have : j = 49 := by simpa using hc
          subst this
          cases hj
  have L63 : 0 < k → ∀ d j : Nat, ∀ S' : ovS, j + d = 100 → FJ Lf Jf S14 S' → farM S' = far0 S14 s → (∀ v, v < j → S'.1 432 v = nI ((wN S14 st l0 0).2 v)) → RM G mX12_odds 5 Q 63 [some (.ref 412), none, some (.int (nI k)), some (.int least), some (.int p), none, some (.int 1), some (.int (nI j))] [] S' := by
    intro hk0 d
    induction d with
    | zero =>
      intro j S' hj hF ha h
      have : j = 100 := by omega
      subst this
      have e49 : S'.1 412 49 = nI st := by rw [← hst]; exact congrArg (fun t => t.1) ha
      refine vX12_odds_63 ⟨fun _ => ?_, fun c => absurd (by decide) c⟩
      rw [e49]
      refine ⟨fun c => ?_, fun c S3 e3 => ?_⟩
      · exact L122 (k - 1) 0 S' (by omega) hF (by rw [e49]; show nI st = nI (mn st); rw [(mn_s st (by omega)).1 c]) h
      · rw [(mn_s st (by omega)).2 c] at e3
        exact L122 (k - 1) 0 S3 (by omega) (by rw [e3]; exact hF.s4 rfl) (by rw [e3, stI_1]; rfl) (fun v hv => by rw [e3, stI_row (by decide)]; exact h v hv)
    | succ d ih =>
      intro j S' hj hF ha h
      obtain ⟨fl, hfr⟩ := (hM.fj hF rfl rfl).2.2.1
      refine vX12_odds_63 ⟨fun c => absurd ((nI_lt_i (a := 99) (by decide) (by omega)).mp c) (by omega), fun _ => ⟨_, sp_farLoaf hfr, fun r6 S5 q => ?_⟩⟩
      obtain ⟨z1, z2⟩ := q
      rw [ha] at z1
      have z1' : r6 = nI l0 := z1.trans hl'
      have i100 : vp_in (nI j) 100 := vp_in_nI (by omega) (by decide)
      have nxt : ∀ S15, S15 = stI S5 432 j (nI (if j = l0 then 1 else 0)) → RM G mX12_odds 5 Q 63 [some (.ref 412), none, some (.int (nI k)), some (.int least), some (.int p), none, some (.int 1), some (.int (nI j + 1))] [] S15 := by
        intro S15 e15
        have h3 := ih (j + 1) S15 (by omega) (by rw [e15]; exact (hF.tr (FJ.of z2 rfl)).st rfl rfl) ?_ (fun v hv => ?_)
        · rw [nI_succ j] at h3
          exact h3
        · have hF15 : Fr [420, 421, 432] S' S15 := by rw [e15]; exact (z2.mono rfl).st rfl
          rw [← ha]
          unfold farM
          rw [hF15.at 412 rfl, LF_sm' (hF15.at 20 rfl) (hF15.at 21 rfl) (hF15.at 22 rfl)]
        · rw [e15, stI_1, if_pos rfl]
          by_cases e : v = j
          · rw [if_pos e, e]
            rfl
          · rw [if_neg e, z2.at 432 rfl]
            exact h v (by omega)
      rw [z1', nI_eq_i (by omega) (by omega), nI_ix (n := j) (by omega)]
      refine ⟨fun c => ⟨_, tr0, fun r12 S11 q => ⟨i100, fun S15 e15 => ?_⟩⟩, fun c => ⟨_, tr1, fun r12 S11 q => ⟨i100, fun S15 e15 => ?_⟩⟩⟩
      · refine nxt S15 ?_
        rw [e15, q.1, q.2, if_neg c]
        rfl
      · refine nxt S15 ?_
        rw [e15, q.1, q.2, if_pos c]
        rfl
  refine ⟨_, sp_loadFar hM hs, fun r21 S20 q => ?_⟩
  obtain ⟨z1, z2⟩ := q
  obtain ⟨fl, hfr⟩ := (hM.fj z1 rfl rfl).2.2.1
  refine ⟨_, sp_farLoaf hfr, fun r26 S25 q => ?_⟩
  obtain ⟨y1, y2⟩ := q
  rw [z2] at y1
  have y1' : r26 = nI l0 := y1.trans hl'
  have F25 : FJ Lf Jf S14 S25 := z1.tr (FJ.of y2 rfl)
  have a25 : farM S25 = far0 S14 s := by
    rw [← z2]
    unfold farM
    rw [y2.at 412 rfl, LF_sm' (y2.at 20 rfl) (y2.at 21 rfl) (y2.at 22 rfl)]
  have k0 : k = 0 → ∀ u, u = hiN (wN S14 st l0 k).2 least 100 → (∃ Q36 : Int32 → ovS → Prop, Ex G mX12_common 1 [.int 1, .int (nI u)] S25 Q36 ∧ ∀ (r38 : Int32) (S37 : ovS), Q36 r38 S37 → ((¬ p = 0 → (¬ r38 = 0 ∧ Q (1 / r38) S37)) ∧ (p = 0 → (¬ r38 = 0 ∧ Q (nI u / r38) S37)))) := by
    intro hk0 u hu
    refine ⟨_, sp_mCommon (a := 1) (b := u) (by decide) (by omega), fun r38 S37 q => ?_⟩
    obtain ⟨o1, o2⟩ := q
    subst o2
    have eg : r38 = nI (Nat.gcd (10 ^ k) (hiN (wN S14 st l0 k).2 least 100)) := by rw [o1, hu, hk0, Nat.pow_zero]
    rw [eg]
    refine ⟨fun c => ⟨hne, fin ?_ F25⟩, fun c => ⟨hne, fin ?_ F25⟩⟩
    · rw [odG, if_neg c, hk0, Nat.pow_zero]
      rfl
    · rw [odG, if_pos c, hu]
  have u0 : k = 0 → hiN (wN S14 st l0 k).2 least 100 = if nI l0 < least then 0 else 1 := fun h => by rw [h]; exact hiN0 hl0
  rw [y1']
  refine ⟨fun c => ⟨_, tr0, fun r32 S31 q => ?_⟩, fun c => ⟨_, tr1, fun r32 S31 q => ?_⟩⟩
  · obtain ⟨o1, o2⟩ := q
    subst o1 o2
    refine ⟨fun e => ?_, fun e => ?_⟩
    · have hk0 : k = 0 := by
        have := (nI_le_i (b := 0) (by omega) (by decide)).mp e
        omega
      have := u0 hk0
      rw [if_pos c] at this
      exact k0 hk0 0 this.symm
    · have hk0 : 0 < k := by
        rcases Nat.eq_zero_or_pos k with z | z
        · exact absurd (by rw [z]; exact Int32.le_refl _) e
        · exact z
      exact L63 hk0 100 0 S31 (by omega) F25 a25 (fun v hv => absurd hv (by omega))
  · obtain ⟨o1, o2⟩ := q
    subst o1 o2
    refine ⟨fun e => ?_, fun e => ?_⟩
    · have hk0 : k = 0 := by
        have := (nI_le_i (b := 0) (by omega) (by decide)).mp e
        omega
      have := u0 hk0
      rw [if_neg c] at this
      exact k0 hk0 1 this.symm
    · have hk0 : 0 < k := by
        rcases Nat.eq_zero_or_pos k with z | z
        · exact absurd (by rw [z]; exact Int32.le_refl _) e
        · exact z
      exact L63 hk0 100 0 S31 (by omega) F25 a25 (fun v hv => absurd hv (by omega))
theorem wN_kl {S1 : ovS} {st l0 : Nat} (h : KP S S1) : ∀ k, wN S1 st l0 k = wN S st l0 k
  | 0 => rfl
  | k + 1 => by rw [wN, wN, wN_kl h k, LN_fr (LF_sm h.sm)]
theorem pb_odds {x y w p : Int32} (hI : IC S n m) (hL : Ly S n) : PB G mX11_odds 7 [.ref 0, .int x, .int y, .int w, .int p] mX12_odds 5 [.ref 412, .int x, .int y, .int w, .int p] S := by
  have hn := hI.n5
  refine PB.q (A := fun r => (¬ sIn n x ∨ ¬ sIn 7 y ∨ ¬ sIn 2 p → r = -1) ∧ ∀ s k st l0, s < n → x = nI s → k ≤ 6 → y = nI k → sIn 2 p → st ≤ 99 → S.1 27 s = nI st → l0 < 100 → gLo S s (gSd (S.1 26)) = nI l0 → r = odG (wN S st l0 k).2 k w p) hI hL ?_ (fun r S1 hA h1 hK => ?_)
  · have h7 := in_lt (x := y) (n := 7) (by decide)
    refine eX11_odds (vX11_odds_0 ⟨_, sp_cIsSoul hI.cx.1 hn, fun r3 S2 q => ?_⟩)
    obtain ⟨q1, q2⟩ := q
    subst q2
    refine ⟨fun c => ⟨⟨fun _ => rfl, fun s k st l0 hs e => absurd ⟨s, hs, e⟩ (q1.mp c)⟩, KL.rf⟩, fun c => ⟨fun d => ⟨⟨fun _ => rfl, fun s k st l0 _ _ hk z => absurd d (h7.mpr ⟨k, by omega, z⟩).1⟩, KL.rf⟩, fun d => ⟨fun e => ⟨⟨fun _ => rfl, fun s k st l0 _ _ hk z => absurd e (h7.mpr ⟨k, by omega, z⟩).2⟩, KL.rf⟩, fun e => ?_⟩⟩⟩
    obtain ⟨s, hs, hx⟩ := nn_in q1 c
    obtain ⟨k, hk, hy⟩ := h7.mp ⟨d, e⟩
    subst hx hy
    obtain ⟨st, hst9, hst⟩ := hI.sty s hs
    obtain ⟨l0, hl0, hl⟩ := LF_rng S2 (S2.1 25 s) (S2.1 27 s) (S2.1 28 s) (S2.1 24 7) (nI (gSd (S2.1 26)))
    have hl' : gLo S2 s (gSd (S2.1 26)) = nI l0 := hl
    have ob := sp_oddsB (G := G) (least := w) (part := p) hI.fok (show s < 5 by omega) (show k ≤ 6 by omega) hst hst9 hl' hl0
    have fin : sIn 2 p → ∀ r12 S11, (r12 = odG (wN S2 st l0 k).2 k w p ∧ Fr [23, 373, 374, 375] S2 S11) → (((¬ sIn n (nI s) ∨ ¬ sIn 7 (nI k) ∨ ¬ sIn 2 p → r12 = -1) ∧ ∀ s' k' st' l0', s' < n → nI s = nI s' → k' ≤ 6 → nI k = nI k' → sIn 2 p → st' ≤ 99 → S2.1 27 s' = nI st' → l0' < 100 → gLo S2 s' (gSd (S2.1 26)) = nI l0' → r12 = odG (wN S2 st' l0' k').2 k' w p) ∧ KL S2 S11) := by
      intro hp r12 S11 q
      refine ⟨⟨fun z => z.elim (fun z => absurd ⟨s, hs, rfl⟩ z) (fun z => z.elim (fun z => absurd ⟨k, hk, rfl⟩ z) (fun z => absurd hp z)), fun s' k' st' l0' g1 g2 g3 g4 _ g5 g6 g7 g8 => ?_⟩, KL.fr q.2 rfl rfl rfl⟩
      have e1 := (nI_eq_i (by omega) (by omega)).mp g2
      have e2 := (nI_eq_i (by omega) (by omega)).mp g4
      subst e1 e2
      have e3 : st = st' := (nI_eq_i (by omega) (by omega)).mp (hst.symm.trans g6)
      have e4 : l0 = l0' := (nI_eq_i (by omega) (by omega)).mp (hl'.symm.trans g8)
      subst e3 e4
      exact q.1
    refine ⟨fun f => ⟨_, ob, fin ⟨0, by decide, f⟩⟩, fun f => ⟨fun g => ⟨_, ob, fin ⟨1, by decide, g⟩⟩, fun g => ⟨⟨fun _ => rfl, fun s' k' st' l0' _ _ _ _ z => ?_⟩, KL.rf⟩⟩⟩
    obtain ⟨i, hi, hz⟩ := z
    have : i = 0 ∨ i = 1 := by omega
    rcases this with rfl | rfl
    · exact absurd hz f
    · exact absurd hz g
  · refine Ex.imp (sp_mOdds h1.1 h1.sty) (fun r2 S2 q => ⟨?_, KL.fj q.2 rfl rfl rfl rfl rfl⟩)
    by_cases c : sIn n x ∧ sIn 7 y ∧ sIn 2 p
    · obtain ⟨⟨s, hs, hx⟩, ⟨k, hk, hy⟩, hp⟩ := c
      obtain ⟨st, hst9, hst⟩ := hI.sty s hs
      obtain ⟨l0, hl0, hl⟩ := LF_rng S (S.1 25 s) (S.1 27 s) (S.1 28 s) (S.1 24 7) (nI (gSd (S.1 26)))
      have hl' : gLo S s (gSd (S.1 26)) = nI l0 := hl
      rw [hA.2 s k st l0 hs hx (by omega) hy hp hst9 hst hl0 hl', q.1.2 s k st l0 hs hx (by omega) hy hp hst9 (by rw [hK.1.at 27 rfl]; exact hst) hl0 (by rw [gLo_sm hK.1.sm, hK.1.at 26 rfl]; exact hl'), wN_kl hK.1]
    · have c' : ¬ sIn n x ∨ ¬ sIn 7 y ∨ ¬ sIn 2 p := by
        by_cases a : sIn n x
        · by_cases b : sIn 7 y
          · exact Or.inr (Or.inr (fun z => c ⟨a, b, z⟩))
          · exact Or.inr (Or.inl b)
        · exact Or.inl a
      rw [hA.1 c', q.1.1 c']
end
