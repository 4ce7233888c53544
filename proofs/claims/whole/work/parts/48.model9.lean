/-! ===== the reference: outlook ===== -/
def FJ (L J : List Nat) (S0 S : ovS) : Prop := (∀ k, L.contains k = false → k ≠ 412 → S.1 k = S0.1 k) ∧ (∀ j, J.contains j = false → S.1 412 j = S0.1 412 j) ∧ S.2 = S0.2
theorem FJ.rf {L J : List Nat} {S : ovS} : FJ L J S S := ⟨fun _ _ _ => rfl, fun _ _ => rfl, rfl⟩
theorem FJ.tr {L J : List Nat} {S S1 S2 : ovS} (h : FJ L J S S1) (h2 : FJ L J S1 S2) : FJ L J S S2 := ⟨fun k hk hc => (h2.1 k hk hc).trans (h.1 k hk hc), fun j hj => (h2.2.1 j hj).trans (h.2.1 j hj), h2.2.2.trans h.2.2⟩
theorem FJ.of {L J M : List Nat} {S S1 : ovS} (h : Fr M S S1) (hM : (M.all fun k => L.contains k && !(k == 412)) = true) : FJ L J S S1 := by
  have h1 : ∀ k, M.contains k = true → L.contains k = true ∧ k ≠ 412 := by
    intro k hk
    have h2 : k ∈ M := by simpa using hk
    have h3 := List.all_eq_true.mp hM k h2
    rw [Bool.and_eq_true] at h3
    exact ⟨h3.1, by simpa using h3.2⟩
  refine ⟨fun k hk _ => h.1 k ?_, fun j _ => congrFun (h.1 412 ?_) j, h.2⟩
  · cases hc : M.contains k with
    | false => rfl
    | true => rw [(h1 k hc).1] at hk; cases hk
  · cases hc : M.contains 412 with
    | false => rfl
    | true => exact absurd rfl (h1 412 hc).2
theorem FJ.at {L J : List Nat} {S0 S : ovS} (h : FJ L J S0 S) (k : Nat) (hk : (L.contains k || k == 412) = false) : S.1 k = S0.1 k := by
  rw [Bool.or_eq_false_iff] at hk
  exact h.1 k hk.1 (by simpa using hk.2)
theorem FJ.sl {L J : List Nat} {S0 S : ovS} (h : FJ L J S0 S) (j : Nat) (hj : J.contains j = false) : S.1 412 j = S0.1 412 j := h.2.1 j hj
theorem FJ.sm {L J : List Nat} {S0 S : ovS} (h : FJ L J S0 S) (hL : ([20, 21, 22, 25, 27, 28, 24].all fun k => !(L.contains k)) = true) : SmL S0 S := by
  have e : ∀ k, k ∈ ([20, 21, 22, 25, 27, 28, 24] : List Nat) → S.1 k = S0.1 k := by
    intro k hk
    have h3 := List.all_eq_true.mp hL k hk
    refine h.1 k (by simpa using h3) (fun e => by subst e; revert hk; decide)
  exact ⟨e 20 (by decide), e 21 (by decide), e 22 (by decide), e 25 (by decide), e 27 (by decide), e 28 (by decide), e 24 (by decide)⟩
theorem FJ.st {L J : List Nat} {S S1 : ovS} (h : FJ L J S S1) {o j : Nat} {v : Int32} (ho : L.contains o = true) (ho2 : (o == 412) = false) : FJ L J S (stI S1 o j v) := by
  have h2 : (412 : Nat) ≠ o := fun e => by subst e; cases ho2
  refine ⟨fun k hk hc => ?_, fun i hi => ?_, h.2.2⟩
  · have hne : k ≠ o := fun e => by subst e; rw [ho] at hk; cases hk
    rw [stI_row hne]
    exact h.1 k hk hc
  · rw [stI_row h2]
    exact h.2.1 i hi
theorem FJ.s4 {L J : List Nat} {S S1 : ovS} (h : FJ L J S S1) {j : Nat} {v : Int32} (hj : J.contains j = true) : FJ L J S (stI S1 412 j v) := by
  refine ⟨fun k hk hc => ?_, fun i hi => ?_, h.2.2⟩
  · rw [stI_row hc]
    exact h.1 k hk hc
  · have hne : i ≠ j := fun e => by subst e; rw [hj] at hi; cases hi
    rw [stI_1, if_pos rfl, if_neg hne]
    exact h.2.1 i hi
abbrev MXr : List Nat := [16, 17, 20, 21, 22, 24, 25, 26, 27, 28, 29, 30, 31, 417, 418, 425, 426]
theorem MX.cg {S0 S : ovS} {n : Nat} (h : MX S0 n) (e : ∀ k, k ∈ MXr → S.1 k = S0.1 k) (e1 : S.1 412 35 = S0.1 412 35) (e2 : S.1 412 18 = S0.1 412 18) (e3 : S.1 412 39 = S0.1 412 39) : MX S n := by
  obtain ⟨h1, h2, ⟨fl, h3⟩, h4, h5, h6, h7⟩ := h
  have hsm : SmL S0 S := ⟨e 20 (by decide), e 21 (by decide), e 22 (by decide), e 25 (by decide), e 27 (by decide), e 28 (by decide), e 24 (by decide)⟩
  refine ⟨⟨by rw [e 16 (by decide)]; exact h1.1, h1.2.1, FOk_sm hsm h1.2.2⟩, by rw [e1]; exact h2, ⟨fl, h3.cg hsm (e 417 (by decide)) (e 418 (by decide)) e2 e3⟩, h4.cg (e 426 (by decide)) (e 25 (by decide)) (e 26 (by decide)) (e 27 (by decide)) (e 28 (by decide)) (e 29 (by decide)) (e 30 (by decide)) (e 31 (by decide)) (e 24 (by decide)), by rw [e 29 (by decide)]; exact h5, by rw [e 26 (by decide)]; exact h6, ?_⟩
  rw [e 425 (by decide), e 17 (by decide)]
  exact h7
theorem MX.fj {L J : List Nat} {S0 S : ovS} {n : Nat} (h : MX S0 n) (hF : FJ L J S0 S) (hL : (MXr.all fun k => !(L.contains k)) = true) (hJ : ([35, 18, 39].all fun k => !(J.contains k)) = true) : MX S n := by
  have e : ∀ k, k ∈ ([35, 18, 39] : List Nat) → S.1 412 k = S0.1 412 k := by
    intro k hk
    have h3 := List.all_eq_true.mp hJ k hk
    exact hF.2.1 k (by simpa using h3)
  refine h.cg (fun k hk => ?_) (e 35 (by decide)) (e 18 (by decide)) (e 39 (by decide))
  have h3 := List.all_eq_true.mp hL k hk
  exact hF.1 k (by simpa using h3) (fun e => by subst e; revert hk; decide)
/-- as MX.fj, of a frame without the reference's object -/
theorem MX.fr {L : List Nat} {S0 S : ovS} {n : Nat} (h : MX S0 n) (hF : Fr L S0 S) (hL : (MXr.all fun k => !(L.contains k)) = true) (h4 : L.contains 412 = false) : MX S n := by
  have e4 := hF.1 412 h4
  refine h.cg (fun k hk => ?_) (by rw [e4]) (by rw [e4]) (by rw [e4])
  have h3 := List.all_eq_true.mp hL k hk
  exact hF.1 k (by simpa using h3)
section
variable {G : ovG} {S : ovS} {n : Nat}
theorem LF_sm' {S0 S : ovS} (h : S.1 20 = S0.1 20) (h1 : S.1 21 = S0.1 21) (h2 : S.1 22 = S0.1 22) : LF S = LF S0 := by
  funext d st o h' sd
  unfold LF
  rw [h, h1, h2]
theorem sp_mLoafNow {s : Nat} {d h : Int32} (hM : MX S n) (hs : s < n) : Ex G mX12_loafNow 4 [.ref 412, .int (nI s), .int d, .int h] S (fun r S1 => r = LF S d (S.1 27 s) (S.1 28 s) h (nI (gSd (S.1 26))) ∧ Fr M5 S S1) := by
  have hn := hM.n5
  refine eX12_loafNow (vX12_loafNow_0 ⟨_, sp_mLoad' hM, fun r3 S2 q => ?_⟩)
  obtain ⟨p1, p2⟩ := q
  have hM2 := hM.fm (FM.of p2 rfl)
  refine ⟨in_add (a := 15) (by omega) (by decide), in_add (a := 20) (by omega) (by decide), _, sp_saidMany hM2 hM.2.2.2.2.2.1 p1, fun r8 S7 q => ?_⟩
  obtain ⟨q1, q2⟩ := q
  subst q1 q2
  obtain ⟨fl, hf⟩ := hM2.2.2.1
  rw [show ((15 : Int32) + nI s).toNatClampNeg = 15 + s from ix_add (a := 15) (by omega), show ((20 : Int32) + nI s).toNatClampNeg = 20 + s from ix_add (a := 20) (by omega), p2.at 426 rfl, hM.2.2.2.1.2.2.2.1 s (by omega), hM.2.2.2.1.2.2.2.2.1 s (by omega)]
  refine ⟨_, sp_mLoaf hf, fun r13 S12 q => ⟨?_, p2.tr (q.2.mono rfl)⟩⟩
  rw [q.1, LF_sm (p2.L rfl)]
theorem sp_mMakes {x w : Int32} {m : Nat} (hM : MX S n) (hm : S.1 412 34 = nI m) (hm5 : m ≤ 5) : Ex G mX12_makes 5 [.ref 412, .int x, .int w] S (fun r S1 => ((¬ sIn n x → r = 0) ∧ ∀ s, s < n → x = nI s → r = nI (mk (fun d => decide (LF S (nI d) (S.1 27 s) (S.1 28 s) (S.1 24 7) (nI (gSd (S.1 26))) = w)) (2 ^ m))) ∧ Fr M5 S S1) := by
  have hn := hM.n5
  have hp := pow5 hm5
  refine eX12_makes (vX12_makes_0 ⟨_, sp_mIsSoul hM.2.1 hn, fun r3 S2 q => ?_⟩)
  obtain ⟨q1, q2⟩ := q
  subst q2
  refine ⟨fun c => ?_, fun c => ⟨⟨fun _ => rfl, fun s hs e => absurd ⟨s, hs, e⟩ (q1.mp c)⟩, Fr.rf⟩⟩
  have hin : sIn n x := Classical.not_not.mp (fun z => c (q1.mpr z))
  obtain ⟨s, hs, hx⟩ := hin
  subst hx
  generalize hP : (fun d => decide (LF S2 (nI d) (S2.1 27 s) (S2.1 28 s) (S2.1 24 7) (nI (gSd (S2.1 26))) = w)) = P
  obtain ⟨Q, hQ⟩ : ∃ Q : Int32 → ovS → Prop, Q = (fun v S8 => ((¬ sIn n (nI s) → v = 0) ∧ ∀ s', s' < n → nI s = nI s' → v = nI (mk (fun d => decide (LF S2 (nI d) (S2.1 27 s') (S2.1 28 s') (S2.1 24 7) (nI (gSd (S2.1 26))) = w)) (2 ^ m))) ∧ Fr M5 S2 S8) := ⟨_, rfl⟩
  rw [← hQ]
  have fin : ∀ {v : Int32} {S8 : ovS}, v = nI (mk P (2 ^ m)) → Fr M5 S2 S8 → Q v S8 := by
    intro v S8 hv h8
    rw [hQ]
    refine ⟨⟨fun z => absurd ⟨s, hs, rfl⟩ z, fun s' hs' e => ?_⟩, h8⟩
    rw [← (nI_eq_i (by omega) (by omega)).mp e, hP]
    exact hv
  have key : ∀ k i : Nat, ∀ S' : ovS, i + k = 2 ^ m → Fr M5 S2 S' → RM G mX12_makes 5 Q 15 [some (.ref 412), some (.int (nI s)), some (.int w), some (.int (nI (mk P i))), some (.int (nI i))] [] S' := by
    intro k
    induction k with
    | zero =>
      intro i S' hi hF
      have : i = 2 ^ m := by omega
      subst this
      refine vX12_makes_15 ⟨fun _ => fin rfl hF, fun c => absurd ?_ c⟩
      rw [hF.at 412 rfl, hm, sh1 m (by omega)]
      exact Int32.le_refl _
    | succ k ih =>
      intro i S' hi hF
      have hM' := hM.fm (FM.of hF rfl)
      have ih' := ih (i + 1)
      rw [nI_succ i] at ih'
      refine vX12_makes_15 ⟨fun c => ?_, fun _ => ⟨_, sp_mLoafNow hM' hs, fun r4 S3 q => ?_⟩⟩
      · rw [hF.at 412 rfl, hm, sh1 m (by omega), nI_le_i (by omega) (by omega)] at c
        omega
      · obtain ⟨p1, p2⟩ := q
        have e35 : S'.1 426 35 = S2.1 24 7 := by rw [hF.at 426 rfl]; exact hM.2.2.2.1.2.2.2.2.2.2.2.1
        rw [LF_sm (hF.L rfl), hF.at 27 rfl, hF.at 28 rfl, hF.at 26 rfl, e35] at p1
        have hPi : P i = decide (r4 = w) := by rw [← hP, p1]
        refine ⟨fun d => ⟨_, tr0, fun r10 S9 q => ?_⟩, fun d => ⟨_, tr1, fun r10 S9 q => ?_⟩⟩
        · obtain ⟨q1, q2⟩ := q
          subst q1 q2
          rw [mk_f (i := i) (by rw [hPi]; simp [d])] at ih'
          rw [or_z0]
          exact ih' _ (by omega) (hF.tr p2)
        · obtain ⟨q1, q2⟩ := q
          subst q1 q2
          rw [← mk_t (i := i) (by omega) (by rw [hPi]; simp [d])] at ih'
          exact ih' _ (by omega) (hF.tr p2)
  exact key (2 ^ m) 0 S2 (by omega) Fr.rf
theorem sp_mWarm {x w : Int32} (hM : MX S n) : Ex G mX12_warm 5 [.ref 412, .int x, .int w] S (fun r S1 => ((¬ sIn n x → r = -1) ∧ ∀ s, s < n → x = nI s → r = nI (mk (fun h => decide (¬ LF S (S.1 25 s) (S.1 27 s) (S.1 28 s) (nI h) (nI (gSd (S.1 26))) < w)) 10)) ∧ Fr M5 S S1) := by
  have hn := hM.n5
  refine eX12_warm (vX12_warm_0 ⟨_, sp_mIsSoul hM.2.1 hn, fun r3 S2 q => ?_⟩)
  obtain ⟨q1, q2⟩ := q
  subst q2
  refine ⟨fun c => ?_, fun c => ⟨⟨fun _ => rfl, fun s hs e => absurd ⟨s, hs, e⟩ (q1.mp c)⟩, Fr.rf⟩⟩
  have hin : sIn n x := Classical.not_not.mp (fun z => c (q1.mpr z))
  obtain ⟨s, hs, hx⟩ := hin
  subst hx
  generalize hP : (fun h => decide (¬ LF S2 (S2.1 25 s) (S2.1 27 s) (S2.1 28 s) (nI h) (nI (gSd (S2.1 26))) < w)) = P
  obtain ⟨Q, hQ⟩ : ∃ Q : Int32 → ovS → Prop, Q = (fun v S8 => ((¬ sIn n (nI s) → v = -1) ∧ ∀ s', s' < n → nI s = nI s' → v = nI (mk (fun h => decide (¬ LF S2 (S2.1 25 s') (S2.1 27 s') (S2.1 28 s') (nI h) (nI (gSd (S2.1 26))) < w)) 10)) ∧ Fr M5 S2 S8) := ⟨_, rfl⟩
  rw [← hQ]
  have fin : ∀ {v : Int32} {S8 : ovS}, v = nI (mk P 10) → Fr M5 S2 S8 → Q v S8 := by
    intro v S8 hv h8
    rw [hQ]
    refine ⟨⟨fun z => absurd ⟨s, hs, rfl⟩ z, fun s' hs' e => ?_⟩, h8⟩
    rw [← (nI_eq_i (by omega) (by omega)).mp e, hP]
    exact hv
  have key : ∀ k i : Nat, ∀ S' : ovS, i + k = 10 → Fr M5 S2 S' → RM G mX12_warm 5 Q 15 [some (.ref 412), some (.int (nI s)), some (.int w), some (.int (nI (mk P i))), some (.int (nI i))] [] S' := by
    intro k
    induction k with
    | zero =>
      intro i S' hi hF
      have : i = 10 := by omega
      subst this
      exact vX12_warm_15 ⟨fun _ => fin rfl hF, fun c => absurd (by decide) c⟩
    | succ k ih =>
      intro i S' hi hF
      have hM' := hM.fm (FM.of hF rfl)
      have ih' := ih (i + 1)
      rw [nI_succ i] at ih'
      refine vX12_warm_15 ⟨fun c => absurd ((nI_lt_i (a := 9) (by decide) (by omega)).mp c) (by omega), fun _ => ⟨vp_in_nI (by omega) (by decide), _, sp_mLoafNow hM' hs, fun r4 S3 q => ?_⟩⟩
      obtain ⟨p1, p2⟩ := q
      have e25 : S'.1 426 (nI s).toNatClampNeg = S2.1 25 s := by rw [nI_ix (n := s) (by omega), hF.at 426 rfl]; exact hM.2.2.2.1.1 s (by omega)
      rw [LF_sm (hF.L rfl), hF.at 27 rfl, hF.at 28 rfl, hF.at 26 rfl, e25] at p1
      have hPi : P i = decide (¬ r4 < w) := by rw [← hP, p1]
      refine ⟨fun d => ⟨_, tr0, fun r10 S9 q => ?_⟩, fun d => ⟨_, tr1, fun r10 S9 q => ?_⟩⟩
      · obtain ⟨q1, q2⟩ := q
        subst q1 q2
        rw [mk_f (i := i) (by rw [hPi]; exact decide_eq_false (fun z => z d))] at ih'
        rw [or_z0]
        exact ih' _ (by omega) (hF.tr p2)
      · obtain ⟨q1, q2⟩ := q
        subst q1 q2
        rw [← mk_t (i := i) (by omega) (by rw [hPi]; exact decide_eq_true d)] at ih'
        exact ih' _ (by omega) (hF.tr p2)
  exact key 10 0 S2 (by omega) Fr.rf
theorem fd_inv {s : Nat} {w : Int32} : ∀ v, v ≤ 32 → fvF (stFd S s w) (-1) v = -1 ∨ ∃ b, b < 32 ∧ fvF (stFd S s w) (-1) v = nI b
  | 0, _ => Or.inl rfl
  | v + 1, h => by
    rw [fvF, stFd]
    split
    · exact Or.inr ⟨v, by omega, rfl⟩
    · exact fd_inv v (by omega)
def waR (b x : Int32) : Int32 := if b = -1 then -1 else if x = 0 then bcF b else b
theorem sp_mWants {x w y : Int32} {m : Nat} (hM : MX S n) (hm : S.1 412 34 = nI m) (hm5 : m ≤ 5) : Ex G mX12_wants 5 [.ref 412, .int x, .int w, .int y] S (fun r S1 => ((¬ sIn n x ∨ ¬ (y = 0 ∨ y = 1) → r = -1) ∧ ∀ s, s < n → x = nI s → (y = 0 ∨ y = 1) → r = waR (fvF (stFd S s w) (-1) (2 ^ m)) y) ∧ Fr M5 S S1) := by
  have hn := hM.n5
  have hp := pow5 hm5
  refine eX12_wants (vX12_wants_0 ⟨_, sp_mIsSoul hM.2.1 hn, fun r3 S2 q => ?_⟩)
  obtain ⟨q1, q2⟩ := q
  subst q2
  refine ⟨fun c => ⟨⟨fun _ => rfl, fun s hs e => absurd ⟨s, hs, e⟩ (q1.mp c)⟩, Fr.rf⟩, fun c => ⟨_, sp_isIn, fun r9 S8 q => ?_⟩⟩
  have hin : sIn n x := Classical.not_not.mp (fun z => c (q1.mpr z))
  obtain ⟨s, hs, hx⟩ := hin
  obtain ⟨p1, p2⟩ := q
  subst p2
  have hy : (¬ y < 0 ∧ ¬ 1 < y) ↔ (y = 0 ∨ y = 1) := by
    rw [show (1 : Int32) = nI 2 - 1 by decide, in_lt (by decide)]
    constructor
    · rintro ⟨i, h1, h2⟩
      have : i = 0 ∨ i = 1 := by omega
      rcases this with rfl | rfl
      · exact Or.inl h2
      · exact Or.inr h2
    · rintro (h | h)
      · exact ⟨0, by decide, h⟩
      · exact ⟨1, by decide, h⟩
  subst hx
  rw [p1, bI_0, decide_eq_false_iff_not, hy]
  refine ⟨fun d => ?_, fun d => ⟨⟨fun _ => rfl, fun s' hs' e z => absurd z d⟩, Fr.rf⟩⟩
  have d' := Classical.not_not.mp d
  obtain ⟨Q, hQ⟩ : ∃ Q : Int32 → ovS → Prop, Q = (fun v S9 => ((¬ sIn n (nI s) ∨ ¬ (y = 0 ∨ y = 1) → v = -1) ∧ ∀ s', s' < n → nI s = nI s' → (y = 0 ∨ y = 1) → v = waR (fvF (stFd S8 s' w) (-1) (2 ^ m)) y) ∧ Fr M5 S8 S9) := ⟨_, rfl⟩
  rw [← hQ]
  have fin : ∀ {v : Int32} {S9 : ovS}, v = waR (fvF (stFd S8 s w) (-1) (2 ^ m)) y → Fr M5 S8 S9 → Q v S9 := by
    intro v S9 hv h9
    rw [hQ]
    refine ⟨⟨fun z => z.elim (fun z => absurd ⟨s, hs, rfl⟩ z) (fun z => absurd d' z), fun s' hs' e _ => ?_⟩, h9⟩
    rw [← (nI_eq_i (by omega) (by omega)).mp e]
    exact hv
  have key : ∀ k i : Nat, ∀ S' : ovS, i + k = 2 ^ m → Fr M5 S8 S' → RM G mX12_wants 5 Q 25 [some (.ref 412), some (.int (nI s)), some (.int w), some (.int y), some (.int (fvF (stFd S8 s w) (-1) i)), some (.int (nI i))] [] S' := by
    intro k
    induction k with
    | zero =>
      intro i S' hi hF
      have : i = 2 ^ m := by omega
      subst this
      have hin := fd_inv (S := S8) (s := s) (w := w) (2 ^ m) hp
      generalize hb : fvF (stFd S8 s w) (-1) (2 ^ m) = b at hin ⊢
      refine vX12_wants_25 ⟨fun _ => ⟨fun e => ?_, fun e => ?_⟩, fun e => absurd ?_ e⟩
      · rcases hin with h | ⟨bb, hbb, h⟩
        · rw [h] at e
          exact absurd e (by decide)
        · have hne : ¬ b = -1 := by
            rw [h]
            intro z
            have := nI_neg (c := bb) (by omega)
            rw [z] at this
            exact this (by decide)
          refine ⟨fun f => fin (by rw [hb, waR, if_neg hne, if_neg f]) hF, fun f => ?_⟩
          rw [h]
          refine ⟨_, sp_members hbb, fun r6 S5 q => ?_⟩
          obtain ⟨z1, z2⟩ := q
          subst z2
          exact fin (by rw [hb, waR, if_neg hne, if_pos f, z1, h]) hF
      · rcases hin with h | ⟨bb, hbb, h⟩
        · exact fin (by rw [hb, waR, if_pos h]) hF
        · rw [h] at e
          exact absurd ((nI_le_i (a := 0) (by decide) (by omega)).mpr (Nat.zero_le _)) e
      · rw [hF.at 412 rfl, hm, sh1 m (by omega)]
        exact Int32.le_refl _
    | succ k ih =>
      intro i S' hi hF
      have hM' := hM.fm (FM.of hF rfl)
      have ih' := ih (i + 1)
      have hs' : fvF (stFd S8 s w) (-1) (i + 1) = stFd S8 s w (fvF (stFd S8 s w) (-1) i) i := rfl
      rw [hs', nI_succ i] at ih'
      have hin := fd_inv (S := S8) (s := s) (w := w) i (by omega)
      generalize fvF (stFd S8 s w) (-1) i = b at hin ih' ⊢
      refine vX12_wants_25 ⟨fun c => ?_, fun _ => ⟨_, sp_mLoafNow hM' hs, fun r4 S3 q => ?_⟩⟩
      · rw [hF.at 412 rfl, hm, sh1 m (by omega), nI_le_i (by omega) (by omega)] at c
        omega
      · obtain ⟨z1, z2⟩ := q
        have e35 : S'.1 426 35 = S8.1 24 7 := by rw [hF.at 426 rfl]; exact hM.2.2.2.1.2.2.2.2.2.2.2.1
        rw [LF_sm (hF.L rfl), hF.at 27 rfl, hF.at 28 rfl, hF.at 26 rfl, e35] at z1
        have h3 := hF.tr z2
        rw [z1]
        refine ⟨fun e => ?_, fun e => ?_⟩
        · rw [stFd, if_neg (fun z => z.2 e)] at ih'
          exact ih' _ (by omega) h3
        · rcases hin with h | ⟨bb, hbb, h⟩
          · rw [stFd, if_pos ⟨Or.inl h, e⟩] at ih'
            exact ⟨fun _ => ih' _ (by omega) h3, fun z => absurd (by rw [h]; decide) z⟩
          · have hnn : ¬ nI bb < 0 := nI_neg (by omega)
            have hne : ¬ nI bb = -1 := fun z => hnn (by rw [z]; decide)
            rw [h] at ih' ⊢
            refine ⟨fun z => absurd z hnn, fun _ => ⟨_, sp_members (by omega), fun r18 S17 q => ?_⟩⟩
            obtain ⟨y1, y2⟩ := q
            subst y1 y2
            refine ⟨_, sp_members hbb, fun r23 S22 q => ?_⟩
            obtain ⟨y1, y2⟩ := q
            subst y1 y2
            refine ⟨fun f => ?_, fun f => ?_⟩
            · rw [stFd, if_neg (fun z => z.1.elim hne (fun y => y f))] at ih'
              exact ih' _ (by omega) h3
            · rw [stFd, if_pos ⟨Or.inr f, e⟩] at ih'
              exact ih' _ (by omega) h3
  exact key (2 ^ m) 0 S8 (by omega) Fr.rf
abbrev Lf : List Nat := [420, 421, 427, 428, 429, 432, 433]
abbrev Jf : List Nat := [49, 50, 51, 52, 53, 54]
def farM (S : ovS) : Int32 × Int32 × Int32 := (S.1 412 49, S.1 412 52, LF S (S.1 412 53) (S.1 412 49) (S.1 412 50) (S.1 412 51) (S.1 412 54))
theorem sp_loadFar {s : Nat} (hM : MX S n) (hs : s < n) : Ex G mX12_loadFar 3 [.ref 412, .int (nI s)] S (fun _ S1 => FJ Lf Jf S S1 ∧ farM S1 = far0 S s) := by
  have hn := hM.n5
  refine eX12_loadFar (vX12_loadFar_0 ⟨_, sp_mLoad' hM, fun r3 S2 q => ?_⟩)
  obtain ⟨p1, p2⟩ := q
  obtain ⟨a1, a2, a3, a4, a5, a6, a7, a8, a9, a10⟩ := hM.2.2.2.1
  have i15 : vp_in ((15 : Int32) + nI s) 40 := in_add (a := 15) (by omega) (by decide)
  have i20 : vp_in ((20 : Int32) + nI s) 40 := in_add (a := 20) (by omega) (by decide)
  have x15 : ((15 : Int32) + nI s).toNatClampNeg = 15 + s := ix_add (a := 15) (by omega)
  have x20 : ((20 : Int32) + nI s).toNatClampNeg = 20 + s := ix_add (a := 20) (by omega)
  have e26 := p2.at 426 rfl
  refine ⟨i15, fun S6 e6 => ⟨i20, fun S7 e7 S8 e8 S9 e9 => ⟨vp_in_nI (by omega) (by decide), fun S10 e10 => ?_⟩⟩⟩
  rw [x15, e26, a4 s (by omega)] at e6
  have f6 : S6.1 426 = S.1 426 := by rw [e6, stI_row (by decide), e26]
  rw [x20, f6, a5 s (by omega)] at e7
  have f7 : S7.1 426 = S.1 426 := by rw [e7, stI_row (by decide), f6]
  rw [f7, a8] at e8
  have f8 : S8.1 426 = S.1 426 := by rw [e8, stI_row (by decide), f7]
  rw [f8, a9] at e9
  have f9 : S9.1 426 = S.1 426 := by rw [e9, stI_row (by decide), f8]
  rw [f9, nI_ix (n := s) (by omega), a1 s (by omega)] at e10
  have hF10 : FJ Lf Jf S S10 := by
    subst e10 e9 e8 e7 e6
    exact (((((FJ.of p2 rfl).s4 rfl).s4 rfl).s4 rfl).s4 rfl).s4 rfl
  have hM10 := hM.fj hF10 rfl rfl
  have hS10 : SY S10 n (S.1 26) := by
    intro i hi
    rw [e10, stI_row (by decide), e9, stI_row (by decide), e8, stI_row (by decide), e7, stI_row (by decide), e6, stI_row (by decide)]
    exact p1 i hi
  refine ⟨_, sp_saidMany hM10 hM.2.2.2.2.2.1 hS10, fun r13 S12 q S16 e16 => ?_⟩
  obtain ⟨q1, q2⟩ := q
  subst q1 q2
  have hF16 : FJ Lf Jf S S16 := by rw [e16]; exact hF10.s4 rfl
  refine ⟨hF16, ?_⟩
  have g49 : S16.1 412 49 = S.1 27 s := by subst e16 e10 e9 e8 e7 e6; simp [stI_1]
  have g50 : S16.1 412 50 = S.1 28 s := by subst e16 e10 e9 e8 e7; simp [stI_1]
  have g51 : S16.1 412 51 = S.1 24 7 := by subst e16 e10 e9 e8; simp [stI_1]
  have g52 : S16.1 412 52 = S.1 24 8 := by subst e16 e10 e9; simp [stI_1]
  have g53 : S16.1 412 53 = S.1 25 s := by subst e16 e10; simp [stI_1]
  have g54 : S16.1 412 54 = nI (gSd (S.1 26)) := by subst e16; simp [stI_1]
  rw [farM, far0, g49, g50, g51, g52, g53, g54, gLo, LF_sm (hF16.sm rfl)]
theorem sp_farLoaf {fl : Nat} (hf : FR S fl) : Ex G mX12_farLoaf 4 [.ref 412] S (fun r S1 => r = (farM S).2.2 ∧ Fr [420, 421] S S1) := by
  refine eX12_farLoaf (vX12_farLoaf_0 ⟨_, sp_mLoaf hf, fun r3 S2 q => ?_⟩)
  exact q
theorem om99 {j : Nat} (h : j ≤ 99) : omin 99 (nI j + 1) = if 99 ≤ nI j then nI j else nI j + 1 := by
  have : ∀ j, j < 100 → omin 99 (nI j + 1) = if 99 ≤ nI j then nI j else nI j + 1 := by decide +kernel
  exact this j (by omega)
theorem om99r {j : Nat} (h : j ≤ 99) : ∃ j', j' ≤ 99 ∧ omin 99 (nI j + 1) = nI j' := by
  rw [om99 h]
  split
  · exact ⟨j, h, rfl⟩
  · rename_i c
    refine ⟨j + 1, ?_, by rw [nI_succ]⟩
    rw [show (99 : Int32) = nI 99 from rfl, nI_le_i (by decide) (by omega)] at c
    omega
theorem sp_goBread {S0 : ovS} {a : Int32 × Int32 × Int32} (hM : MX S0 n) (hF : FJ Lf Jf S0 S) (ha : farM S = a) (hr : ∃ j, j ≤ 99 ∧ a.1 = nI j) : Ex G mX12_goBread 5 [.ref 412] S (fun _ S1 => FJ Lf Jf S0 S1 ∧ farM S1 = farS S0 a) := by
  have hM1 := hM.fj hF rfl rfl
  obtain ⟨fl, hf⟩ := hM1.2.2.1
  refine eX12_goBread (vX12_goBread_0 ⟨_, sp_farLoaf hf, fun r3 S2 q => ?_⟩)
  obtain ⟨p1, p2⟩ := q
  rw [ha] at p1
  have hF2 : FJ Lf Jf S0 S2 := hF.tr (FJ.of p2 rfl)
  obtain ⟨j, hj, ej⟩ := hr
  have e49 : S2.1 412 49 = a.1 := by rw [p2.at 412 rfl, ← ha]; rfl
  have e52 : S2.1 412 52 = a.2.1 := by rw [p2.at 412 rfl, ← ha]; rfl
  intro S6 e6
  have e649 : S6.1 412 49 = a.1 := by rw [e6, stI_1, if_pos rfl, if_neg (by decide), e49]
  rw [e649]
  have ho : omin 99 (a.1 + 1) = if 99 ≤ a.1 then a.1 else a.1 + 1 := by rw [ej]; exact om99 hj
  refine ⟨fun c S8 e8 S9 e9 S10 e10 S11 e11 => ?_, fun c S8' e8' S8 e8 S9 e9 S10 e10 S11 e11 => ?_⟩
  · rw [if_pos c] at ho
    have hF11 : FJ Lf Jf S0 S11 := by
      subst e11 e10 e9 e8 e6
      exact ((((hF2.s4 rfl).s4 rfl).s4 rfl).s4 rfl).s4 rfl
    refine ⟨hF11, ?_⟩
    have g49 : S11.1 412 49 = a.1 := by subst e11 e10 e9 e8 e6; simp [stI_1, e49]
    have g50 : S11.1 412 50 = a.2.2 := by subst e11 e10 e9 e8 e6; simp [stI_1, p1]
    have g52 : S11.1 412 52 = orem (a.2.1 * 137 + 71) 1000 := by subst e11 e10 e9 e8 e6; simp [stI_1, e52]
    have g51 : S11.1 412 51 = orem (orem (a.2.1 * 137 + 71) 1000) 10 := by subst e11 e10 e9 e8 e6; simp [stI_1, e52]
    have g53 : S11.1 412 53 = 0 := by subst e11 e10 e9 e8; simp [stI_1]
    have g54 : S11.1 412 54 = 0 := by subst e11 e10 e9; simp [stI_1]
    rw [farM, farS, g49, g50, g51, g52, g53, g54, LF_sm (hF11.sm rfl), ho]
  · rw [if_neg c] at ho
    have hF11 : FJ Lf Jf S0 S11 := by
      subst e11 e10 e9 e8 e8' e6
      exact (((((hF2.s4 rfl).s4 rfl).s4 rfl).s4 rfl).s4 rfl).s4 rfl
    refine ⟨hF11, ?_⟩
    have g49 : S11.1 412 49 = a.1 + 1 := by subst e11 e10 e9 e8 e8' e6; simp [stI_1]
    have g50 : S11.1 412 50 = a.2.2 := by subst e11 e10 e9 e8 e8' e6; simp [stI_1, p1]
    have g52 : S11.1 412 52 = orem (a.2.1 * 137 + 71) 1000 := by subst e11 e10 e9 e8 e8' e6; simp [stI_1, e52]
    have g51 : S11.1 412 51 = orem (orem (a.2.1 * 137 + 71) 1000) 10 := by subst e11 e10 e9 e8 e8' e6; simp [stI_1, e52]
    have g53 : S11.1 412 53 = 0 := by subst e11 e10 e9 e8; simp [stI_1]
    have g54 : S11.1 412 54 = 0 := by subst e11 e10 e9; simp [stI_1]
    rw [farM, farS, g49, g50, g51, g52, g53, g54, LF_sm (hF11.sm rfl), ho]
theorem farN_r {s : Nat} (hr : ∃ j, j ≤ 99 ∧ S.1 27 s = nI j) : ∀ k, ∃ j, j ≤ 99 ∧ (farN S s k).1 = nI j
  | 0 => hr
  | k + 1 => by
    obtain ⟨j, hj, e⟩ := farN_r hr k
    have : (farN S s (k + 1)).1 = omin 99 ((farN S s k).1 + 1) := rfl
    rw [this, e]
    exact om99r hj
theorem in60 {y : Int32} : (¬ y < 0 ∧ ¬ 60 < y) ↔ sIn 61 y := in_lt (n := 61) (by decide)
theorem sp_mWill {x y : Int32} (hM : MX S n) (hr : ∀ s, s < n → ∃ j, j ≤ 99 ∧ S.1 27 s = nI j) : Ex G mX12_will 6 [.ref 412, .int x, .int y] S (fun r S1 => ((¬ sIn n x ∨ ¬ sIn 61 y → r = -1) ∧ ∀ s k, s < n → x = nI s → k ≤ 60 → y = nI k → r = (farN S s k).2.2) ∧ FJ Lf Jf S S1) := by
  have hn := hM.n5
  refine eX12_will (vX12_will_0 ⟨_, sp_mIsSoul hM.2.1 hn, fun r3 S2 q => ?_⟩)
  obtain ⟨q1, q2⟩ := q
  subst q2
  refine ⟨fun c => ⟨⟨fun _ => rfl, fun s k hs e => absurd ⟨s, hs, e⟩ (q1.mp c)⟩, FJ.rf⟩, fun c => ⟨_, sp_isIn, fun r9 S8 q => ?_⟩⟩
  have hin : sIn n x := Classical.not_not.mp (fun z => c (q1.mpr z))
  obtain ⟨s, hs, hx⟩ := hin
  obtain ⟨p1, p2⟩ := q
  subst p2 hx
  rw [p1, bI_0, decide_eq_false_iff_not, in60]
  refine ⟨fun d => ?_, fun d => ⟨⟨fun _ => rfl, fun s' k hs' e hk z => absurd ⟨k, by omega, z⟩ d⟩, FJ.rf⟩⟩
  have hyin := Classical.not_not.mp d
  obtain ⟨k, hk, hy⟩ := hyin
  subst hy
  refine ⟨_, sp_loadFar hM hs, fun r15 S14 q => ?_⟩
  have key : ∀ d i : Nat, ∀ S' : ovS, i + d = k → FJ Lf Jf S8 S' → farM S' = farN S8 s i → RM G mX12_will 6 (fun r S1 => ((¬ sIn n (nI s) ∨ ¬ sIn 61 (nI k) → r = -1) ∧ ∀ s' k', s' < n → nI s = nI s' → k' ≤ 60 → nI k = nI k' → r = (farN S8 s' k').2.2) ∧ FJ Lf Jf S8 S1) 27 [some (.ref 412), none, some (.int (nI k)), some (.int (nI i))] [] S' := by
    intro d
    induction d with
    | zero =>
      intro i S' hi hF ha
      have : i = k := by omega
      subst this
      obtain ⟨fl, hf⟩ := (hM.fj hF rfl rfl).2.2.1
      refine vX12_will_27 ⟨fun _ => ⟨_, sp_farLoaf hf, fun r4 S3 q => ⟨⟨fun z => z.elim (fun z => absurd ⟨s, hs, rfl⟩ z) (fun z => absurd ⟨i, hk, rfl⟩ z), fun s' k' hs' e hk' e' => ?_⟩, hF.tr (FJ.of q.2 rfl)⟩⟩, fun c => absurd (Int32.le_refl _) c⟩
      rw [← (nI_eq_i (by omega) (by omega)).mp e, ← (nI_eq_i (by omega) (by omega)).mp e', q.1, ha]
    | succ d ih =>
      intro i S' hi hF ha
      refine vX12_will_27 ⟨fun c => absurd ((nI_le_i (by omega) (by omega)).mp c) (by omega), fun _ => ⟨_, sp_goBread hM hF ha (farN_r (hr s hs) i), fun r9 S9 q => ?_⟩⟩
      have := ih (i + 1) S9 (by omega) q.1 q.2
      rw [nI_succ i] at this
      exact this
  exact key k 0 S14 (by omega) q.1 q.2
theorem sp_mSoonest {x w : Int32} (hM : MX S n) (hr : ∀ s, s < n → ∃ j, j ≤ 99 ∧ S.1 27 s = nI j) : Ex G mX12_soonest 6 [.ref 412, .int x, .int w] S (fun r S1 => ((¬ sIn n x → r = -1) ∧ ∀ s, s < n → x = nI s → ((∃ k, k ≤ 60 ∧ r = nI k ∧ ¬ (farN S s k).2.2 < w ∧ ∀ q, q < k → (farN S s q).2.2 < w) ∨ (r = -1 ∧ ∀ q, q ≤ 60 → (farN S s q).2.2 < w))) ∧ FJ Lf Jf S S1) := by
  have hn := hM.n5
  refine eX12_soonest (vX12_soonest_0 ⟨_, sp_mIsSoul hM.2.1 hn, fun r3 S2 q => ?_⟩)
  obtain ⟨q1, q2⟩ := q
  subst q2
  refine ⟨fun c => ?_, fun c => ⟨⟨fun _ => rfl, fun s hs e => absurd ⟨s, hs, e⟩ (q1.mp c)⟩, FJ.rf⟩⟩
  have hin : sIn n x := Classical.not_not.mp (fun z => c (q1.mpr z))
  obtain ⟨s, hs, hx⟩ := hin
  subst hx
  refine ⟨_, sp_loadFar hM hs, fun r15 S14 q => ?_⟩
  obtain ⟨Q, hQ⟩ : ∃ Q : Int32 → ovS → Prop, Q = (fun r S1 => ((¬ sIn n (nI s) → r = -1) ∧ ∀ s', s' < n → nI s = nI s' → ((∃ k, k ≤ 60 ∧ r = nI k ∧ ¬ (farN S2 s' k).2.2 < w ∧ ∀ q, q < k → (farN S2 s' q).2.2 < w) ∨ (r = -1 ∧ ∀ q, q ≤ 60 → (farN S2 s' q).2.2 < w))) ∧ FJ Lf Jf S2 S1) := ⟨_, rfl⟩
  rw [← hQ]
  have fin : ∀ {r : Int32} {S1 : ovS}, ((∃ k, k ≤ 60 ∧ r = nI k ∧ ¬ (farN S2 s k).2.2 < w ∧ ∀ q, q < k → (farN S2 s q).2.2 < w) ∨ (r = -1 ∧ ∀ q, q ≤ 60 → (farN S2 s q).2.2 < w)) → FJ Lf Jf S2 S1 → Q r S1 := by
    intro r S1 h1 h2
    rw [hQ]
    refine ⟨⟨fun z => absurd ⟨s, hs, rfl⟩ z, fun s' hs' e => ?_⟩, h2⟩
    rw [← (nI_eq_i (by omega) (by omega)).mp e]
    exact h1
  have key : ∀ d i : Nat, ∀ S' : ovS, i + d = 61 → FJ Lf Jf S2 S' → farM S' = farN S2 s i → (∀ q, q < i → (farN S2 s q).2.2 < w) → RM G mX12_soonest 6 Q 17 [some (.ref 412), none, some (.int w), some (.int (nI i))] [] S' := by
    intro d
    induction d with
    | zero =>
      intro i S' hi hF ha hl
      have : i = 61 := by omega
      subst this
      exact vX12_soonest_17 ⟨fun _ => fin (Or.inr ⟨rfl, fun q hq => hl q (by omega)⟩) hF, fun c => absurd (by decide) c⟩
    | succ d ih =>
      intro i S' hi hF ha hl
      obtain ⟨fl, hf⟩ := (hM.fj hF rfl rfl).2.2.1
      refine vX12_soonest_17 ⟨fun c => absurd ((nI_lt_i (a := 60) (by decide) (by omega)).mp c) (by omega), fun _ => ⟨_, sp_farLoaf hf, fun r4 S3 q => ?_⟩⟩
      obtain ⟨z1, z2⟩ := q
      rw [ha] at z1
      have hF3 := hF.tr (FJ.of (L := Lf) (J := Jf) z2 rfl)
      have ha3 : farM S3 = farN S2 s i := by
        rw [← ha, farM, farM, z2.at 412 rfl, LF_sm (z2.L rfl)]
      rw [z1]
      refine ⟨fun c => ⟨_, sp_goBread hM hF3 ha3 (farN_r (hr s hs) i), fun r10 S9 q => ?_⟩, fun c => fin (Or.inl ⟨i, by omega, rfl, c, hl⟩) hF3⟩
      have := ih (i + 1) S9 (by omega) q.1 q.2 (fun q hq => by
        by_cases e : q = i
        · subst e; exact c
        · exact hl q (by omega))
      rw [nI_succ i] at this
      exact this
  exact key 61 0 S14 (by omega) q.1 q.2 (fun q hq => absurd hq (by omega))
end
