/-! ===== the Outlook ===== -/
/-- the class's VILLAGE has m DEEDS -/
def CD (S : ovS) (m : Nat) : Prop := S.1 16 1 = nI m ∧ m ≤ 5
def far0 (S : ovS) (s : Nat) : Int32 × Int32 × Int32 := (S.1 27 s, S.1 24 8, gLo S s (gSd (S.1 26)))
def farS (S : ovS) (a : Int32 × Int32 × Int32) : Int32 × Int32 × Int32 := (omin 99 (a.1 + 1), orem (a.2.1 * 137 + 71) 1000, LF S 0 (omin 99 (a.1 + 1)) a.2.2 (orem (orem (a.2.1 * 137 + 71) 1000) 10) 0)
def itF {α : Type} (f : α → α) (a : α) : Nat → α
  | 0 => a
  | k + 1 => f (itF f a k)
def farN (S : ovS) (s k : Nat) : Int32 × Int32 × Int32 := itF (farS S) (far0 S s) k
theorem LF_fr {L : List Nat} {S S1 : ovS} (h : Fr L S S1) (hc : ([20, 21, 22].all fun k => !(L.contains k)) = true) : LF S1 = LF S := by
  have key : ∀ k, k ∈ [20, 21, 22] → S1.1 k = S.1 k := fun k hk => h.at k (by simpa using List.all_eq_true.mp hc k hk)
  funext d st o hh sd
  simp only [LF, key 20 (by simp), key 21 (by simp), key 22 (by simp)]
theorem FOk_fr {L : List Nat} {S S1 : ovS} (h : Fr L S S1) (hc : ([20, 21, 22].all fun k => !(L.contains k)) = true) (hf : FOk S) : FOk S1 := by
  have key : ∀ k, k ∈ [20, 21, 22] → S1.1 k = S.1 k := fun k hk => h.at k (by simpa using List.all_eq_true.mp hc k hk)
  obtain ⟨fl, h1, h2, h3⟩ := hf
  exact ⟨fl, by rw [key 20 (by simp)]; exact h1, h2, by rw [key 21 (by simp)]; exact h3⟩
section
variable {G : ovG} {S : ovS} {n s : Nat}
theorem sp_oLoafBy {d h sd : Int32} (hf : FOk S) (hs : s < 5) : Ex G mX4_loafBy 3 [.ref 373, .int (nI s), .int d, .int h, .int sd] S (fun r S1 => r = LF S d (S.1 27 s) (S.1 28 s) h sd ∧ Fr [23] S S1) := by
  refine eX4_loafBy (vX4_loafBy_0 ⟨fun c => absurd c (nI_pos (by omega)), fun _ => ⟨fun _ => ⟨vp_in_nI hs (by decide), vp_in_nI hs (by decide), ?_⟩, fun c => absurd ((nI_lt_i (b := 5) (by omega) (by decide)).mpr hs) c⟩⟩)
  rw [nI_ix (by omega)]
  exact ⟨_, sp_LF hf, fun r S1 q => q⟩
theorem bc_said : bcF (nI (mk (fun i => decide (¬ S.1 26 i = -1)) 5)) = nI (gSd (S.1 26)) := by
  rw [bc5 _ (mk_lt _ 5)]
  congr 1
  apply fb_ct_cong
  intro k hk
  rw [mk_bit]
  simp [hk]
theorem sp_countSayers : Ex G mX4_countSayers 2 [.ref 373] S (fun r S1 => r = nI (gSd (S.1 26)) ∧ S1 = S) := by
  refine eX4_countSayers (vX4_countSayers_0 ⟨_, sp_sayers, fun r3 S2 q2 => ⟨_, sp_bitCount, fun r8 S7 q7 => ?_⟩⟩)
  obtain ⟨a1, a2⟩ := q2
  obtain ⟨b1, b2⟩ := q7
  subst a2 b2
  exact ⟨by rw [b1, a1, bc_said], rfl⟩
theorem sp_loafNow (hf : FOk S) (hs : s < 5) : Ex G mX4_loafNow 4 [.ref 373, .int (nI s)] S (fun r S1 => r = gLo S s (gSd (S.1 26)) ∧ Fr [23] S S1) := by
  refine eX4_loafNow (vX4_loafNow_0 ⟨fun c => absurd c (nI_pos (by omega)), fun _ => ⟨fun _ => ⟨vp_in_nI hs (by decide), _, sp_countSayers, fun r5 S4 q4 => ?_⟩, fun c => absurd ((nI_lt_i (b := 5) (by omega) (by decide)).mpr hs) c⟩⟩)
  obtain ⟨a1, a2⟩ := q4
  subst a2
  rw [nI_ix (by omega), a1]
  exact ⟨_, sp_oLoafBy hf hs, fun r S1 q => q⟩
theorem sp_makes {w : Int32} {m : Nat} (hf : FOk S) (hs : s < 5) (hm : CD S m) : Ex G mX4_deedsMaking 4 [.ref 373, .int (nI s), .int w] S (fun r S1 => r = nI (mk (fun d => decide (LF S (nI d) (S.1 27 s) (S.1 28 s) (S.1 24 7) (nI (gSd (S.1 26))) = w)) (2 ^ m)) ∧ Fr [23] S S1) := by
  have hp := pow5 hm.2
  have hm5 := hm.2
  refine eX4_deedsMaking (vX4_deedsMaking_0 ⟨_, sp_countSayers, fun r3 S2 q2 => ?_⟩)
  obtain ⟨a1, a2⟩ := q2
  subst a2
  obtain ⟨p, hp0⟩ : ∃ p : Nat → Bool, p = (fun d => decide (LF S2 (nI d) (S2.1 27 s) (S2.1 28 s) (S2.1 24 7) (nI (gSd (S2.1 26))) = w)) := ⟨_, rfl⟩
  rw [← hp0]
  have key : ∀ k i : Nat, ∀ S' : ovS, i + k = 2 ^ m → Fr [23] S2 S' → RM G mX4_deedsMaking 4 (fun r S1 => r = nI (mk p (2 ^ m)) ∧ Fr [23] S2 S1) 11 [some (.ref 373), some (.int (nI s)), some (.int w), some (.int r3), some (.int (nI (mk p i))), some (.int (nI i))] [] S' := by
    intro k
    induction k with
    | zero =>
      intro i S' hi hF
      have : i = 2 ^ m := by omega
      subst this
      exact vX4_deedsMaking_11 ⟨fun _ => ⟨rfl, hF⟩, fun c => absurd (by rw [hF.at 16 rfl, hm.1, sh1 m (by omega)]; exact Int32.le_refl _) c⟩
    | succ k ih =>
      intro i S' hi hF
      refine vX4_deedsMaking_11 ⟨fun c => ?_, fun _ => ⟨_, sp_oLoafBy (FOk_fr hF rfl hf) hs, fun r4 S3 q => ?_⟩⟩
      · rw [hF.at 16 rfl, hm.1, sh1 m (by omega), nI_le_i (by omega) (by omega)] at c
        omega
      · have h := ih (i + 1) S3 (by omega) (hF.tr q.2)
        rw [nI_succ i] at h
        rw [q.1, LF_fr hF rfl, hF.at 27 rfl, hF.at 28 rfl, hF.at 24 rfl, a1]
        refine ⟨fun c => ?_, fun c => ?_⟩
        · rw [mk_f (i := i) (by rw [hp0]; simp [c])] at h
          rw [← a1]
          exact h
        · rw [← mk_t (i := i) (by omega) (by rw [hp0]; simp [c])] at h
          rw [← a1]
          exact h
  exact key (2 ^ m) 0 S2 (Nat.zero_add _) Fr.rf
def stFd (S : ovS) (s : Nat) (least : Int32) (b : Int32) (d : Nat) : Int32 := if (b = -1 ∨ ¬ bcF b ≤ bcF (nI d)) ∧ ¬ LF S (nI d) (S.1 27 s) (S.1 28 s) (S.1 24 7) (nI (gSd (S.1 26))) < least then nI d else b
theorem sp_wants {w : Int32} {m : Nat} (hf : FOk S) (hs : s < 5) (hm : CD S m) : Ex G mX4_fewestDeeds 4 [.ref 373, .int (nI s), .int w] S (fun r S1 => r = fvF (stFd S s w) (-1) (2 ^ m) ∧ Fr [23] S S1) := by
  have hp := pow5 hm.2
  have hm5 := hm.2
  refine eX4_fewestDeeds (vX4_fewestDeeds_0 ⟨_, sp_countSayers, fun r3 S2 q2 => ?_⟩)
  obtain ⟨a1, a2⟩ := q2
  subst a2
  have key : ∀ k i : Nat, ∀ S' : ovS, i + k = 2 ^ m → Fr [23] S2 S' → RM G mX4_fewestDeeds 4 (fun r S1 => r = fvF (stFd S2 s w) (-1) (2 ^ m) ∧ Fr [23] S2 S1) 11 [some (.ref 373), some (.int (nI s)), some (.int w), some (.int r3), some (.int (fvF (stFd S2 s w) (-1) i)), some (.int (nI i)), none] [] S' := by
    intro k
    induction k with
    | zero =>
      intro i S' hi hF
      have : i = 2 ^ m := by omega
      subst this
      exact vX4_fewestDeeds_11 ⟨fun _ => ⟨rfl, hF⟩, fun c => absurd (by rw [hF.at 16 rfl, hm.1, sh1 m (by omega)]; exact Int32.le_refl _) c⟩
    | succ k ih =>
      intro i S' hi hF
      have step : fvF (stFd S2 s w) (-1) (i + 1) = stFd S2 s w (fvF (stFd S2 s w) (-1) i) i := rfl
      have h44 : (fvF (stFd S2 s w) (-1) i = -1 ∨ ¬ bcF (fvF (stFd S2 s w) (-1) i) ≤ bcF (nI i)) → ∀ S3, Fr [23] S2 S3 → RM G mX4_fewestDeeds 4 (fun r S1 => r = fvF (stFd S2 s w) (-1) (2 ^ m) ∧ Fr [23] S2 S1) 44 [some (.ref 373), some (.int (nI s)), some (.int w), some (.int r3), some (.int (fvF (stFd S2 s w) (-1) i)), some (.int (nI i)), none] [] S3 := by
        intro hc S3 hF3
        refine vX4_fewestDeeds_44 ⟨fun c => absurd c (by decide), fun _ => ⟨_, sp_oLoafBy (FOk_fr hF3 rfl hf) hs, fun r4 S4 q => ?_⟩⟩
        have h := ih (i + 1) S4 (by omega) (hF3.tr q.2)
        rw [nI_succ i, step, stFd, ← a1] at h
        rw [q.1, LF_fr hF3 rfl, hF3.at 27 rfl, hF3.at 28 rfl, hF3.at 24 rfl]
        refine ⟨fun c => ?_, fun c => ?_⟩
        · rw [if_neg (fun z => z.2 c)] at h
          exact h
        · rw [if_pos ⟨hc, c⟩] at h
          exact h
      refine vX4_fewestDeeds_11 ⟨fun c => ?_, fun _ => ⟨fun c => h44 (Or.inl c) S' hF, fun c => ⟨_, sp_bitCount, fun r5 S4 q4 => ⟨_, sp_bitCount, fun r10 S9 q9 => ?_⟩⟩⟩⟩
      · rw [hF.at 16 rfl, hm.1, sh1 m (by omega), nI_le_i (by omega) (by omega)] at c
        omega
      · obtain ⟨b1, b2⟩ := q4
        obtain ⟨d1, d2⟩ := q9
        subst b2 d2
        rw [b1, d1]
        refine ⟨fun c2 => ⟨fun _ => ?_, fun z => absurd rfl z⟩, fun c2 => h44 (Or.inr c2) S9 hF⟩
        have h := ih (i + 1) S9 (by omega) hF
        rw [nI_succ i, step, stFd, if_neg] at h
        · exact h
        · rintro ⟨z | z, -⟩
          · exact c z
          · exact z c2
  exact key (2 ^ m) 0 S2 (Nat.zero_add _) Fr.rf
theorem sp_warm {w : Int32} (hf : FOk S) (hs : s < 5) : Ex G mX4_heatsFor 4 [.ref 373, .int (nI s), .int w] S (fun r S1 => r = nI (mk (fun h => decide (¬ LF S (S.1 25 s) (S.1 27 s) (S.1 28 s) (nI h) (nI (gSd (S.1 26))) < w)) 10) ∧ Fr [23] S S1) := by
  refine eX4_heatsFor (vX4_heatsFor_0 ⟨fun c => absurd c (nI_pos (by omega)), fun _ => ⟨fun _ => ⟨_, sp_countSayers, fun r3 S2 q2 => ?_⟩, fun c => absurd ((nI_lt_i (b := 5) (by omega) (by decide)).mpr hs) c⟩⟩)
  obtain ⟨a1, a2⟩ := q2
  subst a2
  obtain ⟨p, hp0⟩ : ∃ p : Nat → Bool, p = (fun h => decide (¬ LF S2 (S2.1 25 s) (S2.1 27 s) (S2.1 28 s) (nI h) (nI (gSd (S2.1 26))) < w)) := ⟨_, rfl⟩
  rw [← hp0]
  have key : ∀ k i : Nat, ∀ S' : ovS, i + k = 10 → Fr [23] S2 S' → RM G mX4_heatsFor 4 (fun r S1 => r = nI (mk p 10) ∧ Fr [23] S2 S1) 22 [some (.ref 373), some (.int (nI s)), some (.int w), some (.int r3), some (.int (nI (mk p i))), some (.int (nI i))] [] S' := by
    intro k
    induction k with
    | zero =>
      intro i S' hi hF
      have : i = 10 := by omega
      subst this
      exact vX4_heatsFor_22 ⟨fun _ => ⟨rfl, hF⟩, fun c => absurd (by decide) c⟩
    | succ k ih =>
      intro i S' hi hF
      refine vX4_heatsFor_22 ⟨fun c => absurd ((nI_le_i (a := 10) (by decide) (by omega)).mp c) (by omega), fun _ => ⟨vp_in_nI hs (by decide), ?_⟩⟩
      rw [nI_ix (by omega)]
      refine ⟨_, sp_oLoafBy (FOk_fr hF rfl hf) hs, fun r4 S3 q => ?_⟩
      have h := ih (i + 1) S3 (by omega) (hF.tr q.2)
      rw [nI_succ i] at h
      rw [q.1, LF_fr hF rfl, hF.at 27 rfl, hF.at 28 rfl, hF.at 25 rfl, a1]
      refine ⟨fun c => ?_, fun c => ?_⟩
      · rw [mk_f (i := i) (by rw [hp0]; simp [c])] at h
        rw [← a1]
        exact h
      · rw [← mk_t (i := i) (by omega) (by rw [hp0]; simp [c])] at h
        rw [← a1]
        exact h
  exact key 10 0 S2 rfl Fr.rf
def farAt (S : ovS) : Int32 × Int32 × Int32 := (S.1 373 3, S.1 373 4, S.1 373 2)
theorem sp_start (hf : FOk S) (hs : s < 5) : Ex G mX4_start 5 [.ref 373, .int (nI s)] S (fun _ S1 => Fr [23, 373] S S1 ∧ farAt S1 = far0 S s) := by
  refine eX4_start (vX4_start_0 ⟨_, sp_loafNow hf hs, fun r3 S2 q2 S6 e6 => ⟨fun c => absurd c (nI_pos (by omega)), fun _ => ⟨fun _ => ⟨vp_in_nI hs (by decide), fun S11 e11 S12 e12 => ?_⟩, fun c => absurd ((nI_lt_i (b := 5) (by omega) (by decide)).mpr hs) c⟩⟩⟩)
  rw [nI_ix (by omega)] at e11
  subst e12 e11 e6
  refine ⟨(((q2.2.mono rfl).st rfl).st rfl).st rfl, ?_⟩
  simp [farAt, far0, stI_1, q2.1, q2.2.at 27 rfl, q2.2.at 24 rfl]
theorem sp_step {S0 : ovS} {a : Int32 × Int32 × Int32} (hf : FOk S0) (hF : Fr [23, 373] S0 S) (ha : farAt S = a) : Ex G mX4_step 3 [.ref 373] S (fun _ S1 => Fr [23, 373] S0 S1 ∧ farAt S1 = farS S0 a) := by
  subst ha
  refine eX4_step (vX4_step_0 (fun S1 e1 => ⟨_, sp_seedBehind, fun r4 S3 q3 S7 e7 => ⟨_, sp_heatOf, fun r10 S9 q9 => ?_⟩⟩))
  obtain ⟨a1, a2⟩ := q3
  obtain ⟨b1, b2⟩ := q9
  subst a2 b2
  have hF9 : Fr [23, 373] S0 S9 := by
    subst e7 e1
    exact (hF.st rfl).st rfl
  refine ⟨_, sp_LF (FOk_fr hF9 rfl hf), fun r15 S14 q14 S18 e18 => ?_⟩
  subst e18
  refine ⟨(hF9.tr (q14.2.mono rfl)).st rfl, ?_⟩
  have h73 := q14.2.at 373 rfl
  rw [LF_fr hF9 rfl] at q14
  simp only [farAt, stI_1, if_true, h73, q14.1]
  subst e7 e1
  simp [stI_1, a1, b1, farS]
theorem sp_will {k : Nat} (hf : FOk S) (hs : s < 5) (hk : k ≤ 60) : Ex G mX4_loafBehind 6 [.ref 373, .int (nI s), .int (nI k)] S (fun r S1 => r = (farN S s k).2.2 ∧ Fr [23, 373] S S1) := by
  have key : ∀ d i : Nat, ∀ S' : ovS, i + d = k → Fr [23, 373] S S' → farAt S' = farN S s i → RM G mX4_loafBehind 6 (fun r S1 => r = (farN S s k).2.2 ∧ Fr [23, 373] S S1) 7 [some (.ref 373), none, some (.int (nI k)), some (.int (nI i))] [] S' := by
    intro d
    induction d with
    | zero =>
      intro i S' hi hF ha
      have : i = k := by omega
      subst this
      exact vX4_loafBehind_7 ⟨fun _ => ⟨by rw [← ha]; rfl, hF⟩, fun c => absurd (Int32.le_refl _) c⟩
    | succ d ih =>
      intro i S' hi hF ha
      refine vX4_loafBehind_7 ⟨fun c => absurd ((nI_le_i (by omega) (by omega)).mp c) (by omega), fun _ => ⟨_, sp_step hf hF ha, fun r S3 q => ?_⟩⟩
      have h := ih (i + 1) S3 (by omega) q.1 q.2
      rw [nI_succ i] at h
      exact h
  exact eX4_loafBehind (vX4_loafBehind_0 ⟨_, sp_start hf hs, fun r S2 q => key k 0 S2 (by omega) q.1 q.2⟩)
theorem sp_soonest {w : Int32} (hf : FOk S) (hs : s < 5) : Ex G mX4_breadsTill 6 [.ref 373, .int (nI s), .int w] S (fun r S1 => Fr [23, 373] S S1 ∧ ((∃ k, k ≤ 60 ∧ r = nI k ∧ ¬ (farN S s k).2.2 < w ∧ ∀ q, q < k → (farN S s q).2.2 < w) ∨ (r = -1 ∧ ∀ q, q ≤ 60 → (farN S s q).2.2 < w))) := by
  have key : ∀ d i : Nat, ∀ S' : ovS, i + d = 61 → (∀ q, q < i → (farN S s q).2.2 < w) → Fr [23, 373] S S' → farAt S' = farN S s i → RM G mX4_breadsTill 6 (fun r S1 => Fr [23, 373] S S1 ∧ ((∃ k, k ≤ 60 ∧ r = nI k ∧ ¬ (farN S s k).2.2 < w ∧ ∀ q, q < k → (farN S s q).2.2 < w) ∨ (r = -1 ∧ ∀ q, q ≤ 60 → (farN S s q).2.2 < w))) 7 [some (.ref 373), none, some (.int w), some (.int (nI i))] [] S' := by
    intro d
    induction d with
    | zero =>
      intro i S' hi hq hF ha
      have : i = 61 := by omega
      subst this
      exact vX4_breadsTill_7 ⟨fun _ => ⟨hF, Or.inr ⟨rfl, fun q h => hq q (by omega)⟩⟩, fun c => absurd (by decide) c⟩
    | succ d ih =>
      intro i S' hi hq hF ha
      have e : S'.1 373 2 = (farN S s i).2.2 := by rw [← ha]; rfl
      refine vX4_breadsTill_7 ⟨fun c => absurd ((nI_lt_i (a := 60) (by decide) (by omega)).mp c) (by omega), fun _ => ?_⟩
      rw [e]
      refine ⟨fun c => ⟨_, sp_step hf hF ha, fun r S3 q => ?_⟩, fun c => ⟨hF, Or.inl ⟨i, by omega, rfl, c, hq⟩⟩⟩
      have h := ih (i + 1) S3 (by omega) (fun z hz => by
        rcases Nat.lt_succ_iff_lt_or_eq.mp hz with z1 | z1
        · exact hq z z1
        · subst z1; exact c) q.1 q.2
      rw [nI_succ i] at h
      exact h
  exact eX4_breadsTill (vX4_breadsTill_0 ⟨_, sp_start hf hs, fun r S2 q => key 61 0 S2 (by omega) (fun _ h => absurd h (by omega)) q.1 q.2⟩)
end
