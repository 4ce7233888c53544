/-! ===== the reference: sayings ===== -/
section
variable {G : ovG} {S : ovS} {n : Nat} {nm : Nat → Int32}
theorem VN.w {i : Nat} (hV : VN n nm) (hn : n ≤ 5) (hi : i < n) (h : ¬ nm i = -1) : ∃ w, w < n ∧ nm i = nI w := ((hV i (by omega)).1 hi).resolve_left h
theorem sp_layGets (hM : MX S n) (hV : VN n nm) (hS : SY S n nm) : Ex G mX12_layGets 5 [.ref 412] S (fun _ S1 => (∀ i, i < n → S1.1 428 i = gLo S i (gSd nm)) ∧ (∀ i, i < n → S1.1 429 i = gG S nm i) ∧ Fr [420, 421, 428, 429] S S1) := by
  have hn := hM.n5
  refine eX12_layGets (vX12_layGets_0 ⟨_, sp_saidMany hM hV hS, fun r3 S2 q => ?_⟩)
  obtain ⟨q1, q2⟩ := q
  subst q1 q2
  refine ⟨_, sp_isStone hM hV hS, fun r8 S7 q => ?_⟩
  obtain ⟨q1, q2⟩ := q
  subst q1 q2
  have tM : ∀ {S' : ovS}, Fr [420, 421, 428, 429] S7 S' → MX S' n := fun hF => hM.fm (FM.of hF rfl)
  have key2 : ∀ k i : Nat, ∀ S' : ovS, i + k = n → Fr [420, 421, 428, 429] S7 S' → (∀ j, j < n → S'.1 428 j = gLo S7 j (gSd nm)) → (∀ j, j < i → S'.1 429 j = gG S7 nm j) → RM G mX12_layGets 5 (fun _ S1 => (∀ i, i < n → S1.1 428 i = gLo S7 i (gSd nm)) ∧ (∀ i, i < n → S1.1 429 i = gG S7 nm i) ∧ Fr [420, 421, 428, 429] S7 S1) 40 [some (.ref 412), none, some (.int (bI (gSt S7 nm))), some (.int (nI i))] [] S' := by
    intro k
    induction k with
    | zero =>
      intro i S' hi hF h1 h2
      have : i = n := by omega
      subst this
      exact vX12_layGets_40 ⟨fun _ => ⟨h1, h2, hF⟩, fun c => absurd (tM hF).ge c⟩
    | succ k ih =>
      intro i S' hi hF h1 h2
      have hi' : i < n := by omega
      have hii : vp_in (nI i) 5 := vp_in_nI (by omega) (by decide)
      have hix : (nI i).toNatClampNeg = i := nI_ix (by omega)
      have es : S'.1 427 i = nm i := by rw [hF.at 427 rfl]; exact hS i hi'
      have fin : ∀ v, v = gG S7 nm i → RM G mX12_layGets 5 (fun _ S1 => (∀ i, i < n → S1.1 428 i = gLo S7 i (gSd nm)) ∧ (∀ i, i < n → S1.1 429 i = gG S7 nm i) ∧ Fr [420, 421, 428, 429] S7 S1) 40 [some (.ref 412), none, some (.int (bI (gSt S7 nm))), some (.int (nI i + 1))] [] (stI S' 429 i v) := by
        intro v hv
        have hh := ih (i + 1) (stI S' 429 i v) (by omega) (hF.st rfl) (fun j hj => by rw [stI_row (by decide)]; exact h1 j hj) (fun j hj => ?_)
        · rw [nI_succ i] at hh
          exact hh
        · rw [stI_self]
          by_cases e : j = i
          · simp [upd, e, hv]
          · simp only [upd, if_neg e]
            exact h2 j (by omega)
      refine vX12_layGets_40 ⟨fun c => absurd c ((tM hF).le hi'), fun _ => ⟨fun c => ⟨hii, fun S3 e3 => ?_⟩, fun c => ⟨hii, ?_⟩⟩⟩
      · subst e3
        rw [hix]
        refine fin 0 ?_
        rw [bI_0, Bool.not_eq_false] at c
        simp [gG, c]
      · rw [bI_0] at c
        rw [hix, es]
        refine ⟨fun d => ?_, fun d => ⟨hii, fun S11 e11 => ?_⟩⟩
        · have hne : ¬ nm i = -1 := fun z => by rw [z] at d; exact absurd d (by decide)
          obtain ⟨w, hw, ew⟩ := hV.w hn hi' hne
          rw [ew]
          refine ⟨hii, vp_in_nI (by omega) (by decide), hii, _, sp_namers (tM hF) hV (fun j hj => by rw [hF.at 427 rfl]; exact hS j hj), fun r7 S6 q => ?_⟩
          obtain ⟨q1, q2⟩ := q
          subst q2
          have hpos : 0 < fb_ct (fun i => decide (nm i = nI w)) n := fb_ct_pos.mpr ⟨i, hi', by simp [ew]⟩
          have hle := fb_ct_le (fun i => decide (nm i = nI w)) n
          refine ⟨fun z => ?_, hii, fun S10 e10 => ?_⟩
          · rw [q1] at z
            have := (nI_eq_i (b := 0) (by omega) (by decide)).mp z
            omega
          · subst e10
            refine fin _ ?_
            rw [nI_ix (n := w) (by omega), h1 w hw, q1, gG, if_neg hne, c, ew, nI_ix (n := w) (by omega), gCt_n hn (by omega) hV]
            rfl
        · subst e11
          refine fin 0 ?_
          have hm : nm i = -1 := by
            rcases (hV i (by omega)).1 hi' with z | ⟨w, hw, z⟩
            · exact z
            · rw [z] at d
              exact absurd ((nI_le_i (a := 0) (by decide) (by omega)).mpr (Nat.zero_le _)) d
          simp [gG, hm]
  have key : ∀ k i : Nat, ∀ S' : ovS, i + k = n → Fr [420, 421, 428, 429] S7 S' → (∀ j, j < i → S'.1 428 j = gLo S7 j (gSd nm)) → RM G mX12_layGets 5 (fun _ S1 => (∀ i, i < n → S1.1 428 i = gLo S7 i (gSd nm)) ∧ (∀ i, i < n → S1.1 429 i = gG S7 nm i) ∧ Fr [420, 421, 428, 429] S7 S1) 12 [some (.ref 412), some (.int (nI (gSd nm))), some (.int (bI (gSt S7 nm))), some (.int (nI i))] [] S' := by
    intro k
    induction k with
    | zero =>
      intro i S' hi hF h1
      have : i = n := by omega
      subst this
      exact vX12_layGets_12 ⟨fun _ => key2 i 0 S' (by omega) hF h1 (fun j hj => absurd hj (by omega)), fun c => absurd (tM hF).ge c⟩
    | succ k ih =>
      intro i S' hi hF h1
      have hi' : i < n := by omega
      refine vX12_layGets_12 ⟨fun c => absurd c ((tM hF).le hi'), fun _ => ⟨_, sp_loafOf (tM hF) (by omega), fun r4 S3 q => ⟨vp_in_nI (by omega) (by decide), fun S8 e8 => ?_⟩⟩⟩
      obtain ⟨q1, q2⟩ := q
      have hF3 : Fr [420, 421, 428, 429] S7 S3 := hF.tr (q2.mono rfl)
      subst e8
      rw [nI_ix (n := i) (by omega)]
      have hh := ih (i + 1) (stI S3 428 i r4) (by omega) (hF3.st rfl) (fun j hj => ?_)
      · rw [nI_succ i] at hh
        exact hh
      · rw [stI_self]
        by_cases e : j = i
        · simp only [upd, e, if_true]
          rw [q1]
          exact congrFun (congrFun (gLo_sm (S := S7) (S1 := S') (hF.L rfl)) i) (gSd nm)
        · simp only [upd, if_neg e]
          rw [q2.at 428 rfl]
          exact h1 j (by omega)
  exact key n 0 S7 (by omega) Fr.rf (fun j hj => absurd hj (by omega))
def GE (S : ovS) (n : Nat) (f : Nat → Int32) : Prop := ∀ i, i < n → S.1 429 i = f i
theorem sp_allGet {f : Nat → Int32} (hM : MX S n) (hg : GE S n f) : Ex G mX12_allGet 1 [.ref 412] S (fun r S1 => r = smI f n ∧ S1 = S) := by
  have hn := hM.n5
  refine eX12_allGet (vX12_allGet_0 (loopUp (n := n) (P := fun i => RM G mX12_allGet 1 _ 4 [some (.ref 412), some (.int (smI f i)), some (.int (nI i))] [] S) ?_ ?_ 0 (by omega)))
  · exact vX12_allGet_4 ⟨fun _ => ⟨rfl, rfl⟩, fun c => absurd hM.ge c⟩
  · intro i hi ih
    refine vX12_allGet_4 ⟨fun c => absurd c (hM.le hi), fun _ => ⟨vp_in_nI (by omega) (by decide), ?_⟩⟩
    rw [nI_ix (n := i) (by omega), hg i hi]
    rw [nI_succ i] at ih
    exact ih
theorem or_z0 (x y : Int32) : x ||| ((0 : Int32) <<< y) = x := by
  apply Int32.toBitVec_inj.mp
  simp
theorem sp_fedSet (hM : MX S n) (hg : GE S n (gG S nm)) : Ex G mX12_fedSet 2 [.ref 412] S (fun r S1 => r = nI (mk (fdF S nm) n) ∧ S1 = S) := by
  have hn := hM.n5
  refine eX12_fedSet (vX12_fedSet_0 (loopUp (n := n) (P := fun i => RM G mX12_fedSet 2 _ 4 [some (.ref 412), some (.int (nI (mk (fdF S nm) i))), some (.int (nI i))] [] S) ?_ ?_ 0 (by omega)))
  · exact vX12_fedSet_4 ⟨fun _ => ⟨rfl, rfl⟩, fun c => absurd hM.ge c⟩
  · intro i hi ih
    refine vX12_fedSet_4 ⟨fun c => absurd c (hM.le hi), fun _ => ⟨vp_in_nI (by omega) (by decide), vp_in_nI (by omega) (by decide), ?_⟩⟩
    rw [nI_ix (n := i) (by omega), hg i hi, hM.2.2.2.2.2.2 i hi]
    refine ⟨fun c => ⟨_, tr0, fun r5 S4 q => ?_⟩, fun c => ⟨_, tr1, fun r5 S4 q => ?_⟩⟩
    · obtain ⟨q1, q2⟩ := q
      subst q1 q2
      have c2 : ¬ S4.1 17 i ≤ gG S4 nm i := fun z => Int32.not_le.mpr c z
      rw [mk_f (i := i) (by simp [fdF, c2]), nI_succ i] at ih
      rw [or_z0]
      exact ih
    · obtain ⟨q1, q2⟩ := q
      subst q1 q2
      have c2 : S4.1 17 i ≤ gG S4 nm i := Int32.not_lt.mp c
      rw [← mk_t (i := i) (by omega) (by simp [fdF, c2]), nI_succ i] at ih
      exact ih
theorem sp_layNow (hM : MX S n) : Ex G mX12_layNow 6 [.ref 412] S (fun _ S1 => SY S1 n (S.1 26) ∧ (∀ i, i < n → S1.1 428 i = gLo S i (gSd (S.1 26))) ∧ GE S1 n (gG S (S.1 26)) ∧ Fr M5 S S1) := by
  refine eX12_layNow (vX12_layNow_0 ⟨_, sp_mLoad' hM, fun r3 S2 q => ?_⟩)
  obtain ⟨q1, q2⟩ := q
  have hF : FM S S2 := FM.of q2 rfl
  refine ⟨_, sp_layGets (hM.fm hF) hM.2.2.2.2.2.1 q1, fun r8 S7 q => ?_⟩
  obtain ⟨h1, h2, h3⟩ := q
  rw [gLo_sm hF.sm] at h1
  rw [gG_fm hF] at h2
  refine ⟨fun i hi => ?_, h1, h2, q2.tr (h3.mono rfl)⟩
  rw [h3.at 427 rfl]
  exact q1 i hi
theorem sp_putSayings (hM : MX S n) (hS : SY S n nm) : Ex G mX12_putSayings 1 [.ref 412] S (fun _ S1 => (∀ i, i < n → S1.1 431 i = nm i) ∧ S1.1 412 48 = nI n ∧ FM S S1 ∧ (∀ k, k ≠ 412 → k ≠ 431 → S1.1 k = S.1 k)) := by
  have hn := hM.n5
  refine eX12_putSayings (vX12_putSayings_0 ?_)
  have key : ∀ k i : Nat, ∀ S' : ovS, i + k = n → Fr [431] S S' → (∀ j, j < i → S'.1 431 j = nm j) → RM G mX12_putSayings 1 (fun _ S1 => (∀ i, i < n → S1.1 431 i = nm i) ∧ S1.1 412 48 = nI n ∧ FM S S1 ∧ (∀ k, k ≠ 412 → k ≠ 431 → S1.1 k = S.1 k)) 2 [some (.ref 412), some (.int (nI i))] [] S' := by
    intro k
    induction k with
    | zero =>
      intro i S' hi hF h
      have : i = n := by omega
      subst this
      have hM' := hM.fm (FM.of hF rfl)
      refine vX12_putSayings_2 ⟨fun _ S2 e2 => ?_, fun c => absurd hM'.ge c⟩
      subst e2
      refine ⟨fun j hj => ?_, ?_, ⟨fun k hk => ?_, fun j hj => ?_, hF.2⟩, fun k h1 h2 => ?_⟩
      · rw [stI_row (by decide)]
        exact h j hj
      · rw [stI_1, if_pos rfl, if_pos rfl, hM'.2.1]
      · have h1 : k ≠ 412 := fun e => by subst e; cases hk
        rw [stI_row h1]
        refine hF.1 k ?_
        have h2 : k ≠ 431 := fun e => by subst e; cases hk
        simp [h2]
      · rw [stI_1, if_pos rfl, if_neg hj, hF.at 412 rfl]
      · rw [stI_row h1]
        refine hF.1 k ?_
        simp [h2]
    | succ k ih =>
      intro i S' hi hF h
      refine vX12_putSayings_2 ⟨fun c => absurd c ((hM.fm (FM.of hF rfl)).le (by omega)), fun _ => ⟨vp_in_nI (by omega) (by decide), vp_in_nI (by omega) (by decide), fun S2 e2 => ?_⟩⟩
      subst e2
      rw [nI_ix (n := i) (by omega), hF.at 427 rfl, hS i (by omega)]
      have hh := ih (i + 1) (stI S' 431 i (nm i)) (by omega) (hF.st rfl) (fun j hj => ?_)
      · rw [nI_succ i] at hh
        exact hh
      · rw [stI_self]
        by_cases e : j = i
        · simp [upd, e]
        · simp only [upd, if_neg e]
          exact h j (by omega)
  exact key n 0 S (by omega) Fr.rf (fun j hj => absurd hj (by omega))
theorem sp_shames (hM : MX S n) (hV : VN n nm) (hS : SY S n nm) : Ex G mX12_shames 2 [.ref 412] S (fun r S1 => r = nI (fb_ct (shF nm) n) ∧ S1 = S) := by
  have hn := hM.n5
  refine eX12_shames (vX12_shames_0 (loopUp (n := n) (P := fun i => RM G mX12_shames 2 _ 4 [some (.ref 412), some (.int (nI (fb_ct (shF nm) i))), some (.int (nI i))] [] S) ?_ ?_ 0 (by omega)))
  · exact vX12_shames_4 ⟨fun _ => ⟨rfl, rfl⟩, fun c => absurd hM.ge c⟩
  · intro i hi ih
    have hx := nm_neg ((hV i (by omega)).1 hi) hn
    refine vX12_shames_4 ⟨fun c => absurd c (hM.le hi), fun _ => ⟨vp_in_nI (by omega) (by decide), ?_⟩⟩
    rw [nI_ix (n := i) (by omega), hS i hi, hx]
    refine ⟨fun c => ⟨_, tr0, fun r5 S4 q => ?_⟩, fun c => ⟨vp_in_nI (by omega) (by decide), fun d => ⟨_, tr0, fun r5 S4 q => ?_⟩, fun d => ⟨_, tr1, fun r5 S4 q => ?_⟩⟩⟩
    · obtain ⟨q1, q2⟩ := q
      subst q1 q2
      rw [ct_f (i := i) (by simp [shF, c]), nI_succ i] at ih
      rw [Int32.add_zero]
      exact ih
    · obtain ⟨q1, q2⟩ := q
      subst q1 q2
      rw [ct_f (i := i) (by simp [shF, d]), nI_succ i] at ih
      rw [Int32.add_zero]
      exact ih
    · obtain ⟨q1, q2⟩ := q
      subst q1 q2
      rw [← ct_t (i := i) (by simp [shF, c, d]), nI_succ i] at ih
      exact ih
theorem sp_sayingsOf (hM : MX S n) : Ex G mX12_sayingsOf 1 [.ref 412] S (fun r S1 => r = nI ((n + 1) ^ n) ∧ S1 = S) := by
  have hn := hM.n5
  refine eX12_sayingsOf (vX12_sayingsOf_0 (loopUp (n := n) (P := fun i => RM G mX12_sayingsOf 1 _ 4 [some (.ref 412), some (.int (nI ((n + 1) ^ i))), some (.int (nI i))] [] S) ?_ ?_ 0 (by omega)))
  · exact vX12_sayingsOf_4 ⟨fun _ => ⟨rfl, rfl⟩, fun c => absurd hM.ge c⟩
  · intro i hi ih
    refine vX12_sayingsOf_4 ⟨fun c => absurd c (hM.le hi), fun _ => ?_⟩
    rw [nI_succ i, Nat.pow_succ, ← pk_mul, nI_succ n] at ih
    rw [hM.2.1]
    exact ih
end
