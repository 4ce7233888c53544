/-! ===== the reference: one soul, groups ===== -/
section
variable {G : ovG} {S : ovS} {n : Nat} {nm : Nat → Int32}
theorem in_lt {x : Int32} {n : Nat} (hn : n < 2147483648) : (¬ x < 0 ∧ ¬ nI n - 1 < x) ↔ ∃ i, i < n ∧ x = nI i := by
  rcases pk_ix x (n := n) (by omega) with z | z | ⟨j, hj, z⟩
  · refine ⟨fun q => absurd z q.1, fun ⟨i, h1, h2⟩ => absurd z ?_⟩
    rw [h2]
    exact nI_neg (by omega)
  · refine ⟨fun q => absurd ?_ q.2, fun ⟨i, h1, h2⟩ => absurd z ?_⟩
    · refine Int32.lt_of_lt_of_le ?_ z
      cases n with
      | zero => decide
      | succ m =>
        rw [nI_pred]
        exact (nI_lt_i (by omega) (by omega)).mpr (by omega)
    · rw [h2, nI_le_i (by omega) (by omega)]
      omega
  · refine ⟨fun _ => ⟨j, hj, z⟩, fun _ => ⟨by rw [z]; exact nI_neg (by omega), ?_⟩⟩
    subst z
    obtain ⟨m, rfl⟩ : ∃ m, n = m + 1 := ⟨n - 1, by omega⟩
    rw [nI_pred, nI_lt_i (by omega) (by omega)]
    omega
def sIn (n : Nat) (x : Int32) : Prop := ∃ i, i < n ∧ x = nI i
theorem b01 : ∀ b : Bool, bI b = 0 ∨ bI b = 1 := by decide
theorem sp_mIsSoul {x : Int32} (h35 : S.1 412 35 = nI n) (hn : n ≤ 5) : Ex G mX12_isSoul 2 [.ref 412, .int x] S (fun r S1 => (r = 0 ↔ ¬ sIn n x) ∧ S1 = S) := by
  refine eX12_isSoul (vX12_isSoul_0 ⟨_, sp_isIn, fun r3 S2 q => ?_⟩)
  obtain ⟨q1, q2⟩ := q
  subst q2
  refine ⟨by rw [q1]; exact b01 _, ?_, rfl⟩
  rw [q1, bI_0, h35, decide_eq_false_iff_not, in_lt (by omega)]
  rfl
theorem sp_mIsDeed {x : Int32} {m : Nat} (h34 : S.1 412 34 = nI m) (hm : m ≤ 5) : Ex G mX12_isDeed 2 [.ref 412, .int x] S (fun r S1 => (r = 0 ↔ ¬ sIn m x) ∧ S1 = S) := by
  refine eX12_isDeed (vX12_isDeed_0 ⟨_, sp_isIn, fun r3 S2 q => ?_⟩)
  obtain ⟨q1, q2⟩ := q
  subst q2
  refine ⟨by rw [q1]; exact b01 _, ?_, rfl⟩
  rw [q1, bI_0, h34, decide_eq_false_iff_not, in_lt (by omega)]
  rfl
/-- what is asked of a SOUL -/
def slF (S : ovS) (s : Nat) (x : Int32) : Int32 :=
  if x = 0 then S.1 17 s else if x = 1 then S.1 25 s else if x = 2 then S.1 26 s else if x = 3 then S.1 27 s else if x = 4 then S.1 28 s
  else if x = 5 then gLo S s (gSd (S.1 26)) else if x = 6 then gG S (S.1 26) s else if x = 7 then S.1 30 s else if x = 8 then S.1 31 s else if x = 9 then S.1 29 s else -2
theorem sp_mSoul {x y : Int32} (hM : MX S n) : Ex G mX12_soul 7 [.ref 412, .int x, .int y] S (fun r S1 => ((¬ sIn n x → r = -2) ∧ ∀ s, s < n → x = nI s → r = slF S s y) ∧ Fr M5 S S1) := by
  have hn := hM.n5
  refine eX12_soul (vX12_soul_0 ⟨_, sp_mIsSoul hM.2.1 hn, fun r3 S2 q => ?_⟩)
  obtain ⟨q1, q2⟩ := q
  subst q2
  refine ⟨fun c => ?_, fun c => ⟨⟨fun _ => rfl, fun s hs e => absurd ⟨s, hs, e⟩ (q1.mp c)⟩, Fr.rf⟩⟩
  have hin : sIn n x := Classical.not_not.mp (fun z => c (q1.mpr z))
  obtain ⟨s, hs, hx⟩ := hin
  refine ⟨_, sp_layNow hM, fun r9 S8 q => ?_⟩
  obtain ⟨p1, p2, p3, p4⟩ := q
  subst hx
  have fin : ∀ {v : Int32}, v = slF S2 s y → ((¬ sIn n (nI s) → v = -2) ∧ ∀ s', s' < n → nI s = nI s' → v = slF S2 s' y) ∧ Fr M5 S2 S8 := by
    intro v hv
    refine ⟨⟨fun z => absurd ⟨s, hs, rfl⟩ z, fun s' hs' e => ?_⟩, p4⟩
    rw [← (nI_eq_i (by omega) (by omega)).mp e]
    exact hv
  have i5 : vp_in (nI s) 5 := vp_in_nI (by omega) (by decide)
  have i40 : vp_in (nI s) 40 := vp_in_nI (by omega) (by decide)
  have ix := nI_ix (n := s) (by omega)
  obtain ⟨a1, a2, a3, a4, a5, a6, a7, a8, a9⟩ := hM.2.2.2.1
  have e17 := hM.2.2.2.2.2.2 s hs
  have hs5 : s < 5 := by omega
  have x5 : ((5 : Int32) + nI s).toNatClampNeg = 5 + s := ix_add (a := 5) (by omega)
  have x10 : ((10 : Int32) + nI s).toNatClampNeg = 10 + s := ix_add (a := 10) (by omega)
  have x15 : ((15 : Int32) + nI s).toNatClampNeg = 15 + s := ix_add (a := 15) (by omega)
  have x20 : ((20 : Int32) + nI s).toNatClampNeg = 20 + s := ix_add (a := 20) (by omega)
  have x25 : ((25 : Int32) + nI s).toNatClampNeg = 25 + s := ix_add (a := 25) (by omega)
  have x30 : ((30 : Int32) + nI s).toNatClampNeg = 30 + s := ix_add (a := 30) (by omega)
  rw [ix, x5, x10, x15, x20, x25, x30, p4.at 425 rfl, p4.at 426 rfl]
  refine ⟨fun d => ⟨i5, fin ?_⟩, fun d => ⟨i40, fin ?_⟩, fun d => ⟨in_add (a := 5) (by omega) (by decide), fin ?_⟩, fun d => ⟨in_add (a := 15) (by omega) (by decide), fin ?_⟩, fun d => ⟨in_add (a := 20) (by omega) (by decide), fin ?_⟩, fun d => ⟨i5, fin ?_⟩, fun d => ⟨i5, fin ?_⟩, fun d => ⟨in_add (a := 25) (by omega) (by decide), fin ?_⟩, fun d => ⟨in_add (a := 30) (by omega) (by decide), fin ?_⟩, fun d => ⟨in_add (a := 10) (by omega) (by decide), fin ?_⟩, fun d0 d1 d2 d3 d4 d5 d6 d7 d8 d9 => fin ?_⟩
  · subst d; rw [e17]; rfl
  · subst d; rw [a1 s hs5]; rfl
  · subst d; rw [a2 s hs5]; rfl
  · subst d; rw [a4 s hs5]; rfl
  · subst d; rw [a5 s hs5]; rfl
  · subst d; rw [p2 s hs]; rfl
  · subst d; rw [p3 s hs]; rfl
  · subst d; rw [a6 s hs5]; rfl
  · subst d; rw [a7 s hs5]; rfl
  · subst d; rw [a3 s hs5]; rfl
  · simp only [slF, if_neg d0, if_neg d1, if_neg d2, if_neg d3, if_neg d4, if_neg d5, if_neg d6, if_neg d7, if_neg d8, if_neg d9]
theorem sp_mSpoiler {x : Int32} (hM : MX S n) : Ex G mX12_spoiler 6 [.ref 412, .int x] S (fun r S1 => r = (if x = 0 then (fvF (stSp S n (S.1 26)) (-1, -1) n).1 else if x = 1 then (fvF (stSp S n (S.1 26)) (-1, -1) n).2 else -1) ∧ Fr M5 S S1) := by
  have hn := hM.n5
  have hV := hM.2.2.2.2.2.1
  obtain ⟨Q, hQ⟩ : ∃ Q : Int32 → ovS → Prop, Q = (fun r S1 => r = (if x = 0 then (fvF (stSp S n (S.1 26)) (-1, -1) n).1 else if x = 1 then (fvF (stSp S n (S.1 26)) (-1, -1) n).2 else -1) ∧ Fr M5 S S1) := ⟨_, rfl⟩
  rw [← hQ]
  refine eX12_spoiler (vX12_spoiler_0 ⟨_, sp_isIn, fun r3 S2 q => ?_⟩)
  obtain ⟨q1, q2⟩ := q
  subst q2
  have hx : (¬ x < 0 ∧ ¬ 1 < x) ↔ (x = 0 ∨ x = 1) := by
    rw [show (1 : Int32) = nI 2 - 1 by decide, in_lt (by decide)]
    constructor
    · rintro ⟨i, h1, h2⟩
      have : i = 0 ∨ i = 1 := by omega
      rcases this with rfl | rfl
      · exact Or.inl h2
      · exact Or.inr h2
    · rintro (h | h)
      · exact ⟨0, by decide, h⟩
      · exact ⟨1, by decide, h⟩
  refine ⟨fun c => ?_, fun c => ?_⟩
  · rw [q1, bI_0, decide_eq_false_iff_not, Classical.not_not, hx] at c
    have key : ∀ k i : Nat, ∀ S' : ovS, i + k = n → Fr M5 S2 S' → RM G mX12_spoiler 6 Q 18 [some (.ref 412), some (.int x), some (.int (fvF (stSp S2 n (S2.1 26)) (-1, -1) i).1), some (.int (fvF (stSp S2 n (S2.1 26)) (-1, -1) i).2), some (.int (nI i))] [] S' := by
      intro k
      induction k with
      | zero =>
        intro i S' hi hF
        have : i = n := by omega
        subst this
        have hM' := hM.fm (FM.of hF rfl)
        refine vX12_spoiler_18 ⟨fun _ => ⟨fun d => ?_, fun d => ?_⟩, fun d => absurd hM'.ge d⟩
        · rw [hQ]
          exact ⟨by rw [if_neg d, if_pos (c.resolve_left d)], hF⟩
        · rw [hQ]
          exact ⟨by rw [if_pos d], hF⟩
      | succ k ih =>
        intro i S' hi hF
        have hi' : i < n := by omega
        have hM' := hM.fm (FM.of hF rfl)
        have ih' := ih (i + 1)
        have hs : fvF (stSp S2 n (S2.1 26)) (-1, -1) (i + 1) = stSp S2 n (S2.1 26) (fvF (stSp S2 n (S2.1 26)) (-1, -1) i) i := rfl
        rw [hs, nI_succ i] at ih'
        generalize fvF (stSp S2 n (S2.1 26)) (-1, -1) i = a at ih' ⊢
        refine vX12_spoiler_18 ⟨fun d => absurd d (hM'.le hi'), fun _ => ⟨_, sp_mLoad' hM', fun r5 S4 q => ⟨vp_in_nI (by omega) (by decide), ?_⟩⟩⟩
        obtain ⟨p1, p2⟩ := q
        have h4 := hF.tr p2
        rw [hF.at 26 rfl] at p1
        rw [nI_ix (n := i) (by omega), p1 i hi']
        refine ⟨fun d => ⟨vp_in_nI (by omega) (by decide), fun S9 e9 => ?_⟩, fun d => ?_⟩
        · have hne : ¬ S2.1 26 i = -1 := fun z => by rw [z] at d; exact absurd d (by decide)
          have hS9 : SY S9 n (upd (S2.1 26) i (-1)) := by
            intro j hj
            rw [e9, stI_self]
            by_cases e : j = i
            · simp [upd, e]
            · simp only [upd, if_neg e]
              exact p1 j hj
          have h9 : Fr M5 S2 S9 := by rw [e9]; exact h4.st rfl
          refine ⟨_, sp_layGets (hM.fm (FM.of h9 rfl)) (hV.up hi' (Or.inl rfl)) hS9, fun r12 S11 q => ?_⟩
          obtain ⟨g1, g2, g3⟩ := q
          have h11 := h9.tr (g3.mono (M := M5) rfl)
          rw [gG_fm (FM.of h9 rfl)] at g2
          have hM11 := hM.fm (FM.of h11 rfl)
          refine ⟨_, sp_allGet hM11 g2, fun r17 S16 q => ?_⟩
          obtain ⟨z1, z2⟩ := q
          subst z1 z2
          rw [stSp, if_neg hne] at ih'
          refine ⟨fun e => ⟨_, sp_allGet hM11 g2, fun r23 S22 q => ?_⟩, fun e => ?_⟩
          · obtain ⟨z1, z2⟩ := q
            subst z1 z2
            rw [if_neg (Int32.not_le.mpr e)] at ih'
            exact ih' S22 (by omega) h11
          · rw [if_pos (Int32.not_lt.mp e)] at ih'
            exact ih' S16 (by omega) h11
        · have hm1 : S2.1 26 i = -1 := by
            rcases (hV i (by omega)).1 hi' with z | ⟨w, hw, z⟩
            · exact z
            · rw [z] at d
              exact absurd ((nI_le_i (a := 0) (by decide) (by omega)).mpr (Nat.zero_le _)) d
          rw [stSp, if_pos hm1] at ih'
          exact ih' S4 (by omega) h4
    exact key n 0 S2 (by omega) Fr.rf
  · rw [q1, bI_0, decide_eq_false_iff_not, hx, not_or] at c
    rw [hQ]
    exact ⟨by rw [if_neg c.1, if_neg c.2], Fr.rf⟩
theorem sp_mClaims {x : Int32} (hM : MX S n) : Ex G mX12_claims 3 [.ref 412, .int x] S (fun r S1 => ((¬ sIn n x → r = -1) ∧ (sIn n x → r = nI (mk (fun i => decide (S.1 26 i = x)) 5))) ∧ S1 = S) := by
  have hn := hM.n5
  have hV := hM.2.2.2.2.2.1
  refine eX12_claims (vX12_claims_0 ⟨_, sp_mIsSoul hM.2.1 hn, fun r3 S2 q => ?_⟩)
  obtain ⟨q1, q2⟩ := q
  subst q2
  refine ⟨fun c => ?_, fun c => ⟨⟨fun _ => rfl, fun z => absurd z (q1.mp c)⟩, rfl⟩⟩
  have hin : sIn n x := Classical.not_not.mp (fun z => c (q1.mpr z))
  have e5 : mk (fun i => decide (S2.1 26 i = x)) 5 = mk (fun i => decide (S2.1 26 i = x)) n := by
    apply Nat.eq_of_testBit_eq
    intro j
    rw [mk_bit, mk_bit]
    obtain ⟨w, hw, ew⟩ := hin
    rcases Nat.lt_or_ge j n with h | h
    · simp [h, show j < 5 by omega]
    · by_cases h5 : j < 5
      · have : ¬ S2.1 26 j = x := by
          rw [(hV j h5).2 h, ew]
          exact fun z => nI_m1 (by omega) z.symm
        simp [this]
      · simp [h5, Nat.not_lt.mpr h]
  refine loopUp (n := n) (P := fun i => RM G mX12_claims 3 _ 14 [some (.ref 412), some (.int x), some (.int (nI (mk (fun i => decide (S2.1 26 i = x)) i))), some (.int (nI i))] [] S2) ?_ ?_ 0 (by omega)
  · exact vX12_claims_14 ⟨fun _ => ⟨⟨fun z => absurd hin z, fun _ => by rw [e5]⟩, rfl⟩, fun c => absurd hM.ge c⟩
  · intro i hi ih
    refine vX12_claims_14 ⟨fun c => absurd c (hM.le hi), fun _ => ⟨in_add (a := 5) (by omega) (by decide), ?_⟩⟩
    rw [show ((5 : Int32) + nI i).toNatClampNeg = 5 + i from ix_add (a := 5) (by omega), hM.2.2.2.1.2.1 i (by omega)]
    refine ⟨fun c => ⟨_, tr0, fun r5 S4 q => ?_⟩, fun c => ⟨_, tr1, fun r5 S4 q => ?_⟩⟩
    · obtain ⟨q1, q2⟩ := q
      subst q1 q2
      rw [mk_f (i := i) (by simp [c]), nI_succ i] at ih
      rw [or_z0]
      exact ih
    · obtain ⟨q1, q2⟩ := q
      subst q1 q2
      rw [← mk_t (i := i) (by omega) (by simp [c]), nI_succ i] at ih
      exact ih
end
