/-! ===== the reference: reports ===== -/
/-- REPORTS of both sides are the same -/
def RR (S : ovS) (c : Nat) : Prop := CR S c ∧ S.1 412 63 = nI c ∧ (∃ t, t ≤ 100000 ∧ S.1 376 2 = nI t) ∧ S.1 412 64 = S.1 376 2 ∧ (∀ j, j < c → S.1 434 j = S.1 377 j ∧ S.1 435 j = S.1 378 j ∧ S.1 436 j = S.1 379 j ∧ S.1 437 j = S.1 380 j ∧ S.1 438 j = S.1 381 j ∧ S.1 439 j = S.1 382 j ∧ (S.1 382 j = -1 ∨ ∃ t, t ≤ 100000 ∧ S.1 382 j = nI t))
abbrev RRr : List Nat := [377, 378, 379, 380, 381, 382, 434, 435, 436, 437, 438, 439]
theorem RR.cg {S S1 : ovS} {c : Nat} (h : RR S c) (e : ∀ k, k ∈ RRr → S1.1 k = S.1 k) (e1 : S1.1 376 1 = S.1 376 1) (e2 : S1.1 376 2 = S.1 376 2) (e3 : S1.1 412 63 = S.1 412 63) (e4 : S1.1 412 64 = S.1 412 64) : RR S1 c := by
  unfold RR CR at h ⊢
  rw [e 377 (by decide), e 378 (by decide), e 379 (by decide), e 380 (by decide), e 381 (by decide), e 382 (by decide), e 434 (by decide), e 435 (by decide), e 436 (by decide), e 437 (by decide), e 438 (by decide), e 439 (by decide), e1, e2, e3, e4]
  exact h
section
variable {G : ovG} {S : ovS} {n c : Nat}
theorem rp_sm {L J : List Nat} {S1 : ovS} (h : FJ L J S S1) (hL : ([20, 21, 22, 25, 27, 28, 24].all fun k => !(L.contains k)) = true) (hL2 : ([377, 378, 379, 380, 381, 382].all fun k => !(L.contains k)) = true) : rpF S1 = rpF S := by
  have e : ∀ k, k ∈ ([377, 378, 379, 380, 381, 382] : List Nat) → S1.1 k = S.1 k := by
    intro k hk
    have h3 := List.all_eq_true.mp hL2 k hk
    refine h.1 k (by simpa using h3) (fun e => by subst e; revert hk; decide)
  funext d k j
  unfold rpF
  rw [LF_sm (h.sm hL), e 377 (by decide), e 378 (by decide), e 379 (by decide), e 380 (by decide), e 381 (by decide), e 382 (by decide)]
abbrev Lt : List Nat := [420, 421, 440, 441, 442, 443, 444]
theorem sp_fits {d k : Int32} (hf : ∃ fl, FR S fl) (hR : RR S c) : Ex G mX12_fits 4 [.ref 412, .int d, .int k] S (fun r S1 => r = bI (!anyN c (rpF S d k)) ∧ Fr [420, 421] S S1) := by
  have hc30 := hR.1.2
  obtain ⟨fl, hf⟩ := hf
  refine eX12_fits (vX12_fits_0 ?_)
  have key : ∀ q i : Nat, ∀ S' : ovS, i + q = c → Fr [420, 421] S S' → RM G mX12_fits 4 (fun r S1 => r = bI (!anyN c (rpF S d k)) ∧ Fr [420, 421] S S1) 5 [some (.ref 412), some (.int d), some (.int k), some (.int (bI (!anyN i (rpF S d k)))), some (.int (nI i))] [] S' := by
    intro q
    induction q with
    | zero =>
      intro i S' hi hF
      have : i = c := by omega
      subst this
      refine vX12_fits_5 ⟨fun _ => ⟨b01 _, rfl, hF⟩, fun z => absurd ?_ z⟩
      rw [hF.at 412 rfl, hR.2.1]
      exact Int32.le_refl _
    | succ q ih =>
      intro i S' hi hF
      have hi' : i < c := by omega
      have hii : vp_in (nI i) 30 := vp_in_nI (by omega) (by decide)
      have hix : (nI i).toNatClampNeg = i := nI_ix (by omega)
      obtain ⟨a1, a2, a3, a4, a5, a6, a7⟩ := hR.2.2.2.2 i hi'
      have ih' := ih (i + 1)
      rw [anyN, Bool.not_or, nI_succ i] at ih'
      refine vX12_fits_5 ⟨fun z => ?_, fun _ => ⟨fun z => ?_, fun z => ⟨hii, ?_⟩⟩⟩
      · rw [hF.at 412 rfl, hR.2.1, nI_le_i (by omega) (by omega)] at z
        omega
      · rw [bI_0] at z
        refine ⟨b01 _, ?_, hF⟩
        have : anyN i (rpF S d k) = true := by simpa using z
        obtain ⟨j, hj, h3⟩ := anyN_iff.mp this
        rw [this, anyN_iff.mpr ⟨j, (by omega : j < c), h3⟩]
      · rw [bI_0, Bool.not_eq_false] at z
        rw [z, Bool.true_and] at ih'
        rw [z, hix, hF.at 438 rfl, hF.at 439 rfl, a5, a6]
        have skip : rpF S d k i = false → RM G mX12_fits 4 (fun r S1 => r = bI (!anyN c (rpF S d k)) ∧ Fr [420, 421] S S1) 5 [some (.ref 412), some (.int d), some (.int k), some (.int (bI true)), some (.int (nI i + 1))] [] S' := by
          intro h
          rw [h] at ih'
          exact ih' S' (by omega) hF
        have neg : S.1 382 i < 0 ↔ S.1 382 i = -1 := by
          rcases a7 with h | ⟨t, ht, h⟩
          · rw [h]; decide
          · rw [h]
            refine ⟨fun z => absurd z (nI_neg (by omega)), fun z => absurd (show nI t < 0 by rw [z]; decide) (nI_neg (by omega))⟩
        have go : (decide (¬ k < S.1 381 i) && (decide (S.1 382 i = -1) || decide (k < S.1 382 i))) = true → RM G mX12_fits 4 (fun r S1 => r = bI (!anyN c (rpF S d k)) ∧ Fr [420, 421] S S1) 50 [some (.ref 412), some (.int d), some (.int k), none, some (.int (nI i))] [] S' := by
          intro h
          have hr : rpF S d k i = decide (¬ LF S d (S.1 377 i) (S.1 378 i) (S.1 379 i) 0 = S.1 380 i) := by
            unfold rpF
            rw [h, Bool.true_and]
          refine vX12_fits_50 ⟨hii, hii, hii, _, sp_mLoaf (hf.cg (hF.L rfl) (hF.at 417 rfl) (hF.at 418 rfl) (by rw [hF.at 412 rfl]) (by rw [hF.at 412 rfl])), fun r3 S2 q => ⟨hii, ?_⟩⟩
          rw [hix] at q ⊢
          rw [hF.at 434 rfl, hF.at 435 rfl, hF.at 436 rfl, a1, a2, a3, LF_sm (hF.L rfl)] at q
          have hF2 := hF.tr q.2
          rw [hF2.at 437 rfl, a4, q.1]
          rw [hr] at ih'
          refine ⟨fun y => ?_, fun y => ?_⟩
          · rw [decide_eq_true y] at ih'
            exact ih' S2 (by omega) hF2
          · rw [decide_eq_false (fun x => x y)] at ih'
            exact ih' S2 (by omega) hF2
        refine ⟨fun y => ?_, fun y => ⟨hii, fun x => ?_, fun x => ⟨hii, fun w => ?_, fun w => ?_⟩⟩⟩
        · refine skip ?_
          unfold rpF
          rw [decide_eq_false (fun x => x y)]
          rfl
        · refine go ?_
          rw [decide_eq_true y, decide_eq_true (neg.mp x)]
          rfl
        · refine skip ?_
          unfold rpF
          rw [decide_eq_false (fun v => x (neg.mpr v)), decide_eq_false (Int32.not_lt.mpr w)]
          simp
        · refine go ?_
          rw [decide_eq_true y, decide_eq_true (Int32.not_le.mp w)]
          simp
  exact key c 0 S (by omega) Fr.rf
/-- the list of those that fit -/
def FT (S : ovS) (p : Nat → Bool) (N : Nat) : Prop := S.1 412 66 = nI (fb_ct p N) ∧ ∀ d, d < N → p d = true → S.1 440 (fb_ct p d) = nI d
theorem FT.kth {p : Nat → Bool} {N j : Nat} (h : FT S p N) (hj : j < fb_ct p N) : ∃ d, d < N ∧ p d = true ∧ fb_ct p d = j ∧ S.1 440 j = nI d := by
  obtain ⟨d, h1, h2, h3⟩ := fb_ct_kth hj
  exact ⟨d, h1, h2, h3, by rw [← h3]; exact h.2 d h1 h2⟩
abbrev Jt : List Nat := [66]
theorem sp_layFits {k : Int32} {m : Nat} (hM : MX S n) (hR : RR S c) (hm : S.1 412 34 = nI m) (hm5 : m ≤ 5) : Ex G mX12_layFits 5 [.ref 412, .int k] S (fun _ S1 => FT S1 (fitP S c k) (2 ^ m) ∧ FJ Lt Jt S S1) := by
  have hp := pow5 hm5
  refine eX12_layFits (vX12_layFits_0 (fun S1 e1 => ?_))
  have hF1 : FJ Lt Jt S S1 := by rw [e1]; exact FJ.rf.s4 rfl
  have h66 : S1.1 412 66 = 0 := by rw [e1, stI_1]; rfl
  generalize hpp : fitP S c k = p
  have key : ∀ q i : Nat, ∀ S' : ovS, i + q = 2 ^ m → FT S' p i → FJ Lt Jt S S' → RM G mX12_layFits 5 (fun _ S1 => FT S1 p (2 ^ m) ∧ FJ Lt Jt S S1) 7 [some (.ref 412), some (.int k), some (.int (nI i))] [] S' := by
    intro q
    induction q with
    | zero =>
      intro i S' hi hT hF
      have : i = 2 ^ m := by omega
      subst this
      refine vX12_layFits_7 ⟨fun _ => ⟨hT, hF⟩, fun z => absurd ?_ z⟩
      rw [hF.sl 34 rfl, hm, sh1 m (by omega)]
      exact Int32.le_refl _
    | succ q ih =>
      intro i S' hi hT hF
      have hM' := hM.fj hF rfl rfl
      have hR' : RR S' c := hR.cg (fun k hk => hF.1 k (by revert hk; revert k; decide) (fun e => by subst e; revert hk; decide)) (by rw [hF.at 376 rfl]) (by rw [hF.at 376 rfl]) (hF.sl 63 rfl) (hF.sl 64 rfl)
      have hle := fb_ct_le p i
      have ih' := ih (i + 1)
      rw [nI_succ i] at ih'
      refine vX12_layFits_7 ⟨fun z => ?_, fun _ => ⟨_, sp_fits hM'.2.2.1 hR', fun r4 S3 y => ?_⟩⟩
      · rw [hF.sl 34 rfl, hm, sh1 m (by omega), nI_le_i (by omega) (by omega)] at z
        omega
      · obtain ⟨y1, y2⟩ := y
        rw [rp_sm hF rfl rfl] at y1
        have y1' : r4 = bI (p i) := by rw [y1, ← hpp]; rfl
        have hF3 := hF.tr (FJ.of (L := Lt) (J := Jt) y2 rfl)
        have hT3 : FT S3 p i := by
          unfold FT
          rw [y2.at 412 rfl, y2.at 440 rfl]
          exact hT
        rw [y1', bI_0]
        refine ⟨fun z => ?_, fun z => ?_⟩
        · rw [Bool.not_eq_false] at z
          rw [hT3.1, nI_ix (n := fb_ct p i) (by omega)]
          refine ⟨vp_in_nI (by omega) (by decide), fun S8 e8 S9 e9 => ?_⟩
          have e66 : S8.1 412 66 = nI (fb_ct p i) := by rw [e8, stI_row (by decide)]; exact hT3.1
          rw [e66, ct_t z] at e9
          subst e9
          refine ih' _ (by omega) ⟨?_, fun d hd hpd => ?_⟩ ?_
          · rw [stI_1]
            rfl
          · rw [stI_row (by decide), e8, stI_self]
            by_cases e : d = i
            · subst e
              simp [upd]
            · have hlt : d < i := by omega
              have hne : ¬ fb_ct p d = fb_ct p i := by
                have h1 := fb_ct_mono p (show d + 1 ≤ i by omega)
                rw [fb_ct, if_pos hpd] at h1
                omega
              simp only [upd, if_neg hne]
              exact hT3.2 d hlt hpd
          · rw [e8]
            exact (hF3.st rfl rfl).s4 rfl
        · have hT' : FT S3 p (i + 1) := by
            refine ⟨?_, fun d hd hpd => ?_⟩
            · rw [ct_f z]
              exact hT3.1
            · by_cases e : d = i
              · subst e
                rw [z] at hpd
                cases hpd
              · exact hT3.2 d (by omega) hpd
          exact ih' S3 (by omega) hT' hF3
  exact key (2 ^ m) 0 S1 (by omega) ⟨by rw [h66]; rfl, fun d hd => absurd hd (by omega)⟩ hF1
theorem sp_mFit {k : Int32} {m : Nat} (hM : MX S n) (hR : RR S c) (hm : S.1 412 34 = nI m) (hm5 : m ≤ 5) : Ex G mX12_fit 6 [.ref 412, .int k] S (fun r S1 => r = nI (fb_ct (fitP S c k) (2 ^ m)) ∧ FJ Lt Jt S S1) := by
  refine eX12_fit (vX12_fit_0 ⟨_, sp_layFits hM hR hm hm5, fun r3 S2 q => ⟨q.1.1, q.2⟩⟩)
/-- a set as bits, built of its list -/
theorem mk_ct {p : Nat → Bool} {d N : Nat} (hp : p d = true) (hd : ∀ e, d < e → e < N → p e = true → False) (hN : d < N) : mk p N = mk p (d + 1) := by
  apply Nat.eq_of_testBit_eq
  intro j
  rw [mk_bit, mk_bit]
  by_cases h1 : j < d + 1
  · simp [h1, show j < N by omega]
  · by_cases h2 : j < N
    · cases hc : p j with
      | false => simp
      | true => exact (hd j (by omega) h2 hc).elim
    · simp [h1, h2]
def mkJ (p : Nat → Bool) (N j : Nat) : Nat := mk (fun d => p d && decide (fb_ct p d < j)) N
theorem mkJ_0 {p : Nat → Bool} {N : Nat} : mkJ p N 0 = 0 := by
  apply Nat.eq_of_testBit_eq
  intro i
  unfold mkJ
  rw [mk_bit]
  simp
theorem mkJ_all {p : Nat → Bool} {N : Nat} : mkJ p N (fb_ct p N) = mk p N := by
  unfold mkJ
  refine mk_ext (fun d hd => ?_)
  cases hp : p d with
  | false => rfl
  | true =>
    have h1 := fb_ct_mono p (show d + 1 ≤ N by omega)
    rw [fb_ct, if_pos hp] at h1
    simp [show fb_ct p d < fb_ct p N by omega]
theorem mkJ_s {p : Nat → Bool} {N d : Nat} (hp : p d = true) (hd : d < N) : mkJ p N (fb_ct p d + 1) = mkJ p N (fb_ct p d) ||| 2 ^ d := by
  unfold mkJ
  rw [mk_or hd]
  refine mk_ext (fun e he => ?_)
  by_cases h : e = d
  · subst h
    simp [hp]
  · cases hpe : p e with
    | false => simp [h]
    | true =>
      have : fb_ct p e ≠ fb_ct p d := fun z => h (fb_ct_kth_one hpe hp z)
      have h2 : decide (fb_ct p e < fb_ct p d + 1) = decide (fb_ct p e < fb_ct p d) := decide_eq_decide.mpr (by omega)
      simp [h, h2]
theorem sp_mSets {k : Int32} {m : Nat} (hM : MX S n) (hR : RR S c) (hm : S.1 412 34 = nI m) (hm5 : m ≤ 5) : Ex G mX12_sets 6 [.ref 412, .int k] S (fun r S1 => r = nI (mk (fitP S c k) (2 ^ m)) ∧ FJ Lt Jt S S1) := by
  have hp5 := pow5 hm5
  refine eX12_sets (vX12_sets_0 ⟨_, sp_layFits hM hR hm hm5, fun r3 S2 q => ?_⟩)
  generalize fitP S c k = p at q ⊢
  obtain ⟨hT, hF⟩ := q
  have hle := fb_ct_le p (2 ^ m)
  have h0 := loopUp (n := fb_ct p (2 ^ m)) (P := fun j => RM G mX12_sets 6 (fun r S1 => r = nI (mk p (2 ^ m)) ∧ FJ Lt Jt S S1) 9 [some (.ref 412), none, some (.int (nI (mkJ p (2 ^ m) j))), some (.int (nI j))] [] S2) ?_ ?_ 0 (by omega)
  · rw [mkJ_0] at h0
    exact h0
  · refine vX12_sets_9 ⟨fun _ => ⟨by rw [mkJ_all], hF⟩, fun z => absurd ?_ z⟩
    rw [hT.1]
    exact Int32.le_refl _
  · intro j hj ih
    obtain ⟨d, h1, h2, h3, h4⟩ := hT.kth hj
    refine vX12_sets_9 ⟨fun z => ?_, fun _ => ⟨vp_in_nI (by omega) (by decide), ?_⟩⟩
    · rw [hT.1, nI_le_i (by omega) (by omega)] at z
      omega
    · rw [nI_ix (n := j) (by omega), h4, or5 (by omega)]
      rw [nI_succ j, ← h3, mkJ_s h2 h1, h3] at ih
      exact ih
theorem sp_mSure {k x : Int32} {m : Nat} (hM : MX S n) (hR : RR S c) (hm : S.1 412 34 = nI m) (hm5 : m ≤ 5) : Ex G mX12_sure 6 [.ref 412, .int x, .int k] S (fun r S1 => ((¬ sIn m x → r = -1) ∧ ∀ d, d < m → x = nI d → r = suF (fitP S c k) (2 ^ m) d) ∧ FJ Lt Jt S S1) := by
  have hp5 := pow5 hm5
  refine eX12_sure (vX12_sure_0 ⟨_, sp_mIsDeed hm hm5, fun r3 S2 q => ?_⟩)
  obtain ⟨q1, q2⟩ := q
  subst q2
  refine ⟨fun z => ?_, fun z => ⟨⟨fun _ => rfl, fun d hd e => absurd ⟨d, hd, e⟩ (q1.mp z)⟩, FJ.rf⟩⟩
  have hin : sIn m x := Classical.not_not.mp (fun y => z (q1.mpr y))
  obtain ⟨d, hd, hx⟩ := hin
  subst hx
  refine ⟨_, sp_layFits hM hR hm hm5, fun r9 S8 q => ?_⟩
  generalize fitP S2 c k = p at q ⊢
  obtain ⟨hT, hF⟩ := q
  have hle := fb_ct_le p (2 ^ m)
  have fin : ∀ {v : Int32} {S1 : ovS}, v = suF p (2 ^ m) d → FJ Lt Jt S2 S1 → ((¬ sIn m (nI d) → v = -1) ∧ ∀ d', d' < m → nI d = nI d' → v = suF p (2 ^ m) d') ∧ FJ Lt Jt S2 S1 := by
    intro v S1 hv h1
    refine ⟨⟨fun y => absurd ⟨d, hd, rfl⟩ y, fun d' hd' e => ?_⟩, h1⟩
    rw [← (nI_eq_i (by omega) (by omega)).mp e]
    exact hv
  have any0 : fb_ct p (2 ^ m) = 0 ↔ anyN (2 ^ m) p = false := by
    rw [fb_ct_zero]
    constructor
    · intro h
      cases hc : anyN (2 ^ m) p with
      | false => rfl
      | true =>
        obtain ⟨i, h1, h2⟩ := anyN_iff.mp hc
        rw [h i h1] at h2
        cases h2
    · intro h i hi
      cases hc : p i with
      | false => rfl
      | true =>
        rw [anyN_iff.mpr ⟨i, hi, hc⟩] at h
        cases h
  rw [hT.1]
  refine ⟨fun y => ?_, fun y => fin ?_ hF⟩
  · have hne : ¬ anyN (2 ^ m) p = false := fun w => y (by rw [any0.mpr w]; rfl)
    have hpos : 0 < fb_ct p (2 ^ m) := Nat.pos_of_ne_zero (fun w => hne (any0.mp w))
    -- how many of the first j have the deed
    have cnt : ∀ e, e ≤ 2 ^ m → fb_ct (fun i => p i && i.testBit d) e ≤ fb_ct p e := fun e _ => fb_ct_sub (fun i _ h => by
      rw [Bool.and_eq_true] at h
      exact h.1)
    have key : ∀ q e : Nat, e + q = 2 ^ m → RM G mX12_sure 6 (fun r S1 => ((¬ sIn m (nI d) → r = -1) ∧ ∀ d', d' < m → nI d = nI d' → r = suF p (2 ^ m) d') ∧ FJ Lt Jt S2 S1) 29 [some (.ref 412), some (.int (nI d)), none, some (.int (nI (fb_ct (fun i => p i && i.testBit d) e))), some (.int (nI (fb_ct p e)))] [] S8 := by
      intro q
      induction q with
      | zero =>
        intro e he
        have : e = 2 ^ m := by omega
        subst this
        have c1 := cnt (2 ^ m) (Nat.le_refl _)
        refine vX12_sure_29 ⟨fun _ => ?_, fun w => absurd (by rw [hT.1]; exact Int32.le_refl _) w⟩
        rw [hT.1, nI_eq_i (by omega) (by omega)]
        have z0 : nI (fb_ct (fun i => p i && i.testBit d) (2 ^ m)) = 0 ↔ anyN (2 ^ m) (fun i => p i && i.testBit d) = false := by
          rw [show (0 : Int32) = nI 0 from rfl, nI_eq_i (by omega) (by decide), fb_ct_zero]
          constructor
          · intro h
            cases hc : anyN (2 ^ m) (fun i => p i && i.testBit d) with
            | false => rfl
            | true =>
              obtain ⟨i, h1, h2⟩ := anyN_iff.mp hc
              rw [h i h1] at h2
              cases h2
          · intro h i hi
            cases hc : (p i && i.testBit d) with
            | false => rfl
            | true =>
              rw [anyN_iff.mpr ⟨i, hi, hc⟩] at h
              cases h
        have zA : fb_ct (fun i => p i && i.testBit d) (2 ^ m) = fb_ct p (2 ^ m) ↔ anyN (2 ^ m) (fun i => p i && !(i.testBit d)) = false := by
          have hs : fb_ct p (2 ^ m) = fb_ct (fun i => p i && i.testBit d) (2 ^ m) + fb_ct (fun i => p i && !(i.testBit d)) (2 ^ m) := by
            rw [← fb_ct_or (fun i _ h => by
              rw [Bool.and_eq_true, Bool.and_eq_true] at h
              have h2 := h.2.2
              rw [h.1.2] at h2
              cases h2)]
            refine fb_ct_cong (fun i _ => ?_)
            cases p i <;> cases i.testBit d <;> rfl
          have z2 : fb_ct (fun i => p i && !(i.testBit d)) (2 ^ m) = 0 ↔ anyN (2 ^ m) (fun i => p i && !(i.testBit d)) = false := by
            rw [fb_ct_zero]
            constructor
            · intro h
              cases hc : anyN (2 ^ m) (fun i => p i && !(i.testBit d)) with
              | false => rfl
              | true =>
                obtain ⟨i, h1, h2⟩ := anyN_iff.mp hc
                rw [h i h1] at h2
                cases h2
            · intro h i hi
              cases hc : (p i && !(i.testBit d)) with
              | false => rfl
              | true =>
                rw [anyN_iff.mpr ⟨i, hi, hc⟩] at h
                cases h
          rw [← z2]
          omega
        refine ⟨fun w => ⟨fun v => fin ?_ hF, fun v => fin ?_ hF⟩, fun w => fin ?_ hF⟩
        · rw [suF, if_neg hne, if_neg (fun h => v (z0.mpr h)), if_neg (fun h => w (zA.mpr h))]
        · rw [suF, if_neg hne, if_pos (z0.mp v)]
        · rw [suF, if_neg hne, if_neg, if_pos (zA.mp w)]
          intro h
          have := (nI_eq_i (b := 0) (by omega) (by decide)).mp (z0.mpr h)
          omega
      | succ q ih =>
        intro e he
        have ih' := ih (e + 1) (by omega)
        cases hpe : p e with
        | false =>
          rw [ct_f hpe, ct_f (p := fun i => p i && i.testBit d) (by rw [hpe]; rfl)] at ih'
          exact ih'
        | true =>
          have h1 := fb_ct_mono p (show e + 1 ≤ 2 ^ m by omega)
          rw [fb_ct, if_pos hpe] at h1
          have h40 := hT.2 e (by omega) hpe
          refine vX12_sure_29 ⟨fun w => ?_, fun _ => ⟨vp_in_nI (by omega) (by decide), ?_⟩⟩
          · rw [hT.1, nI_le_i (by omega) (by omega)] at w
            omega
          · rw [nI_ix (n := fb_ct p e) (by omega), h40, mem5 e (by omega) d (by omega)]
            rw [← ct_t hpe] at ih'
            cases hb : e.testBit d with
            | true =>
              rw [← ct_t (p := fun i => p i && i.testBit d) (by rw [hpe, hb]; rfl)] at ih'
              exact ih'
            | false =>
              rw [ct_f (p := fun i => p i && i.testBit d) (by rw [hpe, hb]; rfl)] at ih'
              rw [if_neg (by decide), Int32.add_zero]
              exact ih'
    have h0 := key (2 ^ m) 0 (by omega)
    exact h0
  · have : fb_ct p (2 ^ m) = 0 := (nI_eq_i (b := 0) (by omega) (by decide)).mp y
    rw [suF, if_pos (any0.mp this)]
end
