/-! ===== the reference: which heat tells most ===== -/
theorem tl_inv {p : Nat → Bool} {L : Nat → Int32} : ∀ d, (∀ v, ∃ j, j ≤ d ∧ (fvF (stTl p L) (fun _ => 0, 0) d).1 v = nI j) ∧ ∃ j, j ≤ d ∧ (fvF (stTl p L) (fun _ => 0, 0) d).2 = nI j
  | 0 => ⟨fun _ => ⟨0, by omega, rfl⟩, ⟨0, by omega, rfl⟩⟩
  | d + 1 => by
    obtain ⟨h1, j2, h2, h3⟩ := tl_inv (p := p) (L := L) d
    rw [fvF, stTl]
    by_cases c : p d = true
    · rw [if_pos c]
      obtain ⟨j, hj, ej⟩ := h1 (L d).toNatClampNeg
      refine ⟨fun v => ?_, ?_⟩
      · simp only [upd]
        split
        · exact ⟨j + 1, by omega, by rw [ej, nI_succ]⟩
        · obtain ⟨j', h, e⟩ := h1 v
          exact ⟨j', by omega, e⟩
      · simp only [omax]
        split
        · exact ⟨j + 1, by omega, by rw [ej, nI_succ]⟩
        · exact ⟨j2, by omega, h3⟩
    · rw [if_neg c]
      exact ⟨fun v => (h1 v).imp (fun j h => ⟨by omega, h.2⟩), j2, by omega, h3⟩
section
variable {G : ovG} {S : ovS} {n c : Nat}
theorem sp_leftBy {st o h : Int32} {p : Nat → Bool} {m : Nat} (hM : MX S n) (hT : FT S p (2 ^ m)) (hm5 : m ≤ 5) : Ex G mX12_leftBy 4 [.ref 412, .int st, .int o, .int h] S (fun r S1 => r = (fvF (stTl p (tlF S st o h)) (fun _ => 0, 0) (2 ^ m)).2 ∧ Fr [420, 421, 441] S S1) := by
  have hp5 := pow5 hm5
  have hle := fb_ct_le p (2 ^ m)
  obtain ⟨fl, hf⟩ := hM.2.2.1
  obtain ⟨L, hL⟩ : ∃ L, L = tlF S st o h := ⟨_, rfl⟩
  rw [← hL]
  refine eX12_leftBy (vX12_leftBy_0 ?_)
  have key2 : ∀ q e : Nat, ∀ S' : ovS, e + q = 2 ^ m → (∀ v, v < 100 → S'.1 441 v = (fvF (stTl p L) (fun _ => 0, 0) e).1 v) → Fr [420, 421, 441] S S' → RM G mX12_leftBy 4 (fun r S1 => r = (fvF (stTl p L) (fun _ => 0, 0) (2 ^ m)).2 ∧ Fr [420, 421, 441] S S1) 30 [some (.ref 412), some (.int st), some (.int o), some (.int h), some (.int (fvF (stTl p L) (fun _ => 0, 0) e).2), some (.int (nI (fb_ct p e))), none] [] S' := by
    intro q
    induction q with
    | zero =>
      intro e S' he ht hF
      have : e = 2 ^ m := by omega
      subst this
      refine vX12_leftBy_30 ⟨fun _ => ⟨rfl, hF⟩, fun w => absurd ?_ w⟩
      rw [hF.at 412 rfl, hT.1]
      exact Int32.le_refl _
    | succ q ih =>
      intro e S' he ht hF
      have ih' := ih (e + 1)
      have hs : fvF (stTl p L) (fun _ => 0, 0) (e + 1) = stTl p L (fvF (stTl p L) (fun _ => 0, 0) e) e := rfl
      rw [hs] at ih'
      generalize fvF (stTl p L) (fun _ => 0, 0) e = a at ht ih' ⊢
      cases hpe : p e with
      | false =>
        rw [ct_f hpe, stTl, hpe, if_neg (by decide)] at ih'
        exact ih' S' (by omega) ht hF
      | true =>
        have h1 := fb_ct_mono p (show e + 1 ≤ 2 ^ m by omega)
        rw [fb_ct, if_pos hpe] at h1
        have h40 := hT.2 e (by omega) hpe
        rw [← ct_t hpe, stTl, if_pos hpe] at ih'
        refine vX12_leftBy_30 ⟨fun w => ?_, fun _ => ⟨vp_in_nI (by omega) (by decide), ?_⟩⟩
        · rw [hF.at 412 rfl, hT.1, nI_le_i (by omega) (by omega)] at w
          omega
        · rw [nI_ix (n := fb_ct p e) (by omega), hF.at 440 rfl, h40]
          refine ⟨_, sp_mLoaf (hf.cg (hF.L rfl) (hF.at 417 rfl) (hF.at 418 rfl) (by rw [hF.at 412 rfl]) (by rw [hF.at 412 rfl])), fun r4 S3 y => ?_⟩
          obtain ⟨y1, y2⟩ := y
          have hF3 := hF.tr (y2.mono (M := [420, 421, 441]) rfl)
          rw [LF_sm (hF.L rfl)] at y1
          have eL : L e = r4 := by rw [hL, y1]; rfl
          obtain ⟨v, hv, ev⟩ := LF_rng S (nI e) st o h 0
          rw [← y1] at ev
          rw [eL, ev, nI_ix (n := v) (by omega)] at ih'
          rw [ev, nI_ix (n := v) (by omega)]
          have i100 : vp_in (nI v) 100 := vp_in_nI hv (by decide)
          refine ⟨i100, i100, fun S7 e7 => ⟨i100, ?_⟩⟩
          have e41 : S3.1 441 v = a.1 v := by rw [y2.at 441 rfl]; exact ht v hv
          rw [e41] at e7
          have e71 : S7.1 441 v = a.1 v + 1 := by rw [e7, stI_self]; simp [upd]
          rw [e71]
          have hrow : ∀ u, u < 100 → S7.1 441 u = upd a.1 v (a.1 v + 1) u := by
            intro u hu
            rw [e7, stI_self]
            simp only [upd]
            split
            · rfl
            · rw [y2.at 441 rfl]
              exact ht u hu
          have hF7 : Fr [420, 421, 441] S S7 := by rw [e7]; exact hF3.st rfl
          have hh := ih' S7 (by omega) hrow hF7
          refine ⟨fun w => ?_, fun w => ⟨i100, ?_⟩⟩
          · rw [omax, if_neg (Int32.not_lt.mpr w)] at hh
            exact hh
          · rw [omax, if_pos (Int32.not_le.mp w)] at hh
            exact hh
  have key : ∀ q i : Nat, ∀ S' : ovS, i + q = 100 → (∀ v, v < i → S'.1 441 v = 0) → Fr [420, 421, 441] S S' → RM G mX12_leftBy 4 (fun r S1 => r = (fvF (stTl p L) (fun _ => 0, 0) (2 ^ m)).2 ∧ Fr [420, 421, 441] S S1) 3 [some (.ref 412), some (.int st), some (.int o), some (.int h), some (.int (nI i)), none, none] [] S' := by
    intro q
    induction q with
    | zero =>
      intro i S' hi ht hF
      have : i = 100 := by omega
      subst this
      refine vX12_leftBy_3 ⟨fun _ => ?_, fun w => absurd (by decide) w⟩
      have := key2 (2 ^ m) 0 S' (by omega) ht hF
      exact this
    | succ q ih =>
      intro i S' hi ht hF
      refine vX12_leftBy_3 ⟨fun w => absurd ((nI_lt_i (a := 99) (by decide) (by omega)).mp w) (by omega), fun _ => ⟨vp_in_nI (by omega) (by decide), fun S2 e2 => ?_⟩⟩
      rw [nI_ix (n := i) (by omega)] at e2
      have hh := ih (i + 1) S2 (by omega) (fun v hv => ?_) (by rw [e2]; exact hF.st rfl)
      · rw [nI_succ i] at hh
        exact hh
      · rw [e2, stI_self]
        simp only [upd]
        split
        · rfl
        · exact ht v (by omega)
  exact key 100 0 S (by omega) (fun v hv => absurd hv (by omega)) Fr.rf
def asR (p : Nat → Bool) (N : Nat) (L : Int32 → Nat → Int32) (w : Int32) : Int32 := if anyN N p = false then -1 else if w = 0 then (fvF (stAs p N L) (-1, -1) 10).1 else (fvF (stAs p N L) (-1, -1) 10).2
theorem in100 {y : Int32} : (¬ y < 0 ∧ ¬ 99 < y) ↔ sIn 100 y := in_lt (n := 100) (by decide)
theorem in2 {y : Int32} : (¬ y < 0 ∧ ¬ 1 < y) ↔ (y = 0 ∨ y = 1) := by
  rw [show (1 : Int32) = nI 2 - 1 by decide, in_lt (by decide)]
  constructor
  · rintro ⟨i, h1, h2⟩
    have : i = 0 ∨ i = 1 := by omega
    rcases this with rfl | rfl
    · exact Or.inl h2
    · exact Or.inr h2
  · rintro (h | h)
    · exact ⟨0, by decide, h⟩
    · exact ⟨1, by decide, h⟩
theorem any_ct {p : Nat → Bool} {N : Nat} : fb_ct p N = 0 ↔ anyN N p = false := by
  rw [fb_ct_zero]
  constructor
  · intro h
    cases hc : anyN N p with
    | false => rfl
    | true =>
      obtain ⟨i, h1, h2⟩ := anyN_iff.mp hc
      rw [h i h1] at h2
      cases h2
  · intro h i hi
    cases hc : p i with
    | false => rfl
    | true =>
      rw [anyN_iff.mpr ⟨i, hi, hc⟩] at h
      cases h
theorem as_fst {p : Nat → Bool} {N : Nat} {L : Int32 → Nat → Int32} : ∀ i, ∃ h, h ≤ i ∧ (fvF (stAs p N L) (-1, -1) (i + 1)).1 = nI h
  | 0 => ⟨0, by omega, by rw [fvF, fvF, stAs, if_pos (Or.inl rfl)]⟩
  | i + 1 => by
    obtain ⟨h, h1, h2⟩ := as_fst (p := p) (N := N) (L := L) i
    rw [fvF, stAs]
    split
    · exact ⟨i + 1, by omega, rfl⟩
    · exact ⟨h, by omega, h2⟩
theorem sp_mAsk {st o w k : Int32} {m : Nat} (hM : MX S n) (hR : RR S c) (hm : S.1 412 34 = nI m) (hm5 : m ≤ 5) : Ex G mX12_ask 6 [.ref 412, .int st, .int o, .int w, .int k] S (fun r S1 => ((¬ (sIn 100 st ∧ sIn 100 o ∧ (w = 0 ∨ w = 1)) → r = -1) ∧ (sIn 100 st ∧ sIn 100 o ∧ (w = 0 ∨ w = 1) → r = asR (fitP S c k) (2 ^ m) (tlF S st o) w)) ∧ FJ Lt Jt S S1) := by
  have hp5 := pow5 hm5
  obtain ⟨Q, hQ⟩ : ∃ Q : Int32 → ovS → Prop, Q = (fun r S1 => ((¬ (sIn 100 st ∧ sIn 100 o ∧ (w = 0 ∨ w = 1)) → r = -1) ∧ (sIn 100 st ∧ sIn 100 o ∧ (w = 0 ∨ w = 1) → r = asR (fitP S c k) (2 ^ m) (tlF S st o) w)) ∧ FJ Lt Jt S S1) := ⟨_, rfl⟩
  rw [← hQ]
  have bad : ¬ (sIn 100 st ∧ sIn 100 o ∧ (w = 0 ∨ w = 1)) → Q (-1) S := fun h => by
    rw [hQ]
    exact ⟨⟨fun _ => rfl, fun z => absurd z h⟩, FJ.rf⟩
  refine eX12_ask (vX12_ask_0 ⟨_, sp_isIn, fun r3 S2 q => ?_⟩)
  obtain ⟨q1, q2⟩ := q
  subst q2
  rw [q1, bI_0, decide_eq_false_iff_not, in100]
  refine ⟨fun z => bad (fun y => z y.1), fun z => ⟨_, sp_isIn, fun r9 S8 q => ?_⟩⟩
  obtain ⟨q1, q2⟩ := q
  subst q2
  rw [q1, bI_0, decide_eq_false_iff_not, in100]
  refine ⟨fun z2 => bad (fun y => z2 y.2.1), fun z2 => ⟨_, sp_isIn, fun r15 S14 q => ?_⟩⟩
  obtain ⟨q1, q2⟩ := q
  subst q2
  rw [q1, bI_0, decide_eq_false_iff_not, in2]
  refine ⟨fun z3 => ⟨_, sp_layFits hM hR hm hm5, fun r21 S20 q => ?_⟩, fun z3 => bad (fun y => z3 y.2.2)⟩
  have ok : sIn 100 st ∧ sIn 100 o ∧ (w = 0 ∨ w = 1) := ⟨Classical.not_not.mp z, Classical.not_not.mp z2, Classical.not_not.mp z3⟩
  have good : ∀ {v : Int32} {S1 : ovS}, v = asR (fitP S14 c k) (2 ^ m) (tlF S14 st o) w → FJ Lt Jt S14 S1 → Q v S1 := fun h h1 => by
    rw [hQ]
    exact ⟨⟨fun z => absurd ok z, fun _ => h⟩, h1⟩
  generalize fitP S14 c k = p at q good
  obtain ⟨hT, hF⟩ := q
  have hle := fb_ct_le p (2 ^ m)
  rw [hT.1, show (0 : Int32) = nI 0 from rfl, nI_eq_i (by omega) (by decide), any_ct]
  refine ⟨fun y => ?_, fun y => good (by rw [asR, if_pos y]) hF⟩
  obtain ⟨L, hL⟩ : ∃ L, L = tlF S14 st o := ⟨_, rfl⟩
  rw [← hL] at good
  have key : ∀ q i : Nat, ∀ S' : ovS, i + q = 9 → FT S' p (2 ^ m) → FJ Lt Jt S14 S' → RM G mX12_ask 6 Q 57 [some (.ref 412), some (.int st), some (.int o), some (.int w), none, some (.int (fvF (stAs p (2 ^ m) L) (-1, -1) (i + 1)).1), some (.int (fvF (stAs p (2 ^ m) L) (-1, -1) (i + 1)).2), some (.int (nI (i + 1))), none] [] S' := by
    intro q
    induction q with
    | zero =>
      intro i S' hi hT' hF'
      have : i = 9 := by omega
      subst this
      refine vX12_ask_57 ⟨fun _ => ⟨fun x => good ?_ hF', fun x => good ?_ hF'⟩, fun x => absurd (by decide) x⟩
      · rw [asR, if_neg y, if_neg x]
      · rw [asR, if_neg y, if_pos x]
    | succ q ih =>
      intro i S' hi hT' hF'
      have ih' := ih (i + 1)
      have hs : fvF (stAs p (2 ^ m) L) (-1, -1) (i + 1 + 1) = stAs p (2 ^ m) L (fvF (stAs p (2 ^ m) L) (-1, -1) (i + 1)) (i + 1) := rfl
      rw [hs, nI_succ (i + 1)] at ih'
      obtain ⟨h0, hh0, eh0⟩ := as_fst (p := p) (N := 2 ^ m) (L := L) i
      generalize fvF (stAs p (2 ^ m) L) (-1, -1) (i + 1) = a at ih' eh0 ⊢
      have hM' := hM.fj hF' rfl rfl
      refine vX12_ask_57 ⟨fun x => absurd ((nI_lt_i (a := 9) (by decide) (by omega)).mp x) (by omega), fun _ => ⟨_, sp_leftBy hM' hT' hm5, fun r5 S4 z => ?_⟩⟩
      obtain ⟨y1, y2⟩ := z
      have etl : tlF S' st o = L := by
        rw [hL]
        unfold tlF
        rw [LF_sm (hF'.sm rfl)]
      rw [show tlF S' st o (nI (i + 1)) = L (nI (i + 1)) by rw [etl]] at y1
      have hF4 := hF'.tr (FJ.of (L := Lt) (J := Jt) y2 rfl)
      have hT4 : FT S4 p (2 ^ m) := by
        unfold FT
        rw [y2.at 412 rfl, y2.at 440 rfl]
        exact hT'
      have hne : ¬ a.1 = -1 := by
        rw [eh0]
        exact fun x => absurd (show nI h0 < 0 by rw [x]; decide) (nI_neg (by omega))
      rw [y1]
      refine ⟨fun x => ?_, fun x => ?_⟩
      · rw [stAs, if_pos (Or.inr (Int32.not_le.mpr x))] at ih'
        exact ih' S4 (by omega) hT4 hF4
      · rw [stAs, if_neg (fun x2 => x2.elim hne (fun x3 => x3 (Int32.not_lt.mp x)))] at ih'
        exact ih' S4 (by omega) hT4 hF4
  have hM' := hM.fj hF rfl rfl
  refine vX12_ask_57 ⟨fun x => absurd x (by decide), fun _ => ⟨_, sp_leftBy hM' hT hm5, fun r5 S4 z => ?_⟩⟩
  obtain ⟨y1, y2⟩ := z
  have etl : tlF S20 st o = L := by
    rw [hL]
    unfold tlF
    rw [LF_sm (hF.sm rfl)]
  rw [etl] at y1
  have hF4 := hF.tr (FJ.of (L := Lt) (J := Jt) y2 rfl)
  have hT4 : FT S4 p (2 ^ m) := by
    unfold FT
    rw [y2.at 412 rfl, y2.at 440 rfl]
    exact hT
  have h1 : fvF (stAs p (2 ^ m) L) (-1, -1) 1 = (nI 0, r5) := by
    rw [fvF, fvF, stAs, if_pos (Or.inl rfl), y1]
  have hlt : r5 < 1000 := by
    obtain ⟨_, j, hj, ej⟩ := tl_inv (p := p) (L := L (nI 0)) (2 ^ m)
    rw [y1, ej]
    exact (nI_lt_i (b := 1000) (by omega) (by decide)).mpr (by omega)
  have hk := key 9 0 S4 (by omega) hT4 hF4
  rw [h1] at hk
  exact ⟨fun _ => hk, fun x => absurd hlt x⟩
end
