theorem isNm_lo {n : Nat} {x : Int32} (h : isNm n x) (hn : n ≤ 5) : ¬ x < -1 := by
  rcases h with rfl | ⟨w, hw, rfl⟩
  · decide
  · have : w = 0 ∨ w = 1 ∨ w = 2 ∨ w = 3 ∨ w = 4 := by omega
    rcases this with rfl | rfl | rfl | rfl | rfl <;> decide
theorem isNm_hi {n : Nat} {x : Int32} (h : isNm n x) (hn : n ≤ 5) : x < 5 := by
  rcases h with rfl | ⟨w, hw, rfl⟩
  · decide
  · have : w = 0 ∨ w = 1 ∨ w = 2 ∨ w = 3 ∨ w = 4 := by omega
    rcases this with rfl | rfl | rfl | rfl | rfl <;> decide
theorem mk_ext {p q : Nat → Bool} : ∀ {n : Nat}, (∀ i, i < n → p i = q i) → mk p n = mk q n
  | 0, _ => rfl
  | n + 1, h => by
    rw [mk, mk, mk_ext (fun i hi => h i (by omega)), h n (by omega)]
theorem mk_or {p : Nat → Bool} {n s : Nat} (hs : s < n) : mk p n ||| 2 ^ s = mk (fun i => p i || decide (i = s)) n := by
  apply Nat.eq_of_testBit_eq
  intro j
  rw [Nat.testBit_or, mk_bit, mk_bit, Nat.testBit_two_pow]
  by_cases h : s = j
  · subst h
    simp [hs]
  · have h2 : ¬ j = s := fun q => h q.symm
    simp [h, h2]
theorem clr5 : ∀ g, g < 32 → ∀ s, s < 5 → nI g &&& ((1 <<< (nI s &&& 31)) ^^^ (-1)) = nI (mk (fun i => g.testBit i && !(decide (i = s))) 5) := by decide +kernel
theorem or5 {g s : Nat} (hs : s < 32) : nI g ||| (1 <<< (nI s &&& 31)) = nI (g ||| 2 ^ s) := by rw [sh1 s hs, fa_or]
theorem updN_ct {nm : Nat → Int32} {s : Nat} {w x : Int32} (hs : s < 5) : fb_ct (fun i => decide (upd nm s w i = x)) 5 = fb_ct (fun i => if i = s then false else decide (nm i = x)) 5 + (if w = x then 1 else 0) := by
  have h1 := fb_ct_upd (fun i => decide (nm i = x)) false hs
  have h2 := fb_ct_upd (fun i => decide (nm i = x)) (decide (w = x)) hs
  have h3 : fb_ct (fun i => decide (upd nm s w i = x)) 5 = fb_ct (fun k => if k = s then decide (w = x) else decide (nm k = x)) 5 := by
    apply fb_ct_cong
    intro k _
    by_cases hk : k = s
    · simp [upd, hk]
    · simp [upd, hk]
  rw [h3]
  simp only [decide_eq_true_eq, Bool.false_eq_true, if_false] at h1 h2
  omega
theorem sp_put {G : ovG} {S : ovS} {nm : Nat → Int32} {s : Nat} {w : Int32} (hs : s < 5) (hw : isNm 5 w) (ho : isNm 5 (nm s)) (hB : BN S nm) : Ex G mX0_put 1 [.ref 364, .int (nI s), .int w] S (fun _ S1 => Fr [364, 365, 366] S S1 ∧ BN S1 (upd nm s w)) := by
  have hix : (nI s).toNatClampNeg = s := nI_ix (by omega)
  have hin : vp_in (nI s) 5 := vp_in_nI hs (by decide)
  have hc : ∀ v, v < 5 → fb_ct (fun i => if i = s then false else decide (nm i = nI v)) 5 + (if nm s = nI v then 1 else 0) = fb_ct (fun i => decide (nm i = nI v)) 5 := by
    intro v _
    have h1 := fb_ct_upd (fun i => decide (nm i = nI v)) false hs
    simp only [decide_eq_true_eq, Bool.false_eq_true, if_false] at h1
    omega
  have K : ∀ S' : ovS, Fr [364, 365, 366] S S' → S'.1 365 = S.1 365 → S'.1 364 = S.1 364 → (∀ v, v < 5 → S'.1 366 v = nI (fb_ct (fun i => if i = s then false else decide (nm i = nI v)) 5)) → RM G mX0_put 1 (fun _ S1 => Fr [364, 365, 366] S S1 ∧ BN S1 (upd nm s w)) 46 [some (.ref 364), some (.int (nI s)), some (.int w), none] [] S' := by
    intro S' hF h5 h4 h6
    have hn5 : ∀ i, i < 5 → (stI S' 365 s w).1 365 i = upd nm s w i := by
      intro i hi
      rw [stI_self, h5]
      by_cases e : i = s
      · simp [upd, e]
      · simp [upd, e, hB.1 i hi]
    refine vX0_put_46 ⟨hin, fun S1 e1 => ⟨fun c => ?_, fun c => ?_⟩⟩
    · obtain ⟨v, hv, rfl⟩ := hw.resolve_left c
      have hv2 : vp_in (nI v) 5 := vp_in_nI hv (by decide)
      have hvx : (nI v).toNatClampNeg = v := nI_ix (by omega)
      refine ⟨hv2, hv2, fun S3 e3 S4 e4 => ?_⟩
      subst e4 e3 e1
      rw [hix, hvx]
      refine ⟨((hF.st rfl).st rfl).st rfl, fun i hi => ?_, fun u hu => ?_, ?_⟩
      · rw [stI_row (by decide), stI_row (by decide)]
        exact hn5 i hi
      · rw [stI_row (by decide), updN_ct hs, stI_self, stI_row (by decide)]
        by_cases e : u = v
        · subst e
          simp only [upd, if_true, h6 u hu, nI_1]
        · have e2 : ¬ nI v = nI u := fun q => e ((nI_eq_i (by omega) (by omega)).mp q).symm
          simp only [upd, if_neg e, if_neg e2, h6 u hu, Nat.add_zero]
      · rw [stI_self]
        simp only [upd, if_true]
        rw [stI_row (by decide), stI_row (by decide), h4, hB.2.2, or5 (by omega), mk_or hs]
        congr 1
        apply mk_ext
        intro i _
        by_cases e : i = s
        · simp [upd, e, nI_m1 hv]
        · simp [upd, e]
    · intro S5 e5
      subst e5 e1
      rw [hix]
      refine ⟨(hF.st rfl).st rfl, fun i hi => ?_, fun u hu => ?_, ?_⟩
      · rw [stI_row (by decide)]
        exact hn5 i hi
      · rw [stI_row (by decide), updN_ct hs, stI_row (by decide), h6 u hu, c, if_neg (fun q => nI_m1 hu q.symm), Nat.add_zero]
      · rw [stI_self]
        simp only [upd, if_true]
        rw [stI_row (by decide), h4, hB.2.2, clr5 _ (mk_lt _ 5) _ hs]
        congr 1
        apply mk_ext
        intro i hi
        rw [mk_bit]
        by_cases e : i = s
        · simp [upd, e, c]
        · simp [upd, e, hi]
  refine eX0_put (vX0_put_0 ⟨fun c => absurd c (nI_pos (by omega)), fun _ => ⟨fun c => absurd ((nI_le_i (a := 5) (by decide) (by omega)).mp c) (by omega), fun _ => ⟨fun c => absurd c (isNm_lo hw (by decide)), fun _ => ⟨fun _ => ⟨hin, fun c => ?_, fun c => ?_⟩, fun c => absurd (isNm_hi hw (by decide)) c⟩⟩⟩⟩)
  · rw [hix, hB.1 s hs] at c
    refine K S Fr.rf rfl rfl (fun v hv => ?_)
    have h1 := hc v hv
    have h2 : ¬ nm s = nI v := fun q => by rw [q] at c; exact nI_pos (by omega) c
    rw [if_neg h2] at h1
    rw [hB.2.1 v hv, ← h1, Nat.add_zero]
  · rw [hix, hB.1 s hs] at c ⊢
    obtain ⟨v0, hv0, hv1⟩ := ho.resolve_left (fun q => c (by rw [q]; decide))
    rw [hv1]
    have hvx : (nI v0).toNatClampNeg = v0 := nI_ix (by omega)
    refine ⟨fun c2 => absurd ((nI_le_i (a := 5) (by decide) (by omega)).mp c2) (by omega), fun _ => ⟨vp_in_nI hv0 (by decide), vp_in_nI hv0 (by decide), fun S7 e7 => ?_⟩⟩
    subst e7
    rw [hvx]
    refine K _ (Fr.rf.st rfl) (stI_row (by decide)) (stI_row (by decide)) (fun v hv => ?_)
    have h1 := hc v hv
    rw [stI_self]
    by_cases e : v = v0
    · subst e
      rw [if_pos hv1] at h1
      simp only [upd, if_true, hB.2.1 v hv, ← h1]
      exact nI_pred _
    · have e2 : ¬ nm s = nI v := fun q => e ((nI_eq_i (by omega) (by omega)).mp (hv1.symm.trans q)).symm
      rw [if_neg e2] at h1
      simp only [upd, if_neg e, hB.2.1 v hv, ← h1, Nat.add_zero]
theorem sp_loafBy {G : ovG} {S : ovS} {sd w : Nat} (hf : FOk S) (hC : BC S) (hsd : sd < 6) (hw : w < 5) : Ex G mX0_loafBy 3 [.ref 364, .int (nI sd), .int (nI w)] S (fun r S1 => r = gLo S w sd ∧ Fr [23, 367] S S1 ∧ BC S1) := by
  have hk : nI sd * 5 + nI w = nI (sd * 5 + w) := by
    have : (5 : Int32) = nI 5 := rfl
    rw [this, pk_mul, nI_add]
  have hkx : (nI (sd * 5 + w)).toNatClampNeg = sd * 5 + w := nI_ix (by omega)
  have hki : vp_in (nI (sd * 5 + w)) 30 := vp_in_nI (by omega) (by decide)
  have hwi : vp_in (nI w) 5 := vp_in_nI hw (by decide)
  have hwx : (nI w).toNatClampNeg = w := nI_ix (by omega)
  have hc0 := hC (sd * 5 + w) (by omega)
  rw [show (sd * 5 + w) % 5 = w by omega, show (sd * 5 + w) / 5 = sd by omega] at hc0
  refine eX0_loafBy (vX0_loafBy_0 ?_)
  rw [hk, hkx, hwx]
  refine ⟨fun c => absurd c (nI_pos (by omega)), fun _ => ⟨fun c => absurd ((nI_le_i (a := 30) (by decide) (by omega)).mp c) (by omega), fun _ => ⟨fun c => absurd c (nI_pos (by omega)), fun _ => ⟨fun _ => ⟨hki, fun c => ⟨hki, hc0.resolve_left c, Fr.rf, hC⟩, fun c => ⟨hwi, hwi, hwi, _, sp_LF hf, fun r S7 q => ⟨hki, fun S11 e11 => ⟨hki, ?_⟩⟩⟩⟩, fun c => absurd ((nI_lt_i (b := 5) (by omega) (by decide)).mpr hw) c⟩⟩⟩⟩
  subst e11
  obtain ⟨q1, q2⟩ := q
  have hr : r = gLo S w sd := q1
  have hF : Fr [23, 367] S (stI S7 367 (sd * 5 + w) r) := (q2.mono rfl).st rfl
  refine ⟨?_, hF, fun k hk => ?_⟩
  · rw [stI_self]
    simp [upd, hr]
  · rw [gLo_sm (hF.L rfl), stI_self]
    by_cases e : k = sd * 5 + w
    · subst e
      right
      rw [show (sd * 5 + w) % 5 = w by omega, show (sd * 5 + w) / 5 = sd by omega, hr]
      simp [upd]
    · simp only [upd, if_neg e, q2.at 367 rfl]
      exact hC k hk
