/-! ===== course: the class, candidates ===== -/
def crR (A : Nat → Nat → Int32) (c : Nat) (w : Int32) : Int32 := if c = 0 then -1 else if c ≤ 10 then (if lnT A c (2 ^ c - 1) = 99 then -1 else if w = 0 then nI (lnT A c (2 ^ c - 1)) else if c ≤ 1 then -1 else bgF (Wp A c (lnT A c) (2 ^ c - 1)) 10) else -2
section
variable {G : ovG} {S S0 : ovS} {c : Nat}
theorem ten_ij {h j : Nat} : nI h * 10 + nI j = nI (h * 10 + j) := by
  rw [show (10 : Int32) = nI 10 from rfl, pk_mul, nI_add]
theorem sp_takeAlike {a : Nat → Int32} {h : Nat} (hc : c ≤ 10) (hh : h < 10) (hf : FOk S) (e14 : S.1 376 14 = nI c) (ha : ∀ j, j < c → LF S (S.1 384 j) 0 0 (nI h) 0 = a j) : Ex G mX6_takeAlike 3 [.ref 376, .int (nI h)] S (fun _ S1 => Fr [23, 385, 386] S S1 ∧ (∀ j, j < c → S1.1 386 (h * 10 + j) = nI (mk (fun i => decide (a i = a j)) c)) ∧ ∀ q, q < h * 10 → S1.1 386 q = S.1 386 q) := by
  obtain ⟨Q, hQ⟩ : ∃ Q : Int32 → ovS → Prop, Q = (fun _ S1 => Fr [23, 385, 386] S S1 ∧ (∀ j, j < c → S1.1 386 (h * 10 + j) = nI (mk (fun i => decide (a i = a j)) c)) ∧ ∀ q, q < h * 10 → S1.1 386 q = S.1 386 q) := ⟨_, rfl⟩
  rw [← hQ]
  have in10 : ∀ j, j < c → vp_in (nI j) 10 := fun j hj => vp_in_nI (by omega) (by decide)
  have key2 : ∀ k one : Nat, ∀ S' : ovS, one + k = c → Fr [23, 385, 386] S S' → (∀ j, j < c → S'.1 385 j = a j) → (∀ j, j < one → S'.1 386 (h * 10 + j) = nI (mk (fun i => decide (a i = a j)) c)) → (∀ q, q < h * 10 → S'.1 386 q = S.1 386 q) → RM G mX6_takeAlike 3 Q 44 [some (.ref 376), some (.int (nI h)), some (.int (nI one)), none, none] [] S' := by
    intro k
    induction k with
    | zero =>
      intro one S' ho hF h5 h6 h7
      have : one = c := by omega
      subst this
      exact vX6_takeAlike_44 ⟨fun _ => by rw [hQ]; exact ⟨hF, h6, h7⟩, fun z => absurd (by rw [hF.at 376 rfl, e14]; exact Int32.le_refl _) z⟩
    | succ k ih =>
      intro one S' ho hF h5 h6 h7
      have e14' : S'.1 376 14 = nI c := by rw [hF.at 376 rfl]; exact e14
      refine vX6_takeAlike_44 ⟨fun z => absurd z (nI_next e14' (by omega) (by omega)), fun _ => ?_⟩
      refine loopUp (n := c) (P := fun i => RM G mX6_takeAlike 3 Q 57 [some (.ref 376), some (.int (nI h)), some (.int (nI one)), some (.int (nI (mk (fun i => decide (a i = a one)) i))), some (.int (nI i))] [] S') ?_ ?_ 0 (by omega)
      · refine vX6_takeAlike_57 ⟨fun _ => ?_, fun z => absurd (by rw [e14']; exact Int32.le_refl _) z⟩
        rw [ten_ij]
        refine ⟨vp_in_nI (by omega) (by decide), fun S2 e2 => ?_⟩
        rw [nI_ix (by omega)] at e2
        have hg := ih (one + 1) S2 (by omega) (by rw [e2]; exact hF.st rfl) (fun j hj => by rw [e2, stI_row (by decide)]; exact h5 j hj) (fun j hj => ?_) (fun q hq => ?_)
        · rw [nI_succ one] at hg
          exact hg
        · rw [e2, stI_self]
          by_cases e : j = one
          · simp [upd, e]
          · have : ¬ h * 10 + j = h * 10 + one := by omega
            simp only [upd, if_neg this]
            exact h6 j (by omega)
        · rw [e2, stI_self]
          have : ¬ q = h * 10 + one := by omega
          simp only [upd, if_neg this]
          exact h7 q hq
      · intro i hi ihi
        rw [nI_succ i] at ihi
        refine vX6_takeAlike_57 ⟨fun z => absurd z (nI_next e14' (by omega) (by omega)), fun _ => ⟨in10 one (by omega), in10 i hi, ?_⟩⟩
        rw [nI_ix (n := one) (by omega), nI_ix (n := i) (by omega), h5 one (by omega), h5 i hi]
        refine ⟨fun z => ?_, fun z => ?_⟩
        · rw [mk_f (i := i) (by simpa using fun y => z (Eq.symm y))] at ihi
          exact ihi
        · rw [← mk_t (i := i) (by omega) (by simpa using z.symm)] at ihi
          exact ihi
  have key : ∀ k one : Nat, ∀ S' : ovS, one + k = c → Fr [23, 385] S S' → (∀ j, j < one → S'.1 385 j = a j) → RM G mX6_takeAlike 3 Q 2 [some (.ref 376), some (.int (nI h)), some (.int (nI one)), none, none] [] S' := by
    intro k
    induction k with
    | zero =>
      intro one S' ho hF h5
      have : one = c := by omega
      subst this
      exact vX6_takeAlike_2 ⟨fun _ => key2 one 0 S' (by omega) (hF.mono rfl) h5 (fun j hj => absurd hj (by omega)) (fun q _ => by rw [hF.at 386 rfl]), fun z => absurd (by rw [hF.at 376 rfl, e14]; exact Int32.le_refl _) z⟩
    | succ k ih =>
      intro one S' ho hF h5
      have e14' : S'.1 376 14 = nI c := by rw [hF.at 376 rfl]; exact e14
      refine vX6_takeAlike_2 ⟨fun z => absurd z (nI_next e14' (by omega) (by omega)), fun _ => ⟨in10 one (by omega), _, sp_LF (FOk_fr hF rfl hf), fun r4 S3 q => ⟨in10 one (by omega), fun S7 e7 => ?_⟩⟩⟩
      obtain ⟨q1, q2⟩ := q
      rw [nI_ix (n := one) (by omega)] at q1 e7
      have er : r4 = a one := by
        rw [q1, LF_fr hF rfl, hF.at 384 rfl]
        exact ha one (by omega)
      have hg := ih (one + 1) S7 (by omega) (by rw [e7]; exact (hF.tr (q2.mono rfl)).st rfl) (fun j hj => ?_)
      · rw [nI_succ one] at hg
        exact hg
      · rw [e7, stI_self]
        by_cases e : j = one
        · simp [upd, e, er]
        · simp only [upd, if_neg e]
          rw [q2.at 385 rfl]
          exact h5 j (by omega)
  exact eX6_takeAlike (vX6_takeAlike_0 (key c 0 S (by omega) Fr.rf (fun j hj => absurd hj (by omega))))
theorem sp_takeCandidates {p : Nat → Bool} {m : Nat} (hm : CD S m) (hf : FOk S) (hc : fb_ct p (2 ^ m) ≤ 10) : Ex G mX6_takeCandidates 4 [.ref 376, .int (nI (mk p (2 ^ m)))] S (fun _ S1 => Fr [23, 376, 384, 385, 386, 387] S S1 ∧ (∀ j, j ≠ 14 → S1.1 376 j = S.1 376 j) ∧ S1.1 376 14 = nI (fb_ct p (2 ^ m)) ∧ (∀ h, h < 10 → ∀ j, j < fb_ct p (2 ^ m) → S1.1 386 (h * 10 + j) = nI (mk (fun i => decide (LF S (cdF p (2 ^ m) i) 0 0 (nI h) 0 = LF S (cdF p (2 ^ m) j) 0 0 (nI h) 0)) (fb_ct p (2 ^ m)))) ∧ ∀ g, g < 1024 → S1.1 387 g = -1) := by
  have hp5 := pow5 hm.2
  obtain ⟨Q, hQ⟩ : ∃ Q : Int32 → ovS → Prop, Q = (fun _ S1 => Fr [23, 376, 384, 385, 386, 387] S S1 ∧ (∀ j, j ≠ 14 → S1.1 376 j = S.1 376 j) ∧ S1.1 376 14 = nI (fb_ct p (2 ^ m)) ∧ (∀ h, h < 10 → ∀ j, j < fb_ct p (2 ^ m) → S1.1 386 (h * 10 + j) = nI (mk (fun i => decide (LF S (cdF p (2 ^ m) i) 0 0 (nI h) 0 = LF S (cdF p (2 ^ m) j) 0 0 (nI h) 0)) (fb_ct p (2 ^ m)))) ∧ ∀ g, g < 1024 → S1.1 387 g = -1) := ⟨_, rfl⟩
  rw [← hQ]
  have key2 : ∀ k h : Nat, ∀ S' : ovS, h + k = 10 → Fr [23, 376, 384, 385, 386] S S' → (∀ j, j ≠ 14 → S'.1 376 j = S.1 376 j) → S'.1 376 14 = nI (fb_ct p (2 ^ m)) → (∀ j, j < fb_ct p (2 ^ m) → S'.1 384 j = cdF p (2 ^ m) j) → (∀ h', h' < h → ∀ j, j < fb_ct p (2 ^ m) → S'.1 386 (h' * 10 + j) = nI (mk (fun i => decide (LF S (cdF p (2 ^ m) i) 0 0 (nI h') 0 = LF S (cdF p (2 ^ m) j) 0 0 (nI h') 0)) (fb_ct p (2 ^ m)))) → RM G mX6_takeCandidates 4 Q 65 [some (.ref 376), none, some (.int (nI h))] [] S' := by
    intro k
    induction k with
    | zero =>
      intro h S' hh hF h6 e14 h4 h8
      have : h = 10 := by omega
      subst this
      refine vX6_takeCandidates_65 ⟨fun _ => ⟨_, sp_fill (n := 1024) rfl rfl (by decide), fun r4 S3 q => ?_⟩, fun z => absurd (by decide) z⟩
      rw [hQ, q]
      refine ⟨(hF.mono rfl).se rfl, fun j hj => by rw [seI_row (by decide)]; exact h6 j hj, by rw [seI_row (by decide)]; exact e14, fun h' hh' j hj => by rw [seI_row (by decide)]; exact h8 h' hh' j hj, fun g hg => ?_⟩
      rw [seI_self]
      simp [fillR, hg]
    | succ k ih =>
      intro h S' hh hF h6 e14 h4 h8
      have eL : LF S' = LF S := LF_fr hF rfl
      refine vX6_takeCandidates_65 ⟨fun z => absurd ((nI_le_i (a := 10) (by decide) (by omega)).mp z) (by omega), fun _ => ⟨_, sp_takeAlike (a := fun j => LF S (cdF p (2 ^ m) j) 0 0 (nI h) 0) hc (show h < 10 by omega) (FOk_fr hF rfl hf) e14 (fun j hj => by rw [eL, h4 j hj]), fun r9 S8 q => ?_⟩⟩
      obtain ⟨q1, q2, q3⟩ := q
      have hg := ih (h + 1) S8 (by omega) (hF.tr (q1.mono rfl)) (fun j hj => by rw [q1.at 376 rfl]; exact h6 j hj) (by rw [q1.at 376 rfl]; exact e14) (fun j hj => by rw [q1.at 384 rfl]; exact h4 j hj) (fun h' hh' j hj => ?_)
      · rw [nI_succ h] at hg
        exact hg
      · by_cases e : h' = h
        · rw [e]
          exact q2 j hj
        · rw [q3 _ (by omega)]
          exact h8 h' (by omega) j hj
  have key : ∀ k d : Nat, ∀ S' : ovS, d + k = 2 ^ m → Fr [376, 384] S S' → (∀ j, j ≠ 14 → S'.1 376 j = S.1 376 j) → S'.1 376 14 = nI (fb_ct p d) → (∀ j, j < fb_ct p d → S'.1 384 j = cdF p d j) → RM G mX6_takeCandidates 4 Q 7 [some (.ref 376), some (.int (nI (mk p (2 ^ m)))), some (.int (nI d))] [] S' := by
    intro k
    induction k with
    | zero =>
      intro d S' hd hF h6 e14 h4
      have : d = 2 ^ m := by omega
      subst this
      exact vX6_takeCandidates_7 ⟨fun _ => key2 10 0 S' (by omega) (hF.mono rfl) h6 e14 h4 (fun h' hh => absurd hh (by omega)), fun z => absurd (by rw [hF.at 16 rfl, hm.1, sh1 m (by have := hm.2; omega)]; exact Int32.le_refl _) z⟩
    | succ k ih =>
      intro d S' hd hF h6 e14 h4
      have ih' := ih (d + 1)
      rw [nI_succ d] at ih'
      have hlt : mk p (2 ^ m) < 2 ^ 32 := mk_lt32 (by omega)
      refine vX6_takeCandidates_7 ⟨fun z => ?_, fun _ => ⟨fun z => ?_, fun z => ?_⟩⟩
      · rw [hF.at 16 rfl, hm.1, sh1 m (by have := hm.2; omega)] at z
        exact absurd ((nI_le_i (by omega) (by omega)).mp z) (by omega)
      · rw [bit32 hlt (by omega), mk_bit] at z
        have hp : p d = false := by simpa [show d < 2 ^ m by omega] using z
        rw [ct_f hp, cdF, hp] at ih'
        exact ih' S' (by omega) hF h6 e14 h4
      · have hp : p d = true := by
          cases hb : p d with
          | true => rfl
          | false =>
            exfalso
            apply z
            rw [bit32 hlt (by omega), mk_bit, hb, Bool.and_false]
        have hs : fb_ct p (d + 1) = fb_ct p d + 1 := by rw [fb_ct_succ, hp]; rfl
        have hlec : fb_ct p (d + 1) ≤ fb_ct p (2 ^ m) := fb_ct_mono p (by omega)
        refine ⟨fun y => ?_, fun _ => ⟨by rw [e14]; exact vp_in_nI (by omega) (by decide), fun S4 e4 S5 e5 => ?_⟩⟩
        · rw [e14] at y
          exact absurd ((nI_le_i (a := 10) (by decide) (by omega)).mp y) (by omega)
        · rw [e14, nI_ix (by omega)] at e4
          have e4' : S4.1 376 14 = nI (fb_ct p d) := by rw [e4, stI_row (by decide)]; exact e14
          rw [e4', ← nI_succ, ← hs] at e5
          subst e5 e4
          refine ih' _ (by omega) ((hF.st rfl).st rfl) (fun j hj => ?_) ?_ (fun j hj => ?_)
          · rw [stI_1, if_pos rfl, if_neg hj, stI_row (by decide)]
            exact h6 j hj
          · rw [stI_1, if_pos rfl, if_pos rfl]
          · rw [stI_row (by decide), stI_self, cdF, if_pos hp]
            by_cases e : j = fb_ct p d
            · simp [upd, e]
            · simp only [upd, if_neg e]
              exact h4 j (by omega)
  refine eX6_takeCandidates (vX6_takeCandidates_0 (fun S1 e1 => ?_))
  subst e1
  refine key (2 ^ m) 0 _ (by omega) (Fr.rf.st rfl) (fun j hj => ?_) ?_ (fun j hj => absurd hj (by rw [show fb_ct p 0 = 0 from rfl]; omega))
  · rw [stI_1, if_pos rfl, if_neg hj]
  · rw [stI_1, if_pos rfl, if_pos rfl]
    rfl
theorem sp_bestCourse {w k : Int32} {m c' : Nat} (hf : FOk S) (hR : CR S c') (hm : CD S m) : Ex G mX6_bestCourse 42 [.ref 376, .int w, .int k] S (fun r S1 => r = crR (fun h j => LF S (cdF (fitP S c' k) (2 ^ m) j) 0 0 (nI h) 0) (fb_ct (fitP S c' k) (2 ^ m)) w ∧ Fr [23, 376, 384, 385, 386, 387] S S1 ∧ ∀ j, j ≠ 14 → S1.1 376 j = S.1 376 j) := by
  have hp5 := pow5 hm.2
  refine eX6_bestCourse (vX6_bestCourse_0 ⟨_, sp_fitting hf hR hm, fun r3 S2 q => ?_⟩)
  obtain ⟨q1, q2⟩ := q
  subst q1
  generalize fitP S c' k = p
  have hle : fb_ct p (2 ^ m) ≤ 32 := Nat.le_trans (fb_ct_le _ _) hp5
  have e6 : ∀ j, j ≠ 14 → S2.1 376 j = S.1 376 j := fun j _ => by rw [q2.at 376 rfl]
  refine ⟨fun z => ⟨_, sp_bitCount, fun r9 S8 q => ?_⟩, fun z => ⟨?_, q2.mono rfl, e6⟩⟩
  · obtain ⟨q3, q4⟩ := q
    subst q4
    rw [nI_z (mk_lt32 (by omega)), mk_z] at z
    have hc0 : ¬ fb_ct p (2 ^ m) = 0 := fun y => z (any_ct.mp y)
    rw [q3, bc_mk (by omega)]
    refine ⟨fun y => ?_, fun y => ⟨?_, q2.mono rfl, e6⟩⟩
    · have hc : fb_ct p (2 ^ m) ≤ 10 := (nI_le_i (b := 10) (by omega) (by decide)).mp y
      have h2c := pow10 hc
      refine ⟨_, sp_takeCandidates (p := p) (m := m) ⟨by rw [q2.at 16 rfl]; exact hm.1, hm.2⟩ (FOk_fr q2 rfl hf) hc, fun r15 S14 q => ?_⟩
      obtain ⟨g1, g2, g3, g4, g5⟩ := q
      rw [LF_fr q2 rfl] at g4
      obtain ⟨A, hA⟩ : ∃ A : Nat → Nat → Int32, A = fun h j => LF S (cdF p (2 ^ m) j) 0 0 (nI h) 0 := ⟨_, rfl⟩
      have g4' : ∀ h, h < 10 → ∀ j, j < fb_ct p (2 ^ m) → S14.1 386 (h * 10 + j) = nI (mk (fun i => decide (A h i = A h j)) (fb_ct p (2 ^ m))) := by
        rw [hA]
        exact g4
      rw [← hA]
      clear g4
      generalize fb_ct p (2 ^ m) = c at *
      have hM : MM A c S14 S14 := ⟨Fr.rf, fun g hg => Or.inl (g5 g (by omega))⟩
      rw [g3, all_I hc]
      have hb := lnT_b (A := A) (c := c) (g := 2 ^ c - 1)
      have fin : ∀ {S' : ovS}, MM A c S14 S' → Fr [23, 376, 384, 385, 386, 387] S S' ∧ ∀ j, j ≠ 14 → S'.1 376 j = S.1 376 j := fun hM' => ⟨(q2.mono rfl).tr (g1.tr (hM'.1.mono rfl)), fun j hj => by rw [hM'.1.at 376 rfl, g2 j hj]; exact e6 j hj⟩
      refine ⟨_, sp_lengthOf hc g3 g4' 10 30 (2 ^ c - 1) 0 S14 (all_lt c) (by rw [all_pc]; exact hc) (by omega) (by omega) hM, fun r20 S19 q => ?_⟩
      obtain ⟨q5, q6⟩ := q
      rw [q5, show (99 : Int32) = nI 99 from rfl, nI_eq_i (by omega) (by decide)]
      refine ⟨fun x => ⟨fun v => ⟨_, sp_firstHeat hc g3 g4' q6 x, fun r27 S26 q => ⟨?_, fin q.2⟩⟩, fun v => ⟨?_, fin q6⟩⟩, fun x => ⟨?_, fin q6⟩⟩
      · rw [q.1, crR, if_neg hc0, if_pos hc, if_neg x, if_neg v]
      · rw [crR, if_neg hc0, if_pos hc, if_neg x, if_pos v]
      · rw [crR, if_neg hc0, if_pos hc, if_pos x]
    · have hc : ¬ fb_ct p (2 ^ m) ≤ 10 := fun x => y ((nI_le_i (b := 10) (by omega) (by decide)).mpr x)
      rw [crR, if_neg hc0, if_neg hc]
  · rw [nI_z (mk_lt32 (by omega)), mk_z] at z
    rw [crR, if_pos (any_ct.mpr z)]
end
