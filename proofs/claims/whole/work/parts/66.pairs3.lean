/-! ===== pairs: the reference, and both ===== -/
theorem omin_a {x y : Int32} (h : y ≤ x) : omin x y = y := by
  unfold omin
  split
  · rfl
  · next z => exact Int32.le_antisymm (Int32.not_lt.mp z) h
theorem omin_b {x y : Int32} (h : ¬ y ≤ x) : omin x y = x := by
  unfold omin
  rw [if_neg (fun z => h (Int32.le_of_lt z))]
theorem okA_s {F : Nat → Nat} {q : Nat → Int32} {i : Nat} : okA F (i + 1) q = (okA F i q && okP F q i) := by
  unfold okA
  rw [anyN]
  cases anyN i (fun i => !okP F q i) <;> cases okP F q i <;> rfl
section
variable {G : ovG} {S : ovS} {F : Nat → Nat} {nm : Nat → Int32} {n m : Nat}
theorem sp_arePairs (hM : MX S n) (hV : VN n nm) (hS : SY S n nm) (hF : ∀ i, i < 5 → S.1 29 i = nI (F i) ∧ F i < 2 ^ n) : Ex G mX12_arePairs 2 [.ref 412] S (fun r S1 => r = bI (okA F n nm) ∧ S1 = S) := by
  have hn := hM.n5
  refine eX12_arePairs (vX12_arePairs_0 (loopUp (n := n) (P := fun i => RM G mX12_arePairs 2 _ 4 [some (.ref 412), some (.int (bI (okA F i nm))), some (.int (nI i))] [] S) ?_ ?_ 0 (by omega)))
  · exact vX12_arePairs_4 ⟨fun _ => ⟨b01 _, rfl, rfl⟩, fun c => absurd hM.ge c⟩
  · intro i hi ih
    have hx := nm_neg ((hV i (by omega)).1 hi) hn
    rw [okA_s, nI_succ i] at ih
    refine vX12_arePairs_4 ⟨fun c => absurd c (hM.le hi), fun _ => ?_⟩
    cases hg : okA F i nm with
    | false =>
      rw [hg] at ih
      exact ⟨fun _ => ih, fun c => absurd rfl c⟩
    | true =>
      rw [hg, Bool.true_and] at ih
      refine ⟨fun c => absurd c (by decide), fun _ => ⟨vp_in_nI (by omega) (by decide), ?_⟩⟩
      rw [nI_ix (n := i) (by omega), hS i hi, hx]
      refine ⟨fun c => ?_, fun c => ⟨vp_in_nI (by omega) (by decide), ?_⟩⟩
      · rw [show okP F nm i = true by simp [okP, c]] at ih
        exact ih
      · obtain ⟨w, hw, ew⟩ := hV.w hn hi c
        rw [ew]
        refine ⟨fun d => ?_, fun d => ⟨vp_in_nI (by omega) (by decide), vp_in_nI (by omega) (by decide), ?_⟩⟩
        · rw [show okP F nm i = false by simp [okP, ew, d, nm1 (show i < 6 by omega)]] at ih
          exact ih
        · rw [nI_ix (n := w) (by omega), hS w hw]
          refine ⟨fun e => ?_, fun e => ⟨vp_in_nI (by omega) (by decide), _, sp_isFeud hM hF (show i < 5 by omega) (show w < 5 by omega), fun r8 S7 q => ?_⟩⟩
          · rw [show okP F nm i = false by simp [okP, ew, nm1 (show w < 6 by omega), nI_ix (show w < 2147483648 by omega), e]] at ih
            exact ih
          · obtain ⟨q1, q2⟩ := q
            subst q1 q2
            have ek : okP F nm i = !((F i).testBit w) := by
              have c' : ¬ nI w = -1 := by rw [← ew]; exact c
              simp [okP, ew, c', d, nI_ix (show w < 2147483648 by omega), e]
            rw [ek] at ih
            cases hb : (F i).testBit w with
            | false =>
              rw [hb] at ih
              exact ⟨fun z => absurd rfl z, fun _ => ih⟩
            | true =>
              rw [hb] at ih
              exact ⟨fun _ => ih, fun z => absurd z (by decide)⟩
theorem sp_mPairs (hM : MX S n) (hF : ∀ i, i < 5 → S.1 29 i = nI (F i) ∧ F i < 2 ^ n) : Ex G mX12_pairs 7 [.ref 412] S (fun r S1 => r = (fvF (stPr F (fun i => gLo S i (gSd (S.1 26))) n) (-1, none) ((n + 1) ^ n)).1 ∧ LyM S S1 n (fvF (stPr F (fun i => gLo S i (gSd (S.1 26))) n) (-1, none) ((n + 1) ^ n)).2 ∧ FM S S1) := by
  have hn := hM.n5
  have hw := ways_lt hn
  have hVn := hM.2.2.2.2.2.1
  obtain ⟨lo, hlo⟩ : ∃ lo : Nat → Int32, lo = fun i => gLo S i (gSd (S.1 26)) := ⟨_, rfl⟩
  rw [← hlo]
  obtain ⟨Q, hQ⟩ : ∃ Q : Int32 → ovS → Prop, Q = (fun r S1 => r = (fvF (stPr F lo n) (-1, none) ((n + 1) ^ n)).1 ∧ LyM S S1 n (fvF (stPr F lo n) (-1, none) ((n + 1) ^ n)).2 ∧ FM S S1) := ⟨_, rfl⟩
  rw [← hQ]
  have key : ∀ k v : Nat, ∀ S' : ovS, v + k = (n + 1) ^ n → LyM S S' n (fvF (stPr F lo n) (-1, none) v).2 → FM S S' → (∀ j, j < n → S'.1 429 j = lo j) → RM G mX12_pairs 7 Q 51 [some (.ref 412), some (.int (fvF (stPr F lo n) (-1, none) v).1), some (.int (nI ((n + 1) ^ n))), none, some (.int (nI v)), none, none, none] [] S' := by
    intro k
    induction k with
    | zero =>
      intro v S' hv hL hFM h9
      have : v = (n + 1) ^ n := by omega
      subst this
      exact vX12_pairs_51 ⟨fun _ => by rw [hQ]; exact ⟨rfl, hL, hFM⟩, fun c => absurd (Int32.le_refl _) c⟩
    | succ k ih =>
      intro v S' hv hL hFM h9
      have ih' := ih (v + 1)
      have hs : fvF (stPr F lo n) (-1, none) (v + 1) = stPr F lo n (fvF (stPr F lo n) (-1, none) v) v := rfl
      rw [hs, nI_succ v] at ih'
      generalize fvF (stPr F lo n) (-1, none) v = a at hL ih' ⊢
      have hM' := hM.fm hFM
      refine vX12_pairs_51 ⟨fun c => absurd ((nI_le_i (by omega) (by omega)).mp c) (by omega), fun _ => ?_⟩
      have key2 : ∀ s : Nat, ∀ S2 : ovS, s ≤ n → Fr [427] S' S2 → (∀ j, s ≤ j → j < n → S2.1 427 j = nmv n v j) → RM G mX12_pairs 7 Q 69 [some (.ref 412), some (.int a.1), some (.int (nI ((n + 1) ^ n))), none, some (.int (nI v)), some (.int (nI (v / (n + 1) ^ (n - s)))), some (.int (nI s - 1)), none] [] S2 := by
        intro s
        induction s with
        | zero =>
          intro S2 _ hF2 h7
          have hF3 : FM S S2 := hFM.tr (FM.of hF2 rfl)
          have hM2 := hM.fm hF3
          have hL2 := hL.fr (hF2.mono rfl)
          have hS2 : SY S2 n (nmv n v) := fun j hj => h7 j (by omega) hj
          have h92 : ∀ j, j < n → S2.1 429 j = lo j := fun j hj => by rw [hF2.at 429 rfl]; exact h9 j hj
          refine vX12_pairs_69 ⟨fun _ => ⟨_, sp_arePairs hM2 (nmv_VN n v) hS2 (fun i hi => by rw [hF3.at 29 rfl]; exact hF i hi), fun r4 S3 q => ?_⟩, fun c => absurd (by decide) c⟩
          obtain ⟨q1, q2⟩ := q
          subst q1 q2
          cases ho : okA F n (nmv n v) with
          | false =>
            rw [stPr, ho, if_neg (fun z => absurd z.1 (by decide))] at ih'
            exact ⟨fun z => absurd rfl z, fun _ => ih' S3 (by omega) hL2 hF3 h92⟩
          | true =>
            refine ⟨fun _ => ?_, fun z => absurd z (by decide)⟩
            refine loopUp (n := n) (P := fun i => RM G mX12_pairs 7 Q 125 [some (.ref 412), some (.int a.1), some (.int (nI ((n + 1) ^ n))), none, some (.int (nI v)), none, some (.int (wtF lo (nmv n v) i)), some (.int (nI i))] [] S3) ?_ ?_ 0 (by omega)
            · refine vX12_pairs_125 ⟨fun _ => ⟨fun c => ⟨_, sp_putSayings hM2 hS2, fun r5 S4 q => ?_⟩, fun c => ?_⟩, fun c => absurd hM2.ge c⟩
              · rw [stPr, if_pos ⟨ho, Int32.not_le.mpr c⟩] at ih'
                exact ih' S4 (by omega) ⟨q.2.1, q.1⟩ (hF3.tr q.2.2.1) (fun j hj => by rw [q.2.2.2 429 (by decide) (by decide)]; exact h92 j hj)
              · rw [stPr, if_neg (fun z => z.2 (Int32.not_lt.mp c))] at ih'
                exact ih' S3 (by omega) hL2 hF3 h92
            · intro i hi ihi
              rw [nI_succ i] at ihi
              refine vX12_pairs_125 ⟨fun c => absurd c (hM2.le hi), fun _ => ⟨vp_in_nI (by omega) (by decide), ?_⟩⟩
              rw [nI_ix (n := i) (by omega), hS2 i hi]
              refine ⟨fun c => ?_, fun c => ⟨vp_in_nI (by omega) (by decide), vp_in_nI (by omega) (by decide), ?_⟩⟩
              · rw [wtF, if_pos c] at ihi
                exact ihi
              · have hne : ¬ nmv n v i = -1 := fun z => c (by
                  rw [z]
                  have : ∀ s, s < 5 → (-1 : Int32) ≤ nI s := by decide
                  exact this i (by omega))
                obtain ⟨w, hw2, ew⟩ := (nmv_VN n v).w hn hi hne
                rw [wtF, if_neg c, ew, nI_ix (n := w) (by omega)] at ihi
                rw [ew, nI_ix (n := w) (by omega), h92 w hw2, h92 i hi]
                refine ⟨vp_in_nI (by omega) (by decide), fun d => ⟨vp_in_nI (by omega) (by decide), vp_in_nI (by omega) (by decide), ?_⟩, fun d => ⟨vp_in_nI (by omega) (by decide), ?_⟩⟩
                · rw [omin_a d] at ihi
                  exact ihi
                · rw [omin_b d] at ihi
                  exact ihi
        | succ s ihs =>
          intro S2 hs2 hF2 h7
          have e35 : S2.1 412 35 = nI n := (hM'.fm (FM.of hF2 rfl)).2.1
          have ep : nI (s + 1) - 1 = nI s := nI_pred s
          have hnz : ¬ S2.1 412 35 + 1 = 0 := by
            rw [e35, nI_1]
            intro z
            have := (nI_eq_i (b := 0) (by omega) (by decide)).mp z
            omega
          have hd : v / (n + 1) ^ (n - (s + 1)) ≤ v := Nat.div_le_self _ _
          rw [ep]
          refine vX12_pairs_69 ⟨fun c => absurd c ?_, fun _ => ⟨hnz, vp_in_nI (by omega) (by decide), fun S7 e7 => ?_⟩⟩
          · intro z
            have := (nI_lt_i (b := 0) (by omega) (by decide)).mp z
            omega
          · rw [nI_ix (n := s) (by omega), e35, nI_1, orem_nI (by omega) (by omega) (by omega)] at e7
            have e7' : S7.1 412 35 = nI n := by rw [e7, stI_row (by decide), e35]
            rw [e7']
            rw [e35] at hnz
            refine ⟨hnz, ?_⟩
            rw [nI_1, pk_div (by omega) (by omega) (by omega), Nat.div_div_eq_div_mul, ← Nat.pow_succ, show (n - (s + 1)).succ = n - s by omega, m1_sub]
            subst e7
            refine ihs _ (by omega) (hF2.st rfl) (fun j h1 h2 => ?_)
            rw [stI_self]
            by_cases e : j = s
            · subst e
              simp only [upd, if_true, nmv, if_pos h2, dgv]
              rw [show n - 1 - j = n - (j + 1) by omega]
            · simp only [upd, if_neg e]
              exact h7 j (by omega) h2
      have h0 := key2 n S' (Nat.le_refl _) Fr.rf (fun j h1 h2 => absurd h1 (by omega))
      rw [Nat.sub_self, Nat.pow_zero, Nat.div_one] at h0
      rw [hM'.2.1]
      exact h0
  refine eX12_pairs (vX12_pairs_0 ⟨_, sp_sayingsOf hM, fun r3 S2 q => ?_⟩)
  obtain ⟨q1, q2⟩ := q
  subst q1 q2
  refine ⟨_, sp_layNow hM, fun r8 S7 q => ?_⟩
  obtain ⟨g1, _, _, g4⟩ := q
  have hFM7 : FM S2 S7 := FM.of g4 rfl
  refine ⟨_, sp_saidMany (hM.fm hFM7) hVn g1, fun r13 S12 q => ?_⟩
  obtain ⟨q1, q2⟩ := q
  subst q1 q2
  have key3 : ∀ k i : Nat, ∀ S' : ovS, i + k = n → Fr M5 S2 S' → (∀ j, j < i → S'.1 429 j = lo j) → RM G mX12_pairs 7 Q 19 [some (.ref 412), some (.int (-1)), some (.int (nI ((n + 1) ^ n))), some (.int (nI (gSd (S2.1 26)))), some (.int (nI i)), none, none, none] [] S' := by
    intro k
    induction k with
    | zero =>
      intro i S' hi hFr h9
      have : i = n := by omega
      subst this
      have hFM' : FM S2 S' := FM.of hFr rfl
      refine vX12_pairs_19 ⟨fun _ => ?_, fun c => absurd (hM.fm hFM').ge c⟩
      exact key ((i + 1) ^ i) 0 S' (by omega) ⟨hFr.at 412 rfl ▸ rfl, hFr.at 431 rfl⟩ hFM' h9
    | succ k ih =>
      intro i S' hi hFr h9
      have hFM' : FM S2 S' := FM.of hFr rfl
      refine vX12_pairs_19 ⟨fun c => absurd c ((hM.fm hFM').le (by omega)), fun _ => ⟨_, sp_loafOf (hM.fm hFM') (show i < 5 by omega), fun r4 S3 q => ⟨vp_in_nI (by omega) (by decide), fun S7 e7 => ?_⟩⟩⟩
      obtain ⟨q1, q2⟩ := q
      have er : r4 = lo i := by
        rw [hlo, q1]
        show gLo S' i (gSd (S2.1 26)) = _
        rw [gLo_sm hFM'.sm]
      have hh := ih (i + 1) S7 (by omega) (by rw [e7]; exact (hFr.tr (q2.mono rfl)).st rfl) (fun j hj => ?_)
      · rw [nI_succ i] at hh
        exact hh
      · rw [e7, nI_ix (by omega), stI_self]
        by_cases e : j = i
        · simp [upd, e, er]
        · simp only [upd, if_neg e]
          rw [q2.at 429 rfl]
          exact h9 j (by omega)
  exact key3 n 0 S12 (by omega) g4 (fun j hj => absurd hj (by omega))
theorem pb_pairs (hI : IC S n m) (hL : Ly S n) : PB G mX11_pairs 42 [.ref 0] mX12_pairs 7 [.ref 412] S := by
  obtain ⟨F, hF, hF2, hF3⟩ := hI.1.2.2.2.2.1
  refine eX11_pairs (vX11_pairs_0 ⟨_, sp_bestPairs hI.cx hI.vn (fun i hi => (hF i hi).1) hF2, fun r S1 q => ?_⟩)
  obtain ⟨q1, q2, q3⟩ := q
  have hK : KP S S1 := KP.fr q3 rfl rfl
  have hI1 := hI.kp hK
  have e : (fun i => gLo S1 i (gSd (S1.1 26))) = fun i => gLo S i (gSd (S.1 26)) := by
    funext i
    rw [hK.at 26 rfl, gLo_sm (q3.L rfl)]
  refine Ex.imp (sp_mPairs hI1.1 (F := F) (fun i hi => by rw [hK.at 29 rfl]; exact hF i hi)) (fun r2 S2 p => ?_)
  obtain ⟨p1, p2, p3⟩ := p
  rw [e] at p1 p2
  refine ⟨by rw [p1, q1], n, m, hI1.kp (KP.fm p3), ?_⟩
  unfold Ly
  rw [p3.at 369 rfl, p3.at 370 rfl]
  have hn := hI.n5
  revert p2 q2
  cases (fvF (stPr F (fun i => gLo S i (gSd (S.1 26))) n) (-1, none) ((n + 1) ^ n)).2 with
  | none =>
    intro q2 p2
    obtain ⟨c, hc, b1, b2, b3⟩ := hL
    refine ⟨c, hc, by rw [q2.1]; exact b1, by rw [p2.1, q3.at 412 rfl]; exact b2, fun i hi => ?_⟩
    rw [q2.2 i (by omega), p2.2, q3.at 431 rfl]
    exact b3 i hi
  | some v =>
    intro q2 p2
    exact ⟨n, Nat.le_refl _, q2.1, p2.1, fun i hi => by rw [q2.2 i (by omega), p2.2 i hi]⟩
end
