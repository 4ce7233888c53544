/-! ===== the reference over the week as it was (the class has gone on already) ===== -/
def NWg (C S : ovS) : Prop := (∀ i, i < 5 → S.1 426 i = C.1 25 i) ∧ (∀ i, i < 5 → S.1 426 (5 + i) = C.1 26 i) ∧ (∀ i, i < 5 → S.1 426 (10 + i) = C.1 29 i) ∧ (∀ i, i < 5 → S.1 426 (15 + i) = C.1 27 i) ∧ (∀ i, i < 5 → S.1 426 (20 + i) = C.1 28 i) ∧ (∀ i, i < 5 → S.1 426 (25 + i) = C.1 30 i) ∧ (∀ i, i < 5 → S.1 426 (30 + i) = C.1 31 i) ∧ S.1 426 35 = C.1 24 7
def MXg (C S : ovS) (n : Nat) : Prop := n ≤ 5 ∧ S.1 412 35 = nI n ∧ (∃ fl, FR S fl) ∧ NWg C S ∧ FD n (C.1 29) ∧ VN n (C.1 26) ∧ (∀ s, s < n → S.1 425 s = C.1 17 s) ∧ LF S = LF C
section
variable {G : ovG} {C S : ovS} {n : Nat} {nm : Nat → Int32}
theorem MXg.fm {S0 : ovS} (h : MXg C S0 n) (hF : FM S0 S) : MXg C S n := by
  obtain ⟨h1, h2, ⟨fl, h3⟩, h4, h5, h6, h7, h8⟩ := h
  refine ⟨h1, by rw [hF.2.1 35 (by decide)]; exact h2, ⟨fl, h3.cg hF.sm (hF.at 417 rfl) (hF.at 418 rfl) (hF.2.1 18 (by decide)) (hF.2.1 39 (by decide))⟩, ?_, h5, h6, ?_, by rw [LF_sm hF.sm]; exact h8⟩
  · unfold NWg at h4 ⊢
    rw [hF.at 426 rfl]
    exact h4
  · rw [hF.at 425 rfl]
    exact h7
theorem MXg.n5 (hM : MXg C S n) : n ≤ 5 := hM.1
theorem MXg.le {i : Nat} (hM : MXg C S n) (hi : i < n) : ¬ S.1 412 35 ≤ nI i := nI_next hM.2.1 (by have := hM.1; omega) hi
theorem MXg.ge (hM : MXg C S n) : S.1 412 35 ≤ nI n := by rw [hM.2.1]; exact Int32.le_refl _
theorem sp_mLoadG (hM : MXg C S n) : Ex G mX12_load 1 [.ref 412] S (fun _ S1 => (∀ i, i < 5 → S1.1 427 i = C.1 26 i) ∧ Fr [427] S S1) := by
  refine eX12_load (vX12_load_0 ?_)
  have key : ∀ k i : Nat, ∀ S' : ovS, i + k = 5 → Fr [427] S S' → (∀ j, j < i → S'.1 427 j = C.1 26 j) → RM G mX12_load 1 (fun _ S1 => (∀ i, i < 5 → S1.1 427 i = C.1 26 i) ∧ Fr [427] S S1) 2 [some (.ref 412), some (.int (nI i))] [] S' := by
    intro k
    induction k with
    | zero =>
      intro i S' hi hF h
      have : i = 5 := by omega
      subst this
      exact vX12_load_2 ⟨fun _ => ⟨h, hF⟩, fun c => absurd (by decide) c⟩
    | succ k ih =>
      intro i S' hi hF h
      refine vX12_load_2 ⟨fun c => absurd ((nI_le_i (a := 5) (by decide) (by omega)).mp c) (by omega), fun _ => ⟨in_add (a := 5) (by omega) (by decide), vp_in_nI (by omega) (by decide), fun S2 e2 => ?_⟩⟩
      subst e2
      have e1 := ix_add (a := 5) (i := i) (by omega)
      rw [nI_ix (n := i) (by omega), show ((5 : Int32) + nI i).toNatClampNeg = 5 + i from e1, hF.at 426 rfl, hM.2.2.2.1.2.1 i (by omega)]
      have hh := ih (i + 1) (stI S' 427 i (C.1 26 i)) (by omega) (hF.st rfl) (fun j hj => ?_)
      · rw [nI_succ i] at hh
        exact hh
      · rw [stI_self]
        by_cases e : j = i
        · simp [upd, e]
        · simp only [upd, if_neg e]
          exact h j (by omega)
  exact key 5 0 S rfl Fr.rf (fun j hj => absurd hj (by omega))
theorem sp_mLoadG' (hM : MXg C S n) : Ex G mX12_load 1 [.ref 412] S (fun _ S1 => SY S1 n (C.1 26) ∧ Fr M5 S S1) := Ex.imp (sp_mLoadG hM) (fun _ _ q => ⟨fun i hi => q.1 i (by have := hM.1; omega), q.2.mono rfl⟩)
theorem sp_saidManyG (hM : MXg C S n) (hV : VN n nm) (hS : SY S n nm) : Ex G mX12_saidMany 2 [.ref 412] S (fun r S1 => r = nI (gSd nm) ∧ S1 = S) := by
  have hn := hM.n5
  rw [gSd_n hn hV]
  refine eX12_saidMany (vX12_saidMany_0 (loopUp (n := n) (P := fun i => RM G mX12_saidMany 2 _ 4 [some (.ref 412), some (.int (nI (fb_ct (fun i => decide (¬ nm i = -1)) i))), some (.int (nI i))] [] S) ?_ ?_ 0 (by omega)))
  · exact vX12_saidMany_4 ⟨fun _ => ⟨rfl, rfl⟩, fun c => absurd hM.ge c⟩
  · intro i hi ih
    have hx := nm_neg ((hV i (by omega)).1 hi) hn
    refine vX12_saidMany_4 ⟨fun c => absurd c (hM.le hi), fun _ => ⟨vp_in_nI (by omega) (by decide), ?_⟩⟩
    rw [nI_ix (n := i) (by omega), hS i hi, hx]
    refine ⟨fun c => ⟨_, tr0, fun r5 S4 q => ?_⟩, fun c => ⟨_, tr1, fun r5 S4 q => ?_⟩⟩
    · obtain ⟨q1, q2⟩ := q
      subst q1 q2
      rw [ct_f (i := i) (by simp [c]), nI_succ i] at ih
      rw [Int32.add_zero]
      exact ih
    · obtain ⟨q1, q2⟩ := q
      subst q1 q2
      rw [← ct_t (i := i) (by simp [c]), nI_succ i] at ih
      exact ih
theorem sp_isFeudG {F : Nat → Nat} {a b : Nat} (hM : MXg C S n) (hF : ∀ i, i < 5 → C.1 29 i = nI (F i) ∧ F i < 2 ^ n) (ha : a < 5) (hb : b < 5) : Ex G mX12_isFeud 1 [.ref 412, .int (nI a), .int (nI b)] S (fun r S1 => r = bI ((F a).testBit b) ∧ S1 = S) := by
  have hn := hM.n5
  have e1 := ix_add (a := 10) (i := a) (by omega)
  refine eX12_isFeud (vX12_isFeud_0 ⟨in_add (a := 10) (by omega) (by decide), ?_⟩)
  rw [show ((10 : Int32) + nI a).toNatClampNeg = 10 + a from e1, hM.2.2.2.1.2.2.1 a ha, (hF a ha).1, sr5 _ (pow5l hn (hF a ha).2) b hb]
  refine ⟨fun c => ⟨?_, rfl⟩, fun c => ⟨?_, rfl⟩⟩
  · rw [Bool.not_eq_true] at c
    rw [c]
    rfl
  · rw [c]
    rfl
theorem sp_isStoneG (hM : MXg C S n) (hV : VN n nm) (hS : SY S n nm) : Ex G mX12_isStone 2 [.ref 412] S (fun r S1 => r = bI (gSt C nm) ∧ S1 = S) := by
  have hn := hM.n5
  obtain ⟨F, hF⟩ := hM.2.2.2.2.1
  rw [gSt_any hn hV hF]
  have hx : ∀ i, i < n → (S.1 427 i < 0 ↔ nm i = -1) := fun i hi => by rw [hS i hi]; exact nm_neg ((hV i (by omega)).1 hi) hn
  have b01 : ∀ b : Bool, bI b = 0 ∨ bI b = 1 := by decide
  refine eX12_isStone (vX12_isStone_0 (loopUp (n := n) (P := fun i => RM G mX12_isStone 2 _ 4 [some (.ref 412), some (.int (bI (anyN i (fun i => anyN i (stP F nm i))))), some (.int (nI i)), none] [] S) ?_ ?_ 0 (by omega)))
  · exact vX12_isStone_4 ⟨fun _ => ⟨b01 _, rfl, rfl⟩, fun c => absurd hM.ge c⟩
  · intro i hi ih
    refine vX12_isStone_4 ⟨fun c => absurd c (hM.le hi), fun _ => ?_⟩
    refine loopUp (n := i) (P := fun j => RM G mX12_isStone 2 _ 14 [some (.ref 412), some (.int (bI (anyN i (fun i => anyN i (stP F nm i)) || anyN j (stP F nm i)))), some (.int (nI i)), some (.int (nI j))] [] S) ?_ ?_ 0 (by omega) |> fun h => by rw [show bI (anyN i (fun i => anyN i (stP F nm i))) = bI (anyN i (fun i => anyN i (stP F nm i)) || anyN 0 (stP F nm i)) by simp [anyN]]; exact h
    · rw [nI_succ i] at ih
      exact vX12_isStone_14 ⟨fun _ => ih, fun c => absurd (Int32.le_refl _) c⟩
    · intro j hj ih2
      rw [anyN, ← Bool.or_assoc, nI_succ j] at ih2
      generalize hb : (anyN i (fun i => anyN i (stP F nm i)) || anyN j (stP F nm i)) = b at ih2 ⊢
      refine vX12_isStone_14 ⟨fun c => absurd ((nI_le_i (by omega) (by omega)).mp c) (by omega), fun _ => ⟨fun c => ?_, fun c => ⟨vp_in_nI (by omega) (by decide), ?_⟩⟩⟩
      · cases b
        · exact absurd rfl c
        · exact ih2
      · cases b
        · rw [nI_ix (n := i) (by omega), nI_ix (n := j) (by omega), hx i hi, hx j (by omega)]
          refine ⟨fun d => ?_, fun d => ⟨vp_in_nI (by omega) (by decide), fun d2 => ?_, fun d2 => ⟨_, sp_isFeudG hM hF.1 (by omega) (by omega), fun r7 S6 q => ?_⟩⟩⟩
          · rw [show stP F nm i j = false by simp [stP, d]] at ih2
            exact ih2
          · rw [show stP F nm i j = false by simp [stP, d2]] at ih2
            exact ih2
          · obtain ⟨q1, q2⟩ := q
            subst q1 q2
            rw [show stP F nm i j = (F i).testBit j by simp [stP, d, d2], Bool.false_or] at ih2
            refine ⟨fun c2 => ?_, fun c2 => ?_⟩
            · rw [bI_0] at c2
              rw [c2] at ih2
              exact ih2
            · rw [bI_0, Bool.not_eq_false] at c2
              rw [c2] at ih2
              exact ih2
        · exact absurd c (by decide)
theorem sp_namersG {w : Nat} (hM : MXg C S n) (hV : VN n nm) (hS : SY S n nm) : Ex G mX12_namers 2 [.ref 412, .int (nI w)] S (fun r S1 => r = nI (fb_ct (fun i => decide (nm i = nI w)) n) ∧ S1 = S) := by
  have hn := hM.n5
  refine eX12_namers (vX12_namers_0 (loopUp (n := n) (P := fun i => RM G mX12_namers 2 _ 4 [some (.ref 412), some (.int (nI w)), some (.int (nI (fb_ct (fun i => decide (nm i = nI w)) i))), some (.int (nI i))] [] S) ?_ ?_ 0 (by omega)))
  · exact vX12_namers_4 ⟨fun _ => ⟨rfl, rfl⟩, fun c => absurd hM.ge c⟩
  · intro i hi ih
    refine vX12_namers_4 ⟨fun c => absurd c (hM.le hi), fun _ => ⟨vp_in_nI (by omega) (by decide), ?_⟩⟩
    rw [nI_ix (n := i) (by omega), hS i hi]
    refine ⟨fun c => ⟨_, tr0, fun r5 S4 q => ?_⟩, fun c => ⟨_, tr1, fun r5 S4 q => ?_⟩⟩
    · obtain ⟨q1, q2⟩ := q
      subst q1 q2
      rw [ct_f (i := i) (by simp [c]), nI_succ i] at ih
      rw [Int32.add_zero]
      exact ih
    · obtain ⟨q1, q2⟩ := q
      subst q1 q2
      rw [← ct_t (i := i) (by simp [c]), nI_succ i] at ih
      exact ih
theorem sp_loafOfG {s : Nat} {sd : Int32} (hM : MXg C S n) (hs : s < 5) : Ex G mX12_loafOf 4 [.ref 412, .int (nI s), .int sd] S (fun r S1 => r = LF C (C.1 25 s) (C.1 27 s) (C.1 28 s) (C.1 24 7) sd ∧ Fr [420, 421] S S1) := by
  obtain ⟨fl, hf⟩ := hM.2.2.1
  have e1 := ix_add (a := 15) (i := s) (by omega)
  have e2 := ix_add (a := 20) (i := s) (by omega)
  refine eX12_loafOf (vX12_loafOf_0 ⟨vp_in_nI (by omega) (by decide), in_add (a := 15) (by omega) (by decide), in_add (a := 20) (by omega) (by decide), _, sp_mLoaf hf, fun r S1 q => ?_⟩)
  rw [nI_ix (n := s) (by omega), show ((15 : Int32) + nI s).toNatClampNeg = 15 + s from e1, show ((20 : Int32) + nI s).toNatClampNeg = 20 + s from e2] at q
  obtain ⟨a1, a2, a3, a4, a5, a6, a7, a8⟩ := hM.2.2.2.1
  rw [a1 s hs, a4 s hs, a5 s hs, a8, hM.2.2.2.2.2.2.2] at q
  exact q
theorem sp_layGetsG (hM : MXg C S n) (hV : VN n nm) (hS : SY S n nm) : Ex G mX12_layGets 5 [.ref 412] S (fun _ S1 => (∀ i, i < n → S1.1 428 i = gLo C i (gSd nm)) ∧ (∀ i, i < n → S1.1 429 i = gG C nm i) ∧ Fr [420, 421, 428, 429] S S1) := by
  have hn := hM.n5
  refine eX12_layGets (vX12_layGets_0 ⟨_, sp_saidManyG hM hV hS, fun r3 S2 q => ?_⟩)
  obtain ⟨q1, q2⟩ := q
  subst q1 q2
  refine ⟨_, sp_isStoneG hM hV hS, fun r8 S7 q => ?_⟩
  obtain ⟨q1, q2⟩ := q
  subst q1 q2
  have tM : ∀ {S' : ovS}, Fr [420, 421, 428, 429] S7 S' → MXg C S' n := fun hF => hM.fm (FM.of hF rfl)
  have key2 : ∀ k i : Nat, ∀ S' : ovS, i + k = n → Fr [420, 421, 428, 429] S7 S' → (∀ j, j < n → S'.1 428 j = gLo C j (gSd nm)) → (∀ j, j < i → S'.1 429 j = gG C nm j) → RM G mX12_layGets 5 (fun _ S1 => (∀ i, i < n → S1.1 428 i = gLo C i (gSd nm)) ∧ (∀ i, i < n → S1.1 429 i = gG C nm i) ∧ Fr [420, 421, 428, 429] S7 S1) 40 [some (.ref 412), none, some (.int (bI (gSt C nm))), some (.int (nI i))] [] S' := by
    intro k
    induction k with
    | zero =>
      intro i S' hi hF h1 h2
      have : i = n := by omega
      subst this
      exact vX12_layGets_40 ⟨fun _ => ⟨h1, h2, hF⟩, fun c => absurd (tM hF).ge c⟩
    | succ k ih =>
      intro i S' hi hF h1 h2
      have hi' : i < n := by omega
      have hii : vp_in (nI i) 5 := vp_in_nI (by omega) (by decide)
      have hix : (nI i).toNatClampNeg = i := nI_ix (by omega)
      have es : S'.1 427 i = nm i := by rw [hF.at 427 rfl]; exact hS i hi'
      have fin : ∀ v, v = gG C nm i → RM G mX12_layGets 5 (fun _ S1 => (∀ i, i < n → S1.1 428 i = gLo C i (gSd nm)) ∧ (∀ i, i < n → S1.1 429 i = gG C nm i) ∧ Fr [420, 421, 428, 429] S7 S1) 40 [some (.ref 412), none, some (.int (bI (gSt C nm))), some (.int (nI i + 1))] [] (stI S' 429 i v) := by
        intro v hv
        have hh := ih (i + 1) (stI S' 429 i v) (by omega) (hF.st rfl) (fun j hj => by rw [stI_row (by decide)]; exact h1 j hj) (fun j hj => ?_)
        · rw [nI_succ i] at hh
          exact hh
        · rw [stI_self]
          by_cases e : j = i
          · simp [upd, e, hv]
          · simp only [upd, if_neg e]
            exact h2 j (by omega)
      refine vX12_layGets_40 ⟨fun c => absurd c ((tM hF).le hi'), fun _ => ⟨fun c => ⟨hii, fun S3 e3 => ?_⟩, fun c => ⟨hii, ?_⟩⟩⟩
      · subst e3
        rw [hix]
        refine fin 0 ?_
        rw [bI_0, Bool.not_eq_false] at c
        simp [gG, c]
      · rw [bI_0] at c
        rw [hix, es]
        refine ⟨fun d => ?_, fun d => ⟨hii, fun S11 e11 => ?_⟩⟩
        · have hne : ¬ nm i = -1 := fun z => by rw [z] at d; exact absurd d (by decide)
          obtain ⟨w, hw, ew⟩ := hV.w hn hi' hne
          rw [ew]
          refine ⟨hii, vp_in_nI (by omega) (by decide), hii, _, sp_namersG (tM hF) hV (fun j hj => by rw [hF.at 427 rfl]; exact hS j hj), fun r7 S6 q => ?_⟩
          obtain ⟨q1, q2⟩ := q
          subst q2
          have hpos : 0 < fb_ct (fun i => decide (nm i = nI w)) n := fb_ct_pos.mpr ⟨i, hi', by simp [ew]⟩
          have hle := fb_ct_le (fun i => decide (nm i = nI w)) n
          refine ⟨fun z => ?_, hii, fun S10 e10 => ?_⟩
          · rw [q1] at z
            have := (nI_eq_i (b := 0) (by omega) (by decide)).mp z
            omega
          · subst e10
            refine fin _ ?_
            rw [nI_ix (n := w) (by omega), h1 w hw, q1, gG, if_neg hne, c, ew, nI_ix (n := w) (by omega), gCt_n hn (by omega) hV]
            rfl
        · subst e11
          refine fin 0 ?_
          have hm : nm i = -1 := by
            rcases (hV i (by omega)).1 hi' with z | ⟨w, hw, z⟩
            · exact z
            · rw [z] at d
              exact absurd ((nI_le_i (a := 0) (by decide) (by omega)).mpr (Nat.zero_le _)) d
          simp [gG, hm]
  have key : ∀ k i : Nat, ∀ S' : ovS, i + k = n → Fr [420, 421, 428, 429] S7 S' → (∀ j, j < i → S'.1 428 j = gLo C j (gSd nm)) → RM G mX12_layGets 5 (fun _ S1 => (∀ i, i < n → S1.1 428 i = gLo C i (gSd nm)) ∧ (∀ i, i < n → S1.1 429 i = gG C nm i) ∧ Fr [420, 421, 428, 429] S7 S1) 12 [some (.ref 412), some (.int (nI (gSd nm))), some (.int (bI (gSt C nm))), some (.int (nI i))] [] S' := by
    intro k
    induction k with
    | zero =>
      intro i S' hi hF h1
      have : i = n := by omega
      subst this
      exact vX12_layGets_12 ⟨fun _ => key2 i 0 S' (by omega) hF h1 (fun j hj => absurd hj (by omega)), fun c => absurd (tM hF).ge c⟩
    | succ k ih =>
      intro i S' hi hF h1
      have hi' : i < n := by omega
      refine vX12_layGets_12 ⟨fun c => absurd c ((tM hF).le hi'), fun _ => ⟨_, sp_loafOfG (tM hF) (by omega), fun r4 S3 q => ⟨vp_in_nI (by omega) (by decide), fun S8 e8 => ?_⟩⟩⟩
      obtain ⟨q1, q2⟩ := q
      have hF3 : Fr [420, 421, 428, 429] S7 S3 := hF.tr (q2.mono rfl)
      subst e8
      rw [nI_ix (n := i) (by omega)]
      have hh := ih (i + 1) (stI S3 428 i r4) (by omega) (hF3.st rfl) (fun j hj => ?_)
      · rw [nI_succ i] at hh
        exact hh
      · rw [stI_self]
        by_cases e : j = i
        · simp only [upd, e, if_true]
          rw [q1]
          rfl
        · simp only [upd, if_neg e]
          rw [q2.at 428 rfl]
          exact h1 j (by omega)
  exact key n 0 S7 (by omega) Fr.rf (fun j hj => absurd hj (by omega))
theorem sp_fedSetG (hM : MXg C S n) (hg : GE S n (gG C nm)) : Ex G mX12_fedSet 2 [.ref 412] S (fun r S1 => r = nI (mk (fdF C nm) n) ∧ S1 = S) := by
  have hn := hM.n5
  refine eX12_fedSet (vX12_fedSet_0 (loopUp (n := n) (P := fun i => RM G mX12_fedSet 2 _ 4 [some (.ref 412), some (.int (nI (mk (fdF C nm) i))), some (.int (nI i))] [] S) ?_ ?_ 0 (by omega)))
  · exact vX12_fedSet_4 ⟨fun _ => ⟨rfl, rfl⟩, fun c => absurd hM.ge c⟩
  · intro i hi ih
    refine vX12_fedSet_4 ⟨fun c => absurd c (hM.le hi), fun _ => ⟨vp_in_nI (by omega) (by decide), vp_in_nI (by omega) (by decide), ?_⟩⟩
    rw [nI_ix (n := i) (by omega), hg i hi, hM.2.2.2.2.2.2.1 i hi]
    refine ⟨fun c => ⟨_, tr0, fun r5 S4 q => ?_⟩, fun c => ⟨_, tr1, fun r5 S4 q => ?_⟩⟩
    · obtain ⟨q1, q2⟩ := q
      subst q1 q2
      have c2 : ¬ C.1 17 i ≤ gG C nm i := fun z => Int32.not_le.mpr c z
      rw [mk_f (i := i) (by simp [fdF, c2]), nI_succ i] at ih
      rw [or_z0]
      exact ih
    · obtain ⟨q1, q2⟩ := q
      subst q1 q2
      have c2 : C.1 17 i ≤ gG C nm i := Int32.not_lt.mp c
      rw [← mk_t (i := i) (by omega) (by simp [fdF, c2]), nI_succ i] at ih
      exact ih
theorem sp_layNowG (hM : MXg C S n) : Ex G mX12_layNow 6 [.ref 412] S (fun _ S1 => SY S1 n (C.1 26) ∧ (∀ i, i < n → S1.1 428 i = gLo C i (gSd (C.1 26))) ∧ GE S1 n (gG C (C.1 26)) ∧ Fr M5 S S1) := by
  refine eX12_layNow (vX12_layNow_0 ⟨_, sp_mLoadG' hM, fun r3 S2 q => ?_⟩)
  obtain ⟨q1, q2⟩ := q
  have hF : FM S S2 := FM.of q2 rfl
  refine ⟨_, sp_layGetsG (hM.fm hF) hM.2.2.2.2.2.1 q1, fun r8 S7 q => ?_⟩
  obtain ⟨h1, h2, h3⟩ := q
  refine ⟨fun i hi => ?_, h1, h2, q2.tr (h3.mono rfl)⟩
  rw [h3.at 427 rfl]
  exact q1 i hi
end
