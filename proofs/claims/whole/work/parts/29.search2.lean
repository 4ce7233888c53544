/-! ===== the Search: over the Batch, with what lies there ===== -/
abbrev L8 : List Nat := [23, 364, 365, 366, 367, 368, 369, 370]
def BX (S0 S : ovS) (nm : Nat → Int32) : Prop := ∃ B : ovS, Fr [369, 370] S0 B ∧ BB B S nm
theorem gG_sm {S S1 : ovS} (h : SmL S S1) (h2 : S1.1 29 = S.1 29) : gG S1 = gG S := by
  have e : gSt S1 = gSt S := by
    funext nm
    simp only [gSt, h2]
  funext nm s
  simp only [gG, e, gLo_sm h]
theorem gG_b {S0 B : ovS} (h : Fr [369, 370] S0 B) : gG B = gG S0 := gG_sm (h.L rfl) (h.at 29 rfl)
theorem unF_b {S0 B : ovS} (h : Fr [369, 370] S0 B) : unF B = unF S0 := by
  funext nm x s
  simp only [unF, gG_b h, h.at 17 rfl]
theorem CX_b {S0 B : ovS} {n : Nat} (h : Fr [369, 370] S0 B) (hX : CX S0 n) : CX B n := ⟨by rw [h.at 16 rfl]; exact hX.1, hX.2.1, FOk_sm (h.L rfl) hX.2.2⟩
theorem BB.fr {B S S1 : ovS} {nm nm1 : Nat → Int32} (h : BB B S nm) (h1 : BB B S1 nm1) : Fr L6 S S1 := ⟨fun k hk => (h1.1.1 k hk).trans (h.1.1 k hk).symm, h1.1.2.trans h.1.2.symm⟩
theorem BX.of {S0 S : ovS} {nm : Nat → Int32} (h : BB S0 S nm) : BX S0 S nm := ⟨S0, Fr.rf, h⟩
theorem BX.fr {S0 S : ovS} {nm : Nat → Int32} (h : BX S0 S nm) : Fr L8 S0 S := by
  obtain ⟨B, h1, h2⟩ := h
  exact (h1.mono rfl).tr (h2.1.mono rfl)
theorem BX.nm {S0 S : ovS} {nm : Nat → Int32} (h : BX S0 S nm) {i : Nat} (hi : i < 5) : S.1 365 i = nm i := by
  obtain ⟨B, h1, h2⟩ := h
  exact h2.2.1.1 i hi
theorem BX.cx {S0 S : ovS} {nm : Nat → Int32} {n : Nat} (h : BX S0 S nm) (hX : CX S0 n) : CX S n := by
  obtain ⟨B, h1, h2⟩ := h
  exact h2.cx (CX_b h1 hX)
section
variable {G : ovG} {S0 S : ovS} {nm : Nat → Int32} {n : Nat}
theorem BX.gainOfAll (hX : CX S0 n) (hV : VN n nm) (h : BX S0 S nm) : Ex G mX0_gainOfAll 6 [.ref 364] S (fun r S1 => r = smI (gG S0 nm) n ∧ BX S0 S1 nm ∧ Fr L6 S S1) := by
  obtain ⟨B, h1, h2⟩ := h
  refine Ex.imp (sp_gainOfAll (CX_b h1 hX) hV h2) (fun r S1 q => ⟨?_, ⟨B, h1, q.2⟩, h2.fr q.2⟩)
  rw [q.1, gG_b h1]
theorem BX.areFed {x : Int32} (hX : CX S0 n) (hV : VN n nm) (h : BX S0 S nm) : Ex G mX0_areFed 6 [.ref 364, .int x] S (fun r S1 => r = bI (!anyN n (unF S0 nm x)) ∧ BX S0 S1 nm ∧ Fr L6 S S1) := by
  obtain ⟨B, h1, h2⟩ := h
  refine Ex.imp (sp_areFed (CX_b h1 hX) hV h2) (fun r S1 q => ⟨?_, ⟨B, h1, q.2⟩, h2.fr q.2⟩)
  rw [q.1, unF_b h1]
theorem BX.shame (hX : CX S0 n) (h : BX S0 S nm) : Ex G mX0_shame 1 [.ref 364] S (fun r S1 => r = nI (fb_ct (shF nm) n) ∧ S1 = S) := by
  obtain ⟨B, h1, h2⟩ := h
  exact sp_shame (CX_b h1 hX) h2
theorem BX.countWays (hX : CX S0 n) (h : BX S0 S nm) : Ex G mX0_countWays 1 [.ref 364] S (fun r S1 => r = nI ((n + 1) ^ n) ∧ S1 = S) := by
  obtain ⟨B, h1, h2⟩ := h
  exact sp_countWays (CX_b h1 hX) h2
/-- what a SOUL would say -/
def bsN (S : ovS) (n : Nat) (nm : Nat → Int32) (s : Nat) : Int32 := (bsF (fun w => gG S (upd nm s w) s) (nm s) (n + 1)).1
theorem BX.bestFor {s : Nat} (hX : CX S0 n) (hV : VN n nm) (h : BX S0 S nm) (hs : s < n) : Ex G mX0_bestFor 5 [.ref 364, .int (nI s)] S (fun r S1 => r = bsN S0 n nm s ∧ BX S0 S1 nm ∧ Fr L6 S S1) := by
  obtain ⟨B, h1, h2⟩ := h
  refine Ex.imp (sp_bestFor (CX_b h1 hX) hV h2 hs) (fun r S1 q => ⟨?_, ⟨B, h1, q.2⟩, h2.fr q.2⟩)
  rw [q.1, gG_b h1]
  rfl
theorem BX.put {s : Nat} {w : Int32} (hX : CX S0 n) (hV : VN n nm) (h : BX S0 S nm) (hs : s < n) (hw : isNm n w) : Ex G mX0_put 1 [.ref 364, .int (nI s), .int w] S (fun _ S1 => BX S0 S1 (upd nm s w) ∧ Fr L6 S S1) := by
  obtain ⟨B, h1, h2⟩ := h
  exact Ex.imp (BB.put (CX_b h1 hX) hV h2 hs hw) (fun r S1 q => ⟨⟨B, h1, q⟩, h2.fr q⟩)
theorem BX.hush (h : BX S0 S nm) : Ex G mX0_hush 2 [.ref 364] S (fun _ S1 => BX S0 S1 (nmv n 0) ∧ Fr L6 S S1) := by
  obtain ⟨B, h1, h2⟩ := h
  refine Ex.imp (BB.hush h2) (fun r S1 q => ⟨⟨B, h1, ?_⟩, h2.fr q⟩)
  rw [nmv_0]
  exact q
theorem BX.goOn (hX : CX S0 n) (hV : VN n nm) (h : BX S0 S nm) : Ex G mX0_goOn 2 [.ref 364] S (fun _ S1 => BX S0 S1 (nxF n n nm) ∧ VN n (nxF n n nm) ∧ Fr L6 S S1) := by
  obtain ⟨B, h1, h2⟩ := h
  exact Ex.imp (sp_goOn (CX_b h1 hX) hV h2) (fun r S1 q => ⟨⟨B, h1, q.1⟩, q.2, h2.fr q.1⟩)
theorem BX.look (hX : CX S n) (hV : VN n (S.1 26)) : Ex G mX0_lookAtNow 3 [.ref 364] S (fun _ S1 => BX S S1 (S.1 26) ∧ Fr L6 S S1) := Ex.imp (sp_lookAtNow hX hV) (fun _ _ q => ⟨BX.of q, q.1⟩)
theorem BX.lay (hX : CX S0 n) (h : BX S0 S nm) : Ex G mX8_lay 2 [.ref 369, .ref 365] S (fun _ S1 => BX S0 S1 nm ∧ S1.1 369 4 = nI n ∧ (∀ j, j ≠ 4 → S1.1 369 j = S.1 369 j) ∧ (∀ i, i < 5 → S1.1 370 i = nm i)) := by
  have hn := (h.cx hX).1
  obtain ⟨B, h1, h2⟩ := h
  refine eX8_lay_a (vX8_lay_a_0 (fun S1 e1 S2 e2 => ?_))
  subst e2 e1
  have hF : Fr [369, 370] S (cpI (stI S 369 4 (S.1 16 0)) 365 370 0 0 5) := (Fr.rf.st rfl).cp rfl
  refine ⟨⟨seI (seI B 369 ((cpI (stI S 369 4 (S.1 16 0)) 365 370 0 0 5).1 369)) 370 ((cpI (stI S 369 4 (S.1 16 0)) 365 370 0 0 5).1 370), (h1.se rfl).se rfl, ⟨fun k hk => ?_, hF.2.trans h2.1.2⟩, h2.2.1.sm (hF.at 365 rfl) (hF.at 366 rfl) (hF.at 364 rfl), h2.2.2.1.sm (hF.at 368 rfl) (hF.at 29 rfl), h2.2.2.2.sm (hF.at 367 rfl) (hF.L rfl)⟩, ?_, fun j hj => ?_, fun i hi => ?_⟩
  · by_cases e : k = 370
    · subst e
      rw [seI_self]
    · by_cases e2 : k = 369
      · subst e2
        rw [seI_row (by decide), seI_self]
      · rw [seI_row e, seI_row e2, cpI_row e, stI_row e2]
        exact h2.1.1 k hk
  · rw [cpI_row (by decide), stI_self]
    simp [upd, hn]
  · rw [cpI_row (by decide), stI_self]
    simp [upd, hj]
  · rw [cpI_self hi, stI_row (by decide)]
    exact h2.2.1.1 i hi
theorem sp_clearLying : Ex G mX8_clearLying 1 [.ref 369] S (fun _ S1 => S1 = stI S 369 4 0) := eX8_clearLying (vX8_clearLying_0 (fun S1 e => e))
/-- somebody would leave -/
def lvF (S : ovS) (n : Nat) (nm : Nat → Int32) : Nat → Bool := fun s => decide (¬ bsN S n nm s = nm s)
theorem sp_noneWouldLeave (hX : CX S0 n) (hV : VN n nm) (h : BX S0 S nm) : Ex G mX8_noneWouldLeave 6 [.ref 369] S (fun r S1 => r = bI (!anyN n (lvF S0 n nm)) ∧ BX S0 S1 nm ∧ Fr L6 S S1) := by
  have hn5 := hX.2.1
  have key : ∀ k i : Nat, ∀ S' : ovS, i + k = n → anyN i (lvF S0 n nm) = false → BX S0 S' nm → Fr L6 S S' → RM G mX8_noneWouldLeave 6 (fun r S1 => r = bI (!anyN n (lvF S0 n nm)) ∧ BX S0 S1 nm ∧ Fr L6 S S1) 2 [some (.ref 369), some (.int (nI i))] [] S' := by
    intro k
    induction k with
    | zero =>
      intro i S' hi hq hB hF
      have : i = n := by omega
      subst this
      exact vX8_noneWouldLeave_2 ⟨fun _ => ⟨by rw [hq]; rfl, hB, hF⟩, fun c => absurd (by rw [(hB.cx hX).1]; exact Int32.le_refl _) c⟩
    | succ k ih =>
      intro i S' hi hq hB hF
      refine vX8_noneWouldLeave_2 ⟨fun c => absurd c (nI_next (hB.cx hX).1 (by omega) (by omega)), fun _ => ⟨_, hB.bestFor hX hV (by omega), fun r S3 q => ⟨vp_in_nI (by omega) (by decide), ?_⟩⟩⟩
      rw [nI_ix (by omega), q.2.1.nm (by omega), q.1]
      refine ⟨fun c => ?_, fun c => ⟨?_, q.2.1, hF.tr q.2.2⟩⟩
      · have h := ih (i + 1) S3 (by omega) (by simp [anyN, hq, lvF, c]) q.2.1 (hF.tr q.2.2)
        rw [nI_succ] at h
        exact h
      · have : anyN n (lvF S0 n nm) = true := anyN_iff.mpr ⟨i, by omega, by simp [lvF, c]⟩
        rw [this]
        rfl
  exact eX8_noneWouldLeave (vX8_noneWouldLeave_0 (key n 0 S (by omega) rfl h Fr.rf))
theorem sp_gainNow {s : Nat} (hX : CX S n) (hV : VN n (S.1 26)) (hs : s < n) : Ex G mX8_gainNow 6 [.ref 369, .int (nI s)] S (fun r S1 => r = gG S (S.1 26) s ∧ Fr L8 S S1) :=
  eX8_gainNow (vX8_gainNow_0 ⟨_, sp_lookAtNow hX hV, fun r S2 q => ⟨_, sp_gain hX hV q hs, fun r8 S7 q2 => ⟨q2.1, q2.2.1.mono rfl⟩⟩⟩)
theorem sp_isSteadyNow (hX : CX S n) (hV : VN n (S.1 26)) : Ex G mX8_isSteadyNow 7 [.ref 369] S (fun r S1 => r = bI (!anyN n (lvF S n (S.1 26))) ∧ Fr L6 S S1) :=
  eX8_isSteadyNow (vX8_isSteadyNow_0 ⟨_, sp_lookAtNow hX hV, fun r S2 q => ⟨_, sp_noneWouldLeave hX hV (BX.of q), fun r8 S7 q2 => ⟨by rw [q2.1]; cases anyN n (lvF S n (S.1 26)) <;> simp [bI], q2.1, q.1.tr q2.2.2⟩⟩⟩)
/-- who is FED -/
def fdF (S : ovS) (nm : Nat → Int32) : Nat → Bool := fun s => decide (S.1 17 s ≤ gG S nm s)
theorem sp_fedNow (hX : CX S n) (hV : VN n (S.1 26)) : Ex G mX8_fedNow 7 [.ref 369] S (fun r S1 => r = nI (mk (fdF S (S.1 26)) n) ∧ Fr L6 S S1) := by
  have hn5 := hX.2.1
  have key : ∀ k i : Nat, ∀ S' : ovS, i + k = n → BB S S' (S.1 26) → RM G mX8_fedNow 7 (fun r S1 => r = nI (mk (fdF S (S.1 26)) n) ∧ Fr L6 S S1) 11 [some (.ref 369), some (.int (nI (mk (fdF S (S.1 26)) i))), some (.int (nI i))] [] S' := by
    intro k
    induction k with
    | zero =>
      intro i S' hi hB
      have : i = n := by omega
      subst this
      exact vX8_fedNow_11 ⟨fun _ => ⟨rfl, hB.1⟩, fun c => absurd (by rw [(hB.cx hX).1]; exact Int32.le_refl _) c⟩
    | succ k ih =>
      intro i S' hi hB
      have ih' := fun S3 => ih (i + 1) S3 (by omega)
      rw [nI_succ] at ih'
      have hun : anyN n (unF S (S.1 26) (1 <<< (nI i &&& 31))) = !(fdF S (S.1 26) i) := by
        have hb : ∀ s, s < n → (decide (¬ ((1 : Int32) <<< (nI i &&& 31) &&& (1 <<< (nI s &&& 31))) = 0)) = decide (s = i) := by
          intro s hs
          rw [sh1 i (by omega)]
          have h1 := bit_iff (g := 2 ^ i) (i := s) (by omega)
          rw [Nat.testBit_two_pow] at h1
          by_cases e : s = i
          · subst e
            simp only [decide_true]
            simp only [decide_true] at h1
            simp only [decide_eq_true_eq]
            intro q
            exact absurd (h1.mp q) (by decide)
          · have e2 : ¬ i = s := fun q => e q.symm
            simp only [e2, decide_false] at h1
            simp [h1.mpr trivial, e]
        cases hfd : fdF S (S.1 26) i with
        | true =>
          cases hh : anyN n (unF S (S.1 26) (1 <<< (nI i &&& 31))) with
          | false => rfl
          | true =>
            obtain ⟨s, h1, h2⟩ := anyN_iff.mp hh
            simp only [unF, hb s h1, Bool.and_eq_true, decide_eq_true_eq] at h2
            obtain ⟨e, h3⟩ := h2
            subst e
            simp only [fdF, decide_eq_true_eq] at hfd
            exact absurd hfd h3
        | false =>
          apply anyN_iff.mpr
          refine ⟨i, by omega, ?_⟩
          simp only [unF, hb i (by omega), decide_true, Bool.true_and, decide_eq_true_eq]
          simp only [fdF, decide_eq_false_iff_not] at hfd
          exact hfd
      refine vX8_fedNow_11 ⟨fun c => absurd c (nI_next (hB.cx hX).1 (by omega) (by omega)), fun _ => ⟨_, sp_areFed hX hV hB, fun r S3 q => ?_⟩⟩
      rw [hun] at q
      refine ⟨fun c => ?_, fun c => ?_⟩
      · have hf : fdF S (S.1 26) i = false := by
          cases hh : fdF S (S.1 26) i with
          | false => rfl
          | true => rw [hh, c] at q; exact absurd q.1 (by decide)
        have h := ih' S3 q.2
        rw [mk_f (i := i) hf] at h
        exact h
      · have hf : fdF S (S.1 26) i = true := by
          cases hh : fdF S (S.1 26) i with
          | true => rfl
          | false => rw [hh] at q; exact absurd q.1 c
        have h := ih' S3 q.2
        rw [← mk_t (i := i) (by omega) hf] at h
        exact h
  exact eX8_fedNow (vX8_fedNow_0 ⟨_, sp_lookAtNow hX hV, fun r S2 q => key n 0 S2 (by omega) q⟩)
end
