/-! ===== the Batch ===== -/
def bcF (x0 : Int32) : Int32 := (((((((((x0 - ((oushr x0 1) &&& 1431655765)) &&& 858993459) + ((oushr (x0 - ((oushr x0 1) &&& 1431655765)) 2) &&& 858993459)) + (oushr (((x0 - ((oushr x0 1) &&& 1431655765)) &&& 858993459) + ((oushr (x0 - ((oushr x0 1) &&& 1431655765)) 2) &&& 858993459)) 4)) &&& 252645135) + (oushr (((((x0 - ((oushr x0 1) &&& 1431655765)) &&& 858993459) + ((oushr (x0 - ((oushr x0 1) &&& 1431655765)) 2) &&& 858993459)) + (oushr (((x0 - ((oushr x0 1) &&& 1431655765)) &&& 858993459) + ((oushr (x0 - ((oushr x0 1) &&& 1431655765)) 2) &&& 858993459)) 4)) &&& 252645135) 8)) + (oushr ((((((x0 - ((oushr x0 1) &&& 1431655765)) &&& 858993459) + ((oushr (x0 - ((oushr x0 1) &&& 1431655765)) 2) &&& 858993459)) + (oushr (((x0 - ((oushr x0 1) &&& 1431655765)) &&& 858993459) + ((oushr (x0 - ((oushr x0 1) &&& 1431655765)) 2) &&& 858993459)) 4)) &&& 252645135) + (oushr (((((x0 - ((oushr x0 1) &&& 1431655765)) &&& 858993459) + ((oushr (x0 - ((oushr x0 1) &&& 1431655765)) 2) &&& 858993459)) + (oushr (((x0 - ((oushr x0 1) &&& 1431655765)) &&& 858993459) + ((oushr (x0 - ((oushr x0 1) &&& 1431655765)) 2) &&& 858993459)) 4)) &&& 252645135) 8)) 16)) &&& 63))
theorem sp_bitCount {G : ovG} {S : ovS} {x : Int32} : Ex G mJ6_bitCount_0f7a4 1 [.int x] S (fun r S1 => r = bcF x ∧ S1 = S) := eJ6_bitCount_0f7a4 (vJ6_bitCount_0f7a4_0 ⟨rfl, rfl⟩)
theorem bc5 : ∀ g, g < 32 → bcF (nI g) = nI (fb_ct (fun i => g.testBit i) 5) := by decide +kernel
/-- a LOAF of the class's VILLAGE -/
def LF (S : ovS) (d st o h sd : Int32) : Int32 := LFl (S.1 20 1).toNatClampNeg (S.1 21) (S.1 22) d st o h sd
def FOk (S : ovS) : Prop := ∃ fl : Nat, S.1 20 1 = nI fl ∧ fl ≤ 300 ∧ (fl = 0 ∨ ¬ 5 < S.1 21 0)
theorem sp_LF {G : ovG} {S : ovS} {d st o h sd : Int32} (hf : FOk S) : Ex G mX1_loaf 2 [.ref 20, .int d, .int st, .int o, .int h, .int sd] S (fun r S1 => r = LF S d st o h sd ∧ Fr [23] S S1) := by
  obtain ⟨fl, h1, h2, h3⟩ := hf
  refine Ex.imp (sp_loaf h2 h1 h3) (fun r S1 q => ⟨?_, q.2⟩)
  rw [LF, h1, nI_ix (by omega)]
  exact q.1
def gLo (S : ovS) (w sd : Nat) : Int32 := LF S (S.1 25 w) (S.1 27 w) (S.1 28 w) (S.1 24 7) (nI sd)
/-- the rows on which LOAVES hang -/
def SmL (S S1 : ovS) : Prop := S1.1 20 = S.1 20 ∧ S1.1 21 = S.1 21 ∧ S1.1 22 = S.1 22 ∧ S1.1 25 = S.1 25 ∧ S1.1 27 = S.1 27 ∧ S1.1 28 = S.1 28 ∧ S1.1 24 = S.1 24
theorem Fr.L {L : List Nat} {S S1 : ovS} (h : Fr L S S1) (hc : ([20, 21, 22, 25, 27, 28, 24].all fun k => !(L.contains k)) = true) : SmL S S1 := by
  have key : ∀ k, k ∈ [20, 21, 22, 25, 27, 28, 24] → S1.1 k = S.1 k := fun k hk => h.at k (by simpa using List.all_eq_true.mp hc k hk)
  exact ⟨key 20 (by simp), key 21 (by simp), key 22 (by simp), key 25 (by simp), key 27 (by simp), key 28 (by simp), key 24 (by simp)⟩
theorem gLo_sm {S S1 : ovS} (h : SmL S S1) : gLo S1 = gLo S := by
  obtain ⟨h1, h2, h3, h4, h5, h6, h7⟩ := h
  funext w sd
  simp only [gLo, LF, h1, h2, h3, h4, h5, h6, h7]
theorem LF_sm {S S1 : ovS} (h : SmL S S1) : LF S1 = LF S := by
  obtain ⟨h1, h2, h3, h4, h5, h6, h7⟩ := h
  funext d st o hh sd
  simp only [LF, h1, h2, h3]
theorem FOk_sm {S S1 : ovS} (h : SmL S S1) (hf : FOk S) : FOk S1 := by
  obtain ⟨fl, h1, h2, h3⟩ := hf
  exact ⟨fl, by rw [h.1]; exact h1, h2, by rw [h.2.1]; exact h3⟩
/-- a NAME that may be said where there are n SOULS, or none -/
def isNm (n : Nat) (x : Int32) : Prop := x = -1 ∨ ∃ w, w < n ∧ x = nI w
theorem isNm.mono {n m : Nat} {x : Int32} (h : isNm n x) (hm : n ≤ m) : isNm m x := h.imp id (fun ⟨w, h1, h2⟩ => ⟨w, by omega, h2⟩)
theorem nI_m1 {w : Nat} (h : w < 5) : ¬ nI w = -1 := by
  have : w = 0 ∨ w = 1 ∨ w = 2 ∨ w = 3 ∨ w = 4 := by omega
  rcases this with rfl | rfl | rfl | rfl | rfl <;> decide
/-- the Batch's SAYINGS, how many say each, who says -/
def BN (S : ovS) (nm : Nat → Int32) : Prop := (∀ i, i < 5 → S.1 365 i = nm i) ∧ (∀ w, w < 5 → S.1 366 w = nI (fb_ct (fun i => decide (nm i = nI w)) 5)) ∧ S.1 364 6 = nI (mk (fun i => decide (¬ nm i = -1)) 5)
def BS (S : ovS) : Prop := ∀ g, g < 32 → S.1 368 g = bI (anyN 5 (qrF (S.1 29) (nI g)))
def BC (S : ovS) : Prop := ∀ k, k < 30 → S.1 367 k = -1 ∨ S.1 367 k = gLo S (k % 5) (k / 5)
theorem BN.sm {S S1 : ovS} {nm : Nat → Int32} (h : BN S nm) (h1 : S1.1 365 = S.1 365) (h2 : S1.1 366 = S.1 366) (h3 : S1.1 364 = S.1 364) : BN S1 nm := by
  simp only [BN, h1, h2, h3]
  exact h
theorem BS.sm {S S1 : ovS} (h : BS S) (h1 : S1.1 368 = S.1 368) (h2 : S1.1 29 = S.1 29) : BS S1 := by
  simp only [BS, h1, h2]
  exact h
theorem BC.sm {S S1 : ovS} (h : BC S) (h1 : S1.1 367 = S.1 367) (h2 : SmL S S1) : BC S1 := by
  simp only [BC, h1, gLo_sm h2]
  exact h
theorem sp_hush {G : ovG} {S : ovS} : Ex G mX0_hush 2 [.ref 364] S (fun _ S1 => Fr [364, 365, 366] S S1 ∧ BN S1 (fun _ => -1)) := by
  refine eX0_hush (vX0_hush_0 (fun S1 e1 => ⟨_, sp_fill ov_c365 ov_n365 (by decide), fun r S2 e2 => ⟨_, sp_fill ov_c366 ov_n366 (by decide), fun r3 S3 e3 => ?_⟩⟩))
  subst e3 e2 e1
  refine ⟨((Fr.rf.st rfl).se rfl).se rfl, fun i hi => ?_, fun i hi => ?_, ?_⟩
  · rw [seI_row (by decide), seI_self]
    simp [fillR, hi]
  · rw [seI_self]
    have : fb_ct (fun _ : Nat => decide ((-1 : Int32) = nI i)) 5 = 0 := by
      rw [fb_ct_zero]
      intro k _
      simp only [decide_eq_false_iff_not]
      exact fun q => nI_m1 hi q.symm
    rw [this]
    simp [fillR, hi]
    rfl
  · rw [seI_row (by decide), seI_row (by decide), stI_1]
    rfl
