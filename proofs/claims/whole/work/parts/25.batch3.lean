abbrev L6 : List Nat := [23, 364, 365, 366, 367, 368]
/-- the Batch is ready over the store S0, with these SAYINGS -/
def BB (S0 S : ovS) (nm : Nat → Int32) : Prop := Fr L6 S0 S ∧ BN S nm ∧ BS S ∧ BC S
def CX (S : ovS) (n : Nat) : Prop := S.1 16 0 = nI n ∧ n ≤ 5 ∧ FOk S
def VN (n : Nat) (nm : Nat → Int32) : Prop := ∀ i, i < 5 → (i < n → isNm n (nm i)) ∧ (n ≤ i → nm i = -1)
theorem VN.nm {n i : Nat} {nm : Nat → Int32} (h : VN n nm) (hn : n ≤ 5) (hi : i < 5) : isNm 5 (nm i) := by
  rcases Nat.lt_or_ge i n with q | q
  · exact ((h i hi).1 q).mono hn
  · exact Or.inl ((h i hi).2 q)
theorem VN.up {n s : Nat} {nm : Nat → Int32} {w : Int32} (h : VN n nm) (hs : s < n) (hw : isNm n w) : VN n (upd nm s w) := by
  intro i hi
  by_cases e : i = s
  · subst e
    refine ⟨fun _ => by simpa [upd] using hw, fun q => absurd q (by omega)⟩
  · have e2 : upd nm s w i = nm i := by simp [upd, e]
    rw [e2]
    exact h i hi
def gSt (S : ovS) (nm : Nat → Int32) : Bool := anyN 5 (qrF (S.1 29) (nI (mk (fun i => decide (¬ nm i = -1)) 5)))
def gSd (nm : Nat → Int32) : Nat := fb_ct (fun i => decide (¬ nm i = -1)) 5
def gCt (nm : Nat → Int32) (x : Int32) : Nat := fb_ct (fun i => decide (nm i = x)) 5
/-- what a SOUL GETS by SAYINGS -/
def gG (S : ovS) (nm : Nat → Int32) (s : Nat) : Int32 := if nm s = -1 then 0 else if gSt S nm then 0 else gLo S (nm s).toNatClampNeg (gSd nm) / nI (gCt nm (nm s))
theorem BB.cx {S0 S : ovS} {nm : Nat → Int32} {n : Nat} (h : BB S0 S nm) (hX : CX S0 n) : CX S n := ⟨by rw [h.1.at 16 rfl]; exact hX.1, hX.2.1, FOk_sm (h.1.L rfl) hX.2.2⟩
theorem BB.next {S0 S S1 : ovS} {nm : Nat → Int32} (h : BB S0 S nm) (hF : Fr [23, 367] S S1) (hC : BC S1) : BB S0 S1 nm :=
  ⟨h.1.tr (hF.mono rfl), h.2.1.sm (hF.at 365 rfl) (hF.at 366 rfl) (hF.at 364 rfl), h.2.2.1.sm (hF.at 368 rfl) (hF.at 29 rfl), hC⟩
theorem gSd_le (nm : Nat → Int32) : gSd nm ≤ 5 := fb_ct_le _ 5
theorem sp_gainBy {G : ovG} {S0 S : ovS} {nm : Nat → Int32} {n s : Nat} {w : Int32} (hX : CX S0 n) (hB : BB S0 S nm) (hs : s < n) (hw : isNm n w) : Ex G mX0_gainBy 4 [.ref 364, .int (nI s), .int w] S (fun r S1 => r = gG S0 (upd nm s w) s ∧ BB S0 S1 nm) := by
  have hX' := hB.cx hX
  have hn5 := hX.2.1
  have hsx : (nI s).toNatClampNeg = s := nI_ix (by omega)
  have hsi : vp_in (nI s) 5 := vp_in_nI (by omega) (by decide)
  have hus : upd nm s w s = w := by simp [upd]
  refine eX0_gainBy (vX0_gainBy_0 ?_)
  rcases hw with rfl | ⟨v, hv, rfl⟩
  · refine ⟨fun _ => ⟨?_, hB⟩, fun c => absurd (by decide) c⟩
    rw [gG, hus]
    rfl
  · have hvx : (nI v).toNatClampNeg = v := nI_ix (by omega)
    have hvi : vp_in (nI v) 5 := vp_in_nI (by omega) (by decide)
    have hm : (mk (fun i => decide (¬ nm i = -1)) 5 ||| 2 ^ s) = mk (fun i => decide (¬ upd nm s (nI v) i = -1)) 5 := by
      rw [mk_or (by omega)]
      apply mk_ext
      intro i _
      by_cases e : i = s
      · simp [upd, e, nI_m1 (show v < 5 by omega)]
      · simp [upd, e]
    have hM : S.1 364 6 ||| (1 <<< (nI s &&& 31)) = nI (mk (fun i => decide (¬ upd nm s (nI v) i = -1)) 5) := by
      rw [hB.2.1.2.2, or5 (by omega), hm]
    have hlt := mk_lt (fun i => decide (¬ upd nm s (nI v) i = -1)) 5
    have hMx : (nI (mk (fun i => decide (¬ upd nm s (nI v) i = -1)) 5)).toNatClampNeg = mk (fun i => decide (¬ upd nm s (nI v) i = -1)) 5 := nI_ix (by omega)
    have hbc : bcF (nI (mk (fun i => decide (¬ upd nm s (nI v) i = -1)) 5)) = nI (gSd (upd nm s (nI v))) := by
      rw [bc5 _ hlt]
      congr 1
      apply fb_ct_cong
      intro k hk
      rw [mk_bit]
      simp [hk]
    have hst : S.1 368 (mk (fun i => decide (¬ upd nm s (nI v) i = -1)) 5) = bI (gSt S0 (upd nm s (nI v))) := by
      rw [hB.2.2.1 _ hlt, hB.1.at 29 rfl]
      rfl
    have hct : gCt (upd nm s (nI v)) (nI v) = fb_ct (fun i => if i = s then false else decide (nm i = nI v)) 5 + 1 := by
      rw [gCt, updN_ct (by omega), if_pos rfl]
    have hct2 : fb_ct (fun i => if i = s then false else decide (nm i = nI v)) 5 + (if nm s = nI v then 1 else 0) = fb_ct (fun i => decide (nm i = nI v)) 5 := by
      have h1 := fb_ct_upd (fun i => decide (nm i = nI v)) false (show s < 5 by omega)
      simp only [decide_eq_true_eq, Bool.false_eq_true, if_false] at h1
      omega
    have hcl := fb_ct_le (fun i => decide (nm i = nI v)) 5
    rw [hX'.1, hM, hMx, hsx, hvx, hst, hB.2.1.1 s (by omega), hB.2.1.2.1 v (by omega)]
    have fin : gG S0 (upd nm s (nI v)) s = if gSt S0 (upd nm s (nI v)) then 0 else gLo S0 v (gSd (upd nm s (nI v))) / nI (gCt (upd nm s (nI v)) (nI v)) := by
      rw [gG, hus, if_neg (nI_m1 (by omega)), hvx]
    refine ⟨fun c => absurd c (nI_pos (by omega)), fun _ => ⟨fun c => absurd ((nI_le_i (by omega) (by omega)).mp c) (by omega), fun _ => ⟨fun c => absurd c (nI_pos (by omega)), fun _ => ⟨fun _ => ⟨vp_in_nI hlt (by decide), fun c => ⟨hsi, fun c2 => ⟨hvi, fun _ => ⟨_, sp_bitCount, fun r S9 q => ?_⟩, fun c3 => absurd (nI_pos' (by omega)) c3⟩, fun c2 => ⟨hvi, ?_⟩⟩, fun c => ⟨?_, hB⟩⟩, fun c => absurd ((nI_lt_i (by omega) (by omega)).mpr hs) c⟩⟩⟩⟩
    · obtain ⟨q1, q2⟩ := q
      subst q2
      rw [hbc] at q1
      subst q1
      refine ⟨_, sp_loafBy hX'.2.2 hB.2.2.2 (Nat.lt_succ_of_le (gSd_le _)) (by omega), fun r15 S14 q => ⟨?_, ?_, hB.next q.2.1 q.2.2⟩⟩
      · rw [nI_1]
        exact nI_ne0 (by omega) (by omega)
      · have hg : gSt S0 (upd nm s (nI v)) = false := by
          cases hh : gSt S0 (upd nm s (nI v)) with
          | false => rfl
          | true => rw [hh] at c; exact absurd c (by decide)
        rw [if_neg c2, Nat.add_zero] at hct2
        rw [fin, hg, hct, hct2, q.1, gLo_sm (hB.1.L rfl), nI_succ]
        rfl
    · rw [if_pos c2] at hct2
      have e1 : nI (fb_ct (fun i => decide (nm i = nI v)) 5) - 1 = nI (fb_ct (fun i => if i = s then false else decide (nm i = nI v)) 5) := by
        rw [← hct2, nI_pred]
      rw [e1]
      refine ⟨fun _ => ⟨_, sp_bitCount, fun r S9 q => ?_⟩, fun c3 => absurd (nI_pos' (by omega)) c3⟩
      obtain ⟨q1, q2⟩ := q
      subst q2
      rw [hbc] at q1
      subst q1
      refine ⟨_, sp_loafBy hX'.2.2 hB.2.2.2 (Nat.lt_succ_of_le (gSd_le _)) (by omega), fun r15 S14 q => ⟨?_, ?_, hB.next q.2.1 q.2.2⟩⟩
      · rw [nI_1]
        exact nI_ne0 (by omega) (by omega)
      · have hg : gSt S0 (upd nm s (nI v)) = false := by
          cases hh : gSt S0 (upd nm s (nI v)) with
          | false => rfl
          | true => rw [hh] at c; exact absurd c (by decide)
        rw [fin, hg, hct, q.1, gLo_sm (hB.1.L rfl), nI_succ]
        rfl
    · have hg : gSt S0 (upd nm s (nI v)) = true := by
        cases hh : gSt S0 (upd nm s (nI v)) with
        | true => rfl
        | false => rw [hh] at c; exact absurd rfl c
      rw [fin, hg]
      rfl
theorem upd_id {nm : Nat → Int32} {s : Nat} : upd nm s (nm s) = nm := by
  funext i
  by_cases e : i = s
  · simp [upd, e]
  · simp [upd, e]
theorem sp_gain {G : ovG} {S0 S : ovS} {nm : Nat → Int32} {n s : Nat} (hX : CX S0 n) (hV : VN n nm) (hB : BB S0 S nm) (hs : s < n) : Ex G mX0_gain 5 [.ref 364, .int (nI s)] S (fun r S1 => r = gG S0 nm s ∧ BB S0 S1 nm) := by
  have hn5 := hX.2.1
  refine eX0_gain (vX0_gain_0 ⟨fun c => absurd c (nI_pos (by omega)), fun _ => ⟨fun _ => ⟨vp_in_nI (by omega) (by decide), ?_⟩, fun c => absurd ((nI_lt_i (b := 5) (by omega) (by decide)).mpr (by omega)) c⟩⟩)
  rw [nI_ix (by omega), hB.2.1.1 s (by omega)]
  refine ⟨_, sp_gainBy hX hB hs ((hV s (by omega)).1 hs), fun r S1 q => ?_⟩
  rw [upd_id] at q
  exact q
