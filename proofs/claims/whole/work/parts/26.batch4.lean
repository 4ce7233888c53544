def smI (f : Nat → Int32) : Nat → Int32
  | 0 => 0
  | n + 1 => smI f n + f n
theorem nI_next {n i : Nat} {x : Int32} (hx : x = nI n) (hn : n < 2147483648) (hi : i < n) : ¬ x ≤ nI i := by
  rw [hx, nI_le_i hn (by omega)]
  omega
theorem sp_gainOfAll {G : ovG} {S0 S : ovS} {nm : Nat → Int32} {n : Nat} (hX : CX S0 n) (hV : VN n nm) (hB : BB S0 S nm) : Ex G mX0_gainOfAll 6 [.ref 364] S (fun r S1 => r = smI (gG S0 nm) n ∧ BB S0 S1 nm) := by
  have hn5 := hX.2.1
  have key : ∀ k i : Nat, ∀ S' : ovS, i + k = n → BB S0 S' nm → RM G mX0_gainOfAll 6 (fun r S1 => r = smI (gG S0 nm) n ∧ BB S0 S1 nm) 4 [some (.ref 364), some (.int (smI (gG S0 nm) i)), some (.int (nI i))] [] S' := by
    intro k
    induction k with
    | zero =>
      intro i S' hi hB'
      have : i = n := by omega
      subst this
      exact vX0_gainOfAll_4 ⟨fun _ => ⟨rfl, hB'⟩, fun c => absurd (by rw [(hB'.cx hX).1]; exact Int32.le_refl _) c⟩
    | succ k ih =>
      intro i S' hi hB'
      refine vX0_gainOfAll_4 ⟨fun c => absurd c (nI_next (hB'.cx hX).1 (by omega) (by omega)), fun _ => ⟨_, sp_gain hX hV hB' (by omega), fun r S3 q => ?_⟩⟩
      have h := ih (i + 1) S3 (by omega) q.2
      rw [nI_succ] at h
      rw [q.1]
      exact h
  exact eX0_gainOfAll (vX0_gainOfAll_0 (key n 0 S (by omega) hB))
/-- somebody of the set is not fed -/
def unF (S : ovS) (nm : Nat → Int32) (x : Int32) : Nat → Bool := fun s => decide (¬ (x &&& (1 <<< (nI s &&& 31))) = 0) && decide (¬ S.1 17 s ≤ gG S nm s)
theorem sp_areFed {G : ovG} {S0 S : ovS} {nm : Nat → Int32} {n : Nat} {x : Int32} (hX : CX S0 n) (hV : VN n nm) (hB : BB S0 S nm) : Ex G mX0_areFed 6 [.ref 364, .int x] S (fun r S1 => r = bI (!anyN n (unF S0 nm x)) ∧ BB S0 S1 nm) := by
  have hn5 := hX.2.1
  have key : ∀ k i : Nat, ∀ S' : ovS, i + k = n → anyN i (unF S0 nm x) = false → BB S0 S' nm → RM G mX0_areFed 6 (fun r S1 => r = bI (!anyN n (unF S0 nm x)) ∧ BB S0 S1 nm) 2 [some (.ref 364), some (.int x), some (.int (nI i))] [] S' := by
    intro k
    induction k with
    | zero =>
      intro i S' hi hq hB'
      have : i = n := by omega
      subst this
      exact vX0_areFed_2 ⟨fun _ => ⟨by rw [hq]; rfl, hB'⟩, fun c => absurd (by rw [(hB'.cx hX).1]; exact Int32.le_refl _) c⟩
    | succ k ih =>
      intro i S' hi hq hB'
      have ih' := fun S3 => ih (i + 1) S3 (by omega)
      rw [nI_succ] at ih'
      have hix : (nI i).toNatClampNeg = i := nI_ix (by omega)
      refine vX0_areFed_2 ⟨fun c => absurd c (nI_next (hB'.cx hX).1 (by omega) (by omega)), fun _ => ⟨fun c => ?_, fun c => ⟨_, sp_gain hX hV hB' (by omega), fun r S3 q => ⟨vp_in_nI (by omega) (by decide), fun c2 => ?_, fun c2 => ?_⟩⟩⟩⟩
      · exact ih' S' (by simp [anyN, hq, unF, c]) hB'
      · rw [hix, q.2.1.at 17 rfl, q.1] at c2
        exact ih' S3 (by simp [anyN, hq, unF, c2]) q.2
      · rw [hix, q.2.1.at 17 rfl, q.1] at c2
        have : anyN n (unF S0 nm x) = true := anyN_iff.mpr ⟨i, by omega, by simp [unF, c, c2]⟩
        exact ⟨by rw [this]; rfl, q.2⟩
  exact eX0_areFed (vX0_areFed_0 (key n 0 S (by omega) rfl hB))
/-- how many say another one's NAME -/
def shF (nm : Nat → Int32) : Nat → Bool := fun s => decide (¬ nm s = -1) && decide (¬ nm s = nI s)
theorem ct_t {p : Nat → Bool} {i : Nat} (h : p i = true) : nI (fb_ct p i) + 1 = nI (fb_ct p (i + 1)) := by
  rw [fb_ct_succ, h, if_pos rfl, nI_1]
theorem ct_f {p : Nat → Bool} {i : Nat} (h : p i = false) : fb_ct p (i + 1) = fb_ct p i := by
  rw [fb_ct_succ, h, if_neg (by decide), Nat.add_zero]
theorem sp_shame {G : ovG} {S0 S : ovS} {nm : Nat → Int32} {n : Nat} (hX : CX S0 n) (hB : BB S0 S nm) : Ex G mX0_shame 1 [.ref 364] S (fun r S1 => r = nI (fb_ct (shF nm) n) ∧ S1 = S) := by
  have hn5 := hX.2.1
  refine eX0_shame (vX0_shame_0 (loopUp (n := n) (P := fun i => RM G mX0_shame 1 (fun r S1 => r = nI (fb_ct (shF nm) n) ∧ S1 = S) 4 [some (.ref 364), some (.int (nI (fb_ct (shF nm) i))), some (.int (nI i))] [] S) ?_ ?_ 0 (by omega)))
  · exact vX0_shame_4 ⟨fun _ => ⟨rfl, rfl⟩, fun c => absurd (by rw [(hB.cx hX).1]; exact Int32.le_refl _) c⟩
  · intro i hi ih
    have hii : vp_in (nI i) 5 := vp_in_nI (by omega) (by decide)
    rw [nI_succ i] at ih
    refine vX0_shame_4 ⟨fun c => absurd c (nI_next (hB.cx hX).1 (by omega) (by omega)), fun _ => ⟨hii, ?_⟩⟩
    rw [nI_ix (by omega), hB.2.1.1 i (by omega)]
    refine ⟨fun c => ?_, fun c => ⟨hii, fun c2 => ?_, fun c2 => ?_⟩⟩
    · rw [ct_f (i := i) (by simp [shF, c])] at ih
      exact ih
    · rw [ct_f (i := i) (by simp [shF, c2])] at ih
      exact ih
    · rw [← ct_t (i := i) (by simp [shF, c, c2])] at ih
      exact ih
/-- the best among what may be said, what is said already ahead of others like it -/
def bsF (g : Int32 → Int32) (c : Int32) : Nat → Int32 × Int32
  | 0 => (c, g c)
  | j + 1 => if g (nI j - 1) ≤ (bsF g c j).2 then bsF g c j else (nI j - 1, g (nI j - 1))
theorem isNm_j {n j : Nat} (hj : j ≤ n) : isNm n (nI j - 1) := by
  cases j with
  | zero => exact Or.inl (by decide)
  | succ j => exact Or.inr ⟨j, by omega, nI_pred j⟩
theorem sp_bestFor {G : ovG} {S0 S : ovS} {nm : Nat → Int32} {n s : Nat} (hX : CX S0 n) (hV : VN n nm) (hB : BB S0 S nm) (hs : s < n) : Ex G mX0_bestFor 5 [.ref 364, .int (nI s)] S (fun r S1 => r = (bsF (fun w => gG S0 (upd nm s w) s) (nm s) (n + 1)).1 ∧ BB S0 S1 nm) := by
  have hn5 := hX.2.1
  have key : ∀ k j : Nat, ∀ S' : ovS, j + k = n + 1 → BB S0 S' nm → RM G mX0_bestFor 5 (fun r S1 => r = (bsF (fun w => gG S0 (upd nm s w) s) (nm s) (n + 1)).1 ∧ BB S0 S1 nm) 28 [some (.ref 364), some (.int (nI s)), some (.int (bsF (fun w => gG S0 (upd nm s w) s) (nm s) j).1), some (.int (bsF (fun w => gG S0 (upd nm s w) s) (nm s) j).2), some (.int (nI j - 1)), none] [] S' := by
    intro k
    induction k with
    | zero =>
      intro j S' hj hB'
      have : j = n + 1 := by omega
      subst this
      exact vX0_bestFor_28 ⟨fun _ => ⟨rfl, hB'⟩, fun c => absurd (by rw [(hB'.cx hX).1, nI_pred]; exact Int32.le_refl _) c⟩
    | succ k ih =>
      intro j S' hj hB'
      have hlt : ¬ S'.1 16 0 ≤ nI j - 1 := by
        rw [(hB'.cx hX).1]
        cases j with
        | zero =>
          have : n = 0 ∨ n = 1 ∨ n = 2 ∨ n = 3 ∨ n = 4 ∨ n = 5 := by omega
          rcases this with rfl | rfl | rfl | rfl | rfl | rfl <;> decide
        | succ j =>
          rw [nI_pred, nI_le_i (by omega) (by omega)]
          omega
      refine vX0_bestFor_28 ⟨fun c => absurd c hlt, fun _ => ⟨_, sp_gainBy hX hB' hs (isNm_j (by omega)), fun r S3 q => ?_⟩⟩
      obtain ⟨q1, q2⟩ := q
      have h := ih (j + 1) S3 (by omega) q2
      have e : nI (j + 1) - 1 = nI j - 1 + 1 := by
        rw [nI_pred]
        cases j with
        | zero => decide
        | succ j => rw [nI_pred, nI_1]
      rw [e] at h
      rw [q1]
      refine ⟨fun c => ?_, fun c => ?_⟩
      · simp only [bsF, if_pos c] at h
        exact h
      · simp only [bsF, if_neg c] at h
        exact h
  refine eX0_bestFor (vX0_bestFor_0 ⟨fun c => absurd c (nI_pos (by omega)), fun _ => ⟨fun _ => ⟨vp_in_nI (by omega) (by decide), ?_⟩, fun c => absurd ((nI_lt_i (b := 5) (by omega) (by decide)).mpr (by omega)) c⟩⟩)
  rw [nI_ix (by omega), hB.2.1.1 s (by omega)]
  refine ⟨_, sp_gainBy hX hB hs ((hV s (by omega)).1 hs), fun r S1 q => ?_⟩
  rw [q.1]
  exact key (n + 1) 0 S1 (by omega) q.2
theorem sp_countWays {G : ovG} {S0 S : ovS} {nm : Nat → Int32} {n : Nat} (hX : CX S0 n) (hB : BB S0 S nm) : Ex G mX0_countWays 1 [.ref 364] S (fun r S1 => r = nI ((n + 1) ^ n) ∧ S1 = S) := by
  have hn5 := hX.2.1
  refine eX0_countWays (vX0_countWays_0 (loopUp (n := n) (P := fun i => RM G mX0_countWays 1 (fun r S1 => r = nI ((n + 1) ^ n) ∧ S1 = S) 4 [some (.ref 364), some (.int (nI ((n + 1) ^ i))), some (.int (nI i))] [] S) ?_ ?_ 0 (by omega)))
  · exact vX0_countWays_4 ⟨fun _ => ⟨rfl, rfl⟩, fun c => absurd (by rw [(hB.cx hX).1]; exact Int32.le_refl _) c⟩
  · intro i hi ih
    refine vX0_countWays_4 ⟨fun c => absurd c (nI_next (hB.cx hX).1 (by omega) (by omega)), fun _ => ?_⟩
    rw [Nat.pow_succ, nI_succ i] at ih
    rw [(hB.cx hX).1, nI_1, pk_mul]
    exact ih
theorem BB.put {G : ovG} {S0 S : ovS} {nm : Nat → Int32} {n s : Nat} {w : Int32} (hX : CX S0 n) (hV : VN n nm) (hB : BB S0 S nm) (hs : s < n) (hw : isNm n w) : Ex G mX0_put 1 [.ref 364, .int (nI s), .int w] S (fun _ S1 => BB S0 S1 (upd nm s w)) := by
  have hn5 := hX.2.1
  refine Ex.imp (sp_put (nm := nm) (by omega) (hw.mono hn5) (hV.nm hn5 (by omega)) hB.2.1) (fun r S1 q => ⟨hB.1.tr (q.1.mono rfl), q.2, hB.2.2.1.sm (q.1.at 368 rfl) (q.1.at 29 rfl), hB.2.2.2.sm (q.1.at 367 rfl) (q.1.L rfl)⟩)
theorem BB.hush {G : ovG} {S0 S : ovS} {nm : Nat → Int32} (hB : BB S0 S nm) : Ex G mX0_hush 2 [.ref 364] S (fun _ S1 => BB S0 S1 (fun _ => -1)) :=
  Ex.imp sp_hush (fun r S1 q => ⟨hB.1.tr (q.1.mono rfl), q.2, hB.2.2.1.sm (q.1.at 368 rfl) (q.1.at 29 rfl), hB.2.2.2.sm (q.1.at 367 rfl) (q.1.L rfl)⟩)
/-- the SAYINGS behind these -/
def nxF (n : Nat) : Nat → (Nat → Int32) → (Nat → Int32)
  | 0, nm => nm
  | k + 1, nm => if nI n ≤ nm k + 1 then nxF n k (upd nm k (-1)) else upd nm k (nm k + 1)
theorem isNm_inc {n : Nat} {x : Int32} (h : isNm n x) (hn : n ≤ 5) (hx : ¬ nI n ≤ x + 1) : isNm n (x + 1) := by
  rcases h with rfl | ⟨w, hw, rfl⟩
  · rcases Nat.eq_zero_or_pos n with q | q
    · subst q
      exact absurd (by decide) hx
    · exact Or.inr ⟨0, q, by decide⟩
  · rw [nI_1] at hx ⊢
    rw [nI_le_i (by omega) (by omega)] at hx
    exact Or.inr ⟨w + 1, by omega, rfl⟩
theorem sp_goOn {G : ovG} {S0 S : ovS} {nm : Nat → Int32} {n : Nat} (hX : CX S0 n) (hV : VN n nm) (hB : BB S0 S nm) : Ex G mX0_goOn 2 [.ref 364] S (fun _ S1 => BB S0 S1 (nxF n n nm) ∧ VN n (nxF n n nm)) := by
  have hn5 := hX.2.1
  have key : ∀ k : Nat, ∀ (nm' : Nat → Int32) (S' : ovS), k ≤ n → nxF n n nm = nxF n k nm' → VN n nm' → BB S0 S' nm' → RM G mX0_goOn 2 (fun _ S1 => BB S0 S1 (nxF n n nm) ∧ VN n (nxF n n nm)) 10 [some (.ref 364), some (.int (nI k - 1))] [] S' := by
    intro k
    induction k with
    | zero =>
      intro nm' S' hk he hV' hB'
      refine vX0_goOn_10 ⟨fun _ => ?_, fun c => absurd (by decide) c⟩
      rw [he]
      exact ⟨hB', hV'⟩
    | succ k ih =>
      intro nm' S' hk he hV' hB'
      rw [nI_pred]
      refine vX0_goOn_10 ⟨fun c => absurd c (nI_pos (by omega)), fun _ => ⟨vp_in_nI (by omega) (by decide), ?_⟩⟩
      rw [nI_ix (by omega), hB'.2.1.1 k (by omega), (hB'.cx hX).1]
      refine ⟨fun c => ⟨_, BB.put hX hV' hB' (by omega) (Or.inl rfl), fun r S4 q => ?_⟩, fun c => ⟨vp_in_nI (by omega) (by decide), _, BB.put hX hV' hB' (by omega) (isNm_inc ((hV' k (by omega)).1 (by omega)) hn5 c), fun r S9 q => ?_⟩⟩
      · have h := ih (upd nm' k (-1)) S4 (by omega) (by rw [he, nxF, if_pos c]) (hV'.up (by omega) (Or.inl rfl)) q
        have e : nI k + (-1) = nI k - 1 := by
          cases k with
          | zero => decide
          | succ k => rw [nI_pred, pk_m1]
        rw [e]
        exact h
      · rw [he, nxF, if_neg c]
        exact ⟨q, hV'.up (by omega) (isNm_inc ((hV' k (by omega)).1 (by omega)) hn5 c)⟩
  refine eX0_goOn (vX0_goOn_0 ?_)
  rw [(hB.cx hX).1]
  exact key n nm S (Nat.le_refl _) rfl hV hB
