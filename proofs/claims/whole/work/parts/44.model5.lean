/-! ===== the reference: all sayings, the best for one, rounds ===== -/
def mxF (g : Int32 → Int32) : Nat → Int32
  | 0 => 0
  | j + 1 => if g (nI j - 1) ≤ mxF g j then mxF g j else g (nI j - 1)
theorem mx_ge {g : Int32 → Int32} : ∀ {j i : Nat}, i < j → g (nI i - 1) ≤ mxF g j
  | 0, _, h => absurd h (by omega)
  | j + 1, i, h => by
    rw [mxF]
    have h1 : i < j → g (nI i - 1) ≤ mxF g j := fun q => mx_ge q
    by_cases e : i = j
    · subst e
      split
      · assumption
      · exact Int32.le_refl _
    · have h2 := h1 (by omega)
      split
      · exact h2
      · rename_i h3
        exact Int32.le_trans h2 (Int32.le_of_lt (Int32.not_le.mp h3))
theorem mx_at {g : Int32 → Int32} : ∀ {j : Nat}, mxF g j = 0 ∨ ∃ i, i < j ∧ mxF g j = g (nI i - 1)
  | 0 => Or.inl rfl
  | j + 1 => by
    rw [mxF]
    split
    · rcases mx_at (g := g) (j := j) with h | ⟨i, h1, h2⟩
      · exact Or.inl h
      · exact Or.inr ⟨i, by omega, h2⟩
    · exact Or.inr ⟨j, by omega, rfl⟩
theorem bs_cs {g : Int32 → Int32} {c : Int32} : ∀ j : Nat, ((bsF g c j) = (c, g c) ∧ ∀ i, i < j → g (nI i - 1) ≤ g c) ∨ (∃ i, i < j ∧ bsF g c j = (nI i - 1, g (nI i - 1)) ∧ g c < g (nI i - 1) ∧ (∀ i', i' < i → g (nI i' - 1) < g (nI i - 1)) ∧ (∀ i', i' < j → g (nI i' - 1) ≤ g (nI i - 1)))
  | 0 => Or.inl ⟨rfl, fun i h => absurd h (by omega)⟩
  | j + 1 => by
    rw [bsF]
    rcases bs_cs (g := g) (c := c) j with ⟨h1, h2⟩ | ⟨i, h0, h1, h2, h3, h4⟩
    · rw [h1]
      by_cases q : g (nI j - 1) ≤ g c
      · rw [if_pos q]
        refine Or.inl ⟨rfl, fun i hi => ?_⟩
        by_cases e : i = j
        · subst e; exact q
        · exact h2 i (by omega)
      · rw [if_neg q]
        have q' := Int32.not_le.mp q
        refine Or.inr ⟨j, by omega, rfl, q', fun i' hi => Int32.lt_of_le_of_lt (h2 i' hi) q', fun i' hi => ?_⟩
        by_cases e : i' = j
        · subst e; exact Int32.le_refl _
        · exact Int32.le_trans (h2 i' (by omega)) (Int32.le_of_lt q')
    · rw [h1]
      by_cases q : g (nI j - 1) ≤ g (nI i - 1)
      · rw [if_pos q]
        refine Or.inr ⟨i, by omega, rfl, h2, h3, fun i' hi => ?_⟩
        by_cases e : i' = j
        · subst e; exact q
        · exact h4 i' (by omega)
      · rw [if_neg q]
        have q' := Int32.not_le.mp q
        refine Or.inr ⟨j, by omega, rfl, Int32.lt_trans h2 q', fun i' hi => Int32.lt_of_le_of_lt (h4 i' hi) q', fun i' hi => ?_⟩
        by_cases e : i' = j
        · subst e; exact Int32.le_refl _
        · exact Int32.le_trans (h4 i' (by omega)) (Int32.le_of_lt q')
theorem bs_mx {g : Int32 → Int32} {c : Int32} {n i0 : Nat} (h0 : g (nI 0 - 1) = 0) (hc : c = nI i0 - 1) (hi : i0 ≤ n) : (mxF g (n + 1) = g c ∧ (bsF g c (n + 1)).1 = c) ∨ (∃ i, i ≤ n ∧ (bsF g c (n + 1)).1 = nI i - 1 ∧ g (nI i - 1) = mxF g (n + 1) ∧ ¬ mxF g (n + 1) = g c ∧ ¬ nI i - 1 = c ∧ ∀ i', i' < i → g (nI i' - 1) < mxF g (n + 1)) := by
  have hat : ∃ i, i < n + 1 ∧ mxF g (n + 1) = g (nI i - 1) := by
    rcases mx_at (g := g) (j := n + 1) with h | h
    · exact ⟨0, by omega, by rw [h, h0]⟩
    · exact h
  obtain ⟨m, hm, em⟩ := hat
  rcases bs_cs (g := g) (c := c) (n + 1) with ⟨h1, h2⟩ | ⟨i, h5, h1, h2, h3, h4⟩
  · refine Or.inl ⟨?_, by rw [h1]⟩
    have a := h2 m hm
    have b := mx_ge (g := g) (j := n + 1) (i := i0) (by omega)
    rw [← hc] at b
    rw [← em] at a
    exact Int32.le_antisymm a b
  · have e : g (nI i - 1) = mxF g (n + 1) := by
      have a := h4 m hm
      have b := mx_ge (g := g) (j := n + 1) (i := i) h5
      rw [← em] at a
      exact Int32.le_antisymm b a
    refine Or.inr ⟨i, by omega, by rw [h1], e, fun z => ?_, fun z => ?_, fun i' hi' => by rw [← e]; exact h3 i' hi'⟩
    · rw [← e] at z
      rw [z] at h2
      exact Int32.lt_irrefl h2
    · rw [z] at h2
      exact Int32.lt_irrefl h2
section
variable {G : ovG} {S : ovS} {n : Nat} {nm : Nat → Int32}
theorem m1_sub (s : Nat) : nI s + (-1) = nI s - 1 := by
  rw [Int32.sub_eq_add_neg]
theorem sp_laySayings {v : Nat} (hv : v < 100000) (hM : MX S n) : Ex G mX12_laySayings 6 [.ref 412, .int (nI v)] S (fun _ S1 => SY S1 n (nmv n v) ∧ GE S1 n (gG S (nmv n v)) ∧ Fr M5 S S1) := by
  have hn := hM.n5
  refine eX12_laySayings (vX12_laySayings_0 ?_)
  have key : ∀ s : Nat, ∀ S' : ovS, s ≤ n → Fr [427] S S' → (∀ j, s ≤ j → j < n → S'.1 427 j = nmv n v j) → RM G mX12_laySayings 6 (fun _ S1 => SY S1 n (nmv n v) ∧ GE S1 n (gG S (nmv n v)) ∧ Fr M5 S S1) 9 [some (.ref 412), none, some (.int (nI (v / (n + 1) ^ (n - s)))), some (.int (nI s - 1))] [] S' := by
    intro s
    induction s with
    | zero =>
      intro S' hs hF h
      have hM' : FM S S' := FM.of hF rfl
      refine vX12_laySayings_9 ⟨fun _ => ⟨_, sp_layGets (hM.fm hM') (nmv_VN n v) (fun j hj => h j (by omega) hj), fun r4 S3 q => ⟨fun j hj => ?_, ?_, ?_⟩⟩, fun c => absurd (by decide) c⟩
      · rw [q.2.2.at 427 rfl]
        exact h j (by omega) hj
      · rw [← gG_fm hM']
        exact q.2.1
      · exact (hF.mono rfl).tr (q.2.2.mono rfl)
    | succ s ih =>
      intro S' hs hF h
      have e35 : S'.1 412 35 = nI n := (hM.fm (FM.of hF rfl)).2.1
      have ep : nI (s + 1) - 1 = nI s := nI_pred s
      have hnz : ¬ S'.1 412 35 + 1 = 0 := by
        rw [e35, nI_1]
        intro z
        have := (nI_eq_i (b := 0) (by omega) (by decide)).mp z
        omega
      have hd : v / (n + 1) ^ (n - (s + 1)) ≤ v := Nat.div_le_self _ _
      rw [ep]
      refine vX12_laySayings_9 ⟨fun c => absurd c ?_, fun _ => ⟨hnz, vp_in_nI (by omega) (by decide), fun S7 e7 => ?_⟩⟩
      · intro z
        have := (nI_lt_i (b := 0) (by omega) (by decide)).mp z
        omega
      · rw [nI_ix (n := s) (by omega), e35, nI_1, orem_nI (by omega) (by omega) (by omega)] at e7
        have e7' : S7.1 412 35 = nI n := by rw [e7, stI_row (by decide), e35]
        rw [e7']
        rw [e35] at hnz
        refine ⟨hnz, ?_⟩
        rw [nI_1, pk_div (by omega) (by omega) (by omega), Nat.div_div_eq_div_mul, ← Nat.pow_succ, show (n - (s + 1)).succ = n - s by omega, m1_sub]
        subst e7
        refine ih _ (by omega) (hF.st rfl) (fun j h1 h2 => ?_)
        rw [stI_self]
        by_cases e : j = s
        · subst e
          simp only [upd, if_true, nmv, if_pos h2, dgv]
          rw [show n - 1 - j = n - (j + 1) by omega]
        · simp only [upd, if_neg e]
          exact h j (by omega) h2
  have h0 := key n S (Nat.le_refl _) Fr.rf (fun j h1 h2 => absurd h1 (by omega))
  rw [Nat.sub_self, Nat.pow_zero, Nat.div_one] at h0
  rw [hM.2.1]
  exact h0
theorem sp_getsBy {s : Nat} {w : Int32} (hM : MX S n) (hV : VN n nm) (hS : SY S n nm) (hs : s < n) (hw : isNm n w) : Ex G mX12_getsBy 6 [.ref 412, .int (nI s), .int w] S (fun r S1 => r = gG S (upd nm s w) s ∧ SY S1 n nm ∧ Fr M5 S S1) := by
  have hn := hM.n5
  have hii : vp_in (nI s) 5 := vp_in_nI (by omega) (by decide)
  refine eX12_getsBy (vX12_getsBy_0 ⟨hii, hii, fun S1 e1 => ?_⟩)
  rw [nI_ix (n := s) (by omega)] at e1 ⊢
  have hF1 : Fr [427] S S1 := by subst e1; exact Fr.rf.st rfl
  have hM1 : FM S S1 := FM.of hF1 rfl
  have hS1 : SY S1 n (upd nm s w) := by
    intro i hi
    rw [e1, stI_self]
    by_cases e : i = s
    · simp [upd, e]
    · simp only [upd, if_neg e]
      exact hS i hi
  refine ⟨_, sp_layGets (hM.fm hM1) (hV.up hs hw) hS1, fun r4 S3 q => ⟨hii, fun S7 e7 => ⟨hii, ?_⟩⟩⟩
  obtain ⟨q1, q2, q3⟩ := q
  subst e7
  refine ⟨?_, fun i hi => ?_, ?_⟩
  · rw [stI_row (by decide), q2 s hs, gG_fm hM1]
  · rw [stI_self]
    by_cases e : i = s
    · simp only [upd, e, if_true]
      exact hS s hs
    · simp only [upd, if_neg e]
      rw [q3.at 427 rfl, e1, stI_self]
      simp only [upd, if_neg e]
      exact hS i hi
  · exact ((hF1.mono rfl).tr (q3.mono rfl)).st rfl
theorem sp_mostFor {s : Nat} (hM : MX S n) (hV : VN n nm) (hS : SY S n nm) (hs : s < n) : Ex G mX12_mostFor 7 [.ref 412, .int (nI s)] S (fun r S1 => r = mxF (fun w => gG S (upd nm s w) s) (n + 1) ∧ SY S1 n nm ∧ Fr M5 S S1) := by
  have hn := hM.n5
  refine eX12_mostFor (vX12_mostFor_0 ?_)
  have key : ∀ k j : Nat, ∀ S' : ovS, j + k = n + 1 → SY S' n nm → Fr M5 S S' → RM G mX12_mostFor 7 (fun r S1 => r = mxF (fun w => gG S (upd nm s w) s) (n + 1) ∧ SY S1 n nm ∧ Fr M5 S S1) 4 [some (.ref 412), some (.int (nI s)), some (.int (mxF (fun w => gG S (upd nm s w) s) j)), some (.int (nI j - 1)), none] [] S' := by
    intro k
    induction k with
    | zero =>
      intro j S' hj h1 h2
      have : j = n + 1 := by omega
      subst this
      have hM' := hM.fm (FM.of h2 rfl)
      refine vX12_mostFor_4 ⟨fun _ => ⟨rfl, h1, h2⟩, fun c => absurd ?_ c⟩
      rw [nI_pred]
      exact hM'.ge
    | succ k ih =>
      intro j S' hj h1 h2
      have hM' := hM.fm (FM.of h2 rfl)
      have hlt : ¬ S'.1 412 35 ≤ nI j - 1 := by
        cases j with
        | zero =>
          rw [hM'.2.1]
          intro z
          have h6 : n < 6 := by omega
          have : ∀ n, n < 6 → ¬ nI n ≤ nI 0 - 1 := by decide
          exact this n h6 z
        | succ j =>
          rw [nI_pred]
          exact hM'.le (by omega)
      have hnx : nI j - 1 + 1 = nI (j + 1) - 1 := by rw [sub_add1, nI_pred]
      refine vX12_mostFor_4 ⟨fun c => absurd c hlt, fun _ => ⟨_, sp_getsBy hM' hV h1 hs (isNm_j (by omega)), fun r4 S3 q => ?_⟩⟩
      obtain ⟨q1, q2, q3⟩ := q
      rw [gG_fm (FM.of h2 rfl)] at q1
      have hh := ih (j + 1) S3 (by omega) q2 (h2.tr q3)
      have hmx : ∀ g, mxF g (j + 1) = if g (nI j - 1) ≤ mxF g j then mxF g j else g (nI j - 1) := fun g => rfl
      rw [hmx (fun w => gG S (upd nm s w) s)] at hh
      rw [hnx]
      subst q1
      refine ⟨fun c => ?_, fun c => ?_⟩
      · rw [if_pos c] at hh
        exact hh
      · rw [if_neg c] at hh
        exact hh
  exact key (n + 1) 0 S (by omega) hS Fr.rf
theorem gG_sil {s : Nat} : gG S (upd nm s (nI 0 - 1)) s = 0 := by
  rw [gG, if_pos]
  simp only [upd, if_true]
  decide
theorem VN.i0 {s : Nat} (hV : VN n nm) (hn : n ≤ 5) (hs : s < n) : ∃ i, i ≤ n ∧ nm s = nI i - 1 := by
  rcases (hV s (by omega)).1 hs with h | ⟨w, hw, h⟩
  · exact ⟨0, by omega, h⟩
  · exact ⟨w + 1, by omega, by rw [nI_pred]; exact h⟩
/-- steady for one: just if what is best for him is what he says -/
theorem bsN_mx {s : Nat} (hV : VN n nm) (hn : n ≤ 5) (hs : s < n) : (mxF (fun w => gG S (upd nm s w) s) (n + 1) = gG S nm s ∧ bsN S n nm s = nm s) ∨ (∃ i, i ≤ n ∧ bsN S n nm s = nI i - 1 ∧ gG S (upd nm s (nI i - 1)) s = mxF (fun w => gG S (upd nm s w) s) (n + 1) ∧ ¬ mxF (fun w => gG S (upd nm s w) s) (n + 1) = gG S nm s ∧ ¬ nI i - 1 = nm s ∧ ∀ i', i' < i → gG S (upd nm s (nI i' - 1)) s < mxF (fun w => gG S (upd nm s w) s) (n + 1)) := by
  obtain ⟨i0, h1, h2⟩ := hV.i0 hn hs
  have := bs_mx (g := fun w => gG S (upd nm s w) s) (c := nm s) (n := n) gG_sil h2 h1
  simp only [upd_id] at this
  exact this
theorem sp_isSteadyHere (hM : MX S n) (hV : VN n nm) (hS : SY S n nm) : Ex G mX12_isSteadyHere 8 [.ref 412] S (fun r S1 => r = bI (!anyN n (lvF S n nm)) ∧ SY S1 n nm ∧ Fr M5 S S1) := by
  have hn := hM.n5
  refine eX12_isSteadyHere (vX12_isSteadyHere_0 ?_)
  have b01 : ∀ b : Bool, bI b = 0 ∨ bI b = 1 := by decide
  have key : ∀ k i : Nat, ∀ S' : ovS, i + k = n → SY S' n nm → Fr M5 S S' → RM G mX12_isSteadyHere 8 (fun r S1 => r = bI (!anyN n (lvF S n nm)) ∧ SY S1 n nm ∧ Fr M5 S S1) 4 [some (.ref 412), some (.int (bI (!anyN i (lvF S n nm)))), some (.int (nI i))] [] S' := by
    intro k
    induction k with
    | zero =>
      intro i S' hi h1 h2
      have : i = n := by omega
      subst this
      have hM' := hM.fm (FM.of h2 rfl)
      exact vX12_isSteadyHere_4 ⟨fun _ => ⟨b01 _, rfl, h1, h2⟩, fun c => absurd hM'.ge c⟩
    | succ k ih =>
      intro i S' hi h1 h2
      have hi' : i < n := by omega
      have hFM := FM.of h2 rfl
      have hM' := hM.fm hFM
      refine vX12_isSteadyHere_4 ⟨fun c => absurd c (hM'.le hi'), fun _ => ⟨fun c => ?_, fun c => ⟨vp_in_nI (by omega) (by decide), ?_⟩⟩⟩
      · rw [bI_0] at c
        refine ⟨b01 _, ?_, h1, h2⟩
        have : anyN i (lvF S n nm) = true := by simpa using c
        obtain ⟨j, hj, h3⟩ := anyN_iff.mp this
        rw [this, anyN_iff.mpr ⟨j, (by omega : j < n), h3⟩]
      · rw [bI_0, Bool.not_eq_false] at c
        rw [nI_ix (n := i) (by omega), h1 i hi']
        refine ⟨_, sp_getsBy hM' hV h1 hi' ((hV i (by omega)).1 hi'), fun r5 S4 q => ?_⟩
        obtain ⟨q1, q2, q3⟩ := q
        have h4 := h2.tr q3
        rw [gG_fm hFM, upd_id] at q1
        refine ⟨_, sp_mostFor (hM.fm (FM.of h4 rfl)) hV q2 hi', fun r10 S9 q => ?_⟩
        obtain ⟨p1, p2, p3⟩ := q
        rw [gG_fm (FM.of h4 rfl)] at p1
        have hh := ih (i + 1) S9 (by omega) p2 (h4.tr p3)
        rw [anyN, Bool.not_or, c, Bool.true_and, nI_succ i] at hh
        have hb := bsN_mx (S := S) hV hn hi'
        rw [q1, p1]
        refine ⟨fun d => ?_, fun d => ?_⟩
        · rcases hb with ⟨z, _⟩ | ⟨j, _, z1, z2, z3, z4, z5⟩
          · exact absurd z.symm d
          · rw [show lvF S n nm i = true by simp [lvF, z1, z4]] at hh
            exact hh
        · rcases hb with ⟨_, z⟩ | ⟨j, _, z1, z2, z3, z4, z5⟩
          · rw [show lvF S n nm i = false by simp [lvF, z]] at hh
            exact hh
          · exact absurd d.symm z3
  exact key n 0 S (by omega) hS Fr.rf
theorem sp_goRound (hM : MX S n) (hV : VN n nm) (hS : SY S n nm) : Ex G mX12_goRound 8 [.ref 412] S (fun r S1 => r = bI (rdF S n nm n).2 ∧ SY S1 n (rdF S n nm n).1 ∧ Fr M5 S S1) := by
  have hn := hM.n5
  refine eX12_goRound (vX12_goRound_0 ?_)
  have b01 : ∀ b : Bool, bI b = 0 ∨ bI b = 1 := by decide
  have key : ∀ k i : Nat, ∀ S' : ovS, i + k = n → SY S' n (rdF S n nm i).1 → Fr M5 S S' → RM G mX12_goRound 8 (fun r S1 => r = bI (rdF S n nm n).2 ∧ SY S1 n (rdF S n nm n).1 ∧ Fr M5 S S1) 4 [some (.ref 412), some (.int (bI (rdF S n nm i).2)), some (.int (nI i)), none, none] [] S' := by
    intro k
    induction k with
    | zero =>
      intro i S' hi h1 h2
      have : i = n := by omega
      subst this
      have hM' := hM.fm (FM.of h2 rfl)
      exact vX12_goRound_4 ⟨fun _ => ⟨b01 _, rfl, h1, h2⟩, fun c => absurd hM'.ge c⟩
    | succ k ih =>
      intro i S' hi h1 h2
      have hi' : i < n := by omega
      have hFM := FM.of h2 rfl
      have hM' := hM.fm hFM
      have hv := rdF_VN (S := S) hV hn i (by omega)
      have ih' := ih (i + 1)
      have hr : rdF S n nm (i + 1) = if bsN S n (rdF S n nm i).1 i = (rdF S n nm i).1 i then rdF S n nm i else (upd (rdF S n nm i).1 i (bsN S n (rdF S n nm i).1 i), true) := by rw [rdF]
      rw [hr] at ih'
      generalize hx : rdF S n nm i = x at hv h1 ih' ⊢
      have hb := bsN_mx (S := S) hv hn hi'
      refine vX12_goRound_4 ⟨fun c => absurd c (hM'.le hi'), fun _ => ⟨_, sp_mostFor hM' hv h1 hi', fun r4 S3 q => ⟨vp_in_nI (by omega) (by decide), ?_⟩⟩⟩
      obtain ⟨q1, q2, q3⟩ := q
      rw [gG_fm hFM] at q1
      have h3 := h2.tr q3
      rw [nI_ix (n := i) (by omega), q2 i hi']
      refine ⟨_, sp_getsBy (hM.fm (FM.of h3 rfl)) hv q2 hi' ((hv i (by omega)).1 hi'), fun r9 S8 q => ?_⟩
      obtain ⟨p1, p2, p3⟩ := q
      rw [gG_fm (FM.of h3 rfl), upd_id] at p1
      have h8 := h3.tr p3
      rw [p1, q1]
      refine ⟨fun d => ?_, fun d => ?_⟩
      · rcases hb with ⟨z, _⟩ | ⟨j, hj, z1, z2, z3, z4, z5⟩
        · exact absurd z.symm d
        · rw [z1, if_neg z4, nI_succ i] at ih'
          have inner : ∀ k2 w : Nat, ∀ S2 : ovS, w + k2 = j → SY S2 n x.1 → Fr M5 S S2 → RM G mX12_goRound 8 (fun r S1 => r = bI (rdF S n nm n).2 ∧ SY S1 n (rdF S n nm n).1 ∧ Fr M5 S S1) 39 [some (.ref 412), none, some (.int (nI i)), some (.int (mxF (fun w => gG S (upd x.1 i w) i) (n + 1))), some (.int (nI w - 1))] [] S2 := by
            intro k2
            induction k2 with
            | zero =>
              intro w S2 hw g1 g2
              have : w = j := by omega
              subst this
              refine vX12_goRound_39 ⟨_, sp_getsBy (hM.fm (FM.of g2 rfl)) hv g1 hi' (isNm_j hj), fun r3 S5 q => ⟨fun _ => ⟨vp_in_nI (by omega) (by decide), fun S7 e7 => ?_⟩, fun c => absurd ?_ c⟩⟩
              · subst e7
                rw [nI_ix (n := i) (by omega)]
                refine ih' _ (by omega) (fun a ha => ?_) ((g2.tr q.2.2).st rfl)
                rw [stI_self]
                by_cases e : a = i
                · simp [upd, e]
                · simp only [upd, if_neg e]
                  exact q.2.1 a ha
              · rw [q.1, gG_fm (FM.of g2 rfl), z2]
                exact Int32.le_refl _
            | succ k2 ih2 =>
              intro w S2 hw g1 g2
              refine vX12_goRound_39 ⟨_, sp_getsBy (hM.fm (FM.of g2 rfl)) hv g1 hi' (isNm_j (by omega)), fun r3 S5 q => ⟨fun c => absurd c ?_, fun _ => ?_⟩⟩
              · rw [q.1, gG_fm (FM.of g2 rfl)]
                exact Int32.not_le.mpr (z5 w (by omega))
              · have := ih2 (w + 1) S5 (by omega) q.2.1 (g2.tr q.2.2)
                rw [sub_add1]
                rw [nI_pred] at this
                exact this
          exact inner j 0 S8 (by omega) p2 h8
      · rcases hb with ⟨_, z⟩ | ⟨j, _, z1, z2, z3, z4, z5⟩
        · rw [if_pos z, nI_succ i] at ih'
          exact ih' S8 (by omega) p2 h8
        · exact absurd d.symm z3
  exact key n 0 S (by omega) hS Fr.rf
end
