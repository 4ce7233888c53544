/-! ===== the History, acts ===== -/
theorem orem_nI {a d : Nat} (ha : a < 2 ^ 31) (h0 : 0 < d) (hd : d < 2 ^ 31) : orem (nI a) (nI d) = nI (a % d) := pk_rem ha h0 hd
theorem ring_in : ∀ j, j < 41 → 34 + 8 * j ∈ ovSt ∧ ocl (34 + 8 * j) = 9 := by decide +kernel
theorem box_in : ∀ j, j < 3 → 388 + 8 * j ∈ ovSt ∧ ocl (388 + 8 * j) = 9 := by decide +kernel
theorem now_in : 24 ∈ ovSt := by decide +kernel
theorem orow_r (j : Nat) : orow 33 j = 34 + 8 * j := by simp [orow]
theorem orow_b (j : Nat) : orow 362 j = 388 + 8 * j := by simp [orow]
/-- rows outside a State's eight, and but some others, are as they were -/
def FrS (L : List Nat) (o : Nat) (S S1 : ovS) : Prop := (∀ k, L.contains k = false → k < o ∨ o + 8 ≤ k → S1.1 k = S.1 k) ∧ S1.2 = S.2
theorem om40 : ∀ u, u < 41 → omin 40 (nI u + 1) = nI (if u < 40 then u + 1 else 40) := by decide +kernel
section
variable {G : ovG} {S : ovS} {a u r : Nat}
theorem stEq.cg {S1 S2 S3 : ovS} {oa ob : Nat} (h : stEq S1 oa S2 ob) (he : ∀ j, j < 8 → S3.1 (oa + j) = S1.1 (oa + j)) : stEq S3 oa S2 ob := by
  refine ⟨fun q h1 h2 j hj => ?_, fun j h1 h2 => ?_⟩
  · rw [he q (by omega)]
    exact h.1 q h1 h2 j hj
  · have := he 0 (by decide)
    rw [Nat.add_zero] at this
    rw [this]
    exact h.2 j h1 h2
theorem stEq.cgr {S1 S2 S3 : ovS} {oa ob : Nat} (h : stEq S1 oa S2 ob) (he : ∀ j, j < 8 → S2.1 (ob + j) = S3.1 (ob + j)) : stEq S1 oa S3 ob := by
  refine ⟨fun q h1 h2 j hj => ?_, fun j h1 h2 => ?_⟩
  · rw [← he q (by omega)]
    exact h.1 q h1 h2 j hj
  · have := he 0 (by decide)
    rw [Nat.add_zero] at this
    rw [← this]
    exact h.2 j h1 h2
theorem sp_keep (ha : S.1 32 2 = nI a) (hal : a < 41) (hu : S.1 32 0 = nI u) (hul : u ≤ 40) : Ex G mX3_keep 3 [.ref 32, .ref 24] S (fun _ S1 => stEq S1 (34 + 8 * ((a + 1) % 41)) S 24 ∧ FrS [32] (34 + 8 * ((a + 1) % 41)) S S1 ∧ S1.1 32 2 = nI ((a + 1) % 41) ∧ S1.1 32 0 = nI (if u < 40 then u + 1 else 40) ∧ S1.1 32 1 = 0) := by
  have hm : (a + 1) % 41 < 41 := Nat.mod_lt _ (by decide)
  have e1 : orem (S.1 32 2 + 1) 41 = nI ((a + 1) % 41) := by
    rw [ha, nI_1]
    exact orem_nI (d := 41) (by omega) (by decide) (by decide)
  obtain ⟨b, hb⟩ : ∃ b, b = (a + 1) % 41 := ⟨_, rfl⟩
  rw [← hb] at hm e1 ⊢
  refine eX3_keep (vX3_keep_0 (fun S1 es1 => ?_))
  rw [e1] at es1
  have h2 : S1.1 32 2 = nI b := by rw [es1, stI_1]; rfl
  rw [h2, nI_ix (by omega), orow_r]
  refine ⟨vp_in_nI hm (by decide), (ring_in b hm).2, _, sp_take (ring_in b hm).1 now_in (by omega), fun r4 S3 q S7 e7 S8 e8 => ?_⟩
  obtain ⟨q1, q2, q3⟩ := q
  have h32 : S3.1 32 = S1.1 32 := q2 32 (by omega)
  subst e8 e7
  refine ⟨?_, ⟨fun k hk hk2 => ?_, ?_⟩, ?_, ?_, ?_⟩
  · refine (q1.cg (S3 := stI (stI S3 32 0 (omin 40 (S3.1 32 0 + 1))) 32 1 0) (fun j hj => ?_)).cgr (fun j hj => ?_)
    · rw [stI_row (by omega), stI_row (by omega)]
    · rw [es1, stI_row (by omega)]
  · have hne : k ≠ 32 := fun e => by subst e; cases hk
    rw [stI_row hne, stI_row hne, q2 k hk2, es1, stI_row hne]
  · show S3.2 = S.2
    rw [q3, es1]
    rfl
  · rw [stI_1, stI_1, h32, h2]
    rfl
  · have e0 : S3.1 32 0 = nI u := by
      rw [h32, es1, stI_1]
      exact hu
    rw [stI_1, stI_1, e0, ← om40 u (by omega)]
    rfl
  · rw [stI_1]
    rfl
theorem sp_hbegin : Ex G mX3_begin 3 [.ref 32, .ref 24] S (fun _ S1 => stEq S1 34 S 24 ∧ FrS [32] 34 S S1 ∧ S1.1 32 2 = 0 ∧ S1.1 32 0 = 0 ∧ S1.1 32 1 = 0) := by
  refine eX3_begin (vX3_begin_0 (fun S1 e1 S2 e2 S3 e3 => ?_))
  have h2 : S3.1 32 2 = nI 0 := by subst e3 e2 e1; simp only [stI_1]; rfl
  have hF : Fr [32] S S3 := by subst e3 e2 e1; exact ((Fr.rf.st rfl).st rfl).st rfl
  have h0 : S3.1 32 0 = 0 := by subst e3 e2 e1; simp only [stI_1]; rfl
  have h1 : S3.1 32 1 = 0 := by subst e3 e2 e1; simp only [stI_1]; rfl
  rw [h2, nI_ix (by decide), orow_r]
  refine ⟨vp_in_nI (by decide) (by decide), (ring_in 0 (by decide)).2, _, sp_take (ring_in 0 (by decide)).1 now_in (by omega), fun r4 S5 q => ?_⟩
  obtain ⟨q1, q2, q3⟩ := q
  have h32 : S5.1 32 = S3.1 32 := q2 32 (by omega)
  refine ⟨q1.cgr (fun j hj => hF.at _ (by simp; omega)), ⟨fun k hk hk2 => ?_, ?_⟩, ?_, ?_, ?_⟩
  · rw [q2 k (by omega), hF.1 k hk]
  · rw [q3, hF.2]
  · rw [h32, h2]; rfl
  · rw [h32, h0]
  · rw [h32, h1]
theorem sp_goBack (ha : S.1 32 2 = nI a) (hal : a < 41) (hu : S.1 32 0 = nI u) (hul : u ≤ 40) (hr : S.1 32 1 = nI r) (hrl : r ≤ 40) : Ex G mX3_goBack 3 [.ref 32, .ref 24] S (fun q S1 => if u = 0 then q = 0 ∧ S1 = S else q = 1 ∧ stEq S1 24 S (34 + 8 * ((a + 40) % 41)) ∧ FrS [32] 24 S S1 ∧ S1.1 32 2 = nI ((a + 40) % 41) ∧ S1.1 32 0 = nI (u - 1) ∧ S1.1 32 1 = nI (r + 1)) := by
  have hm : (a + 40) % 41 < 41 := Nat.mod_lt _ (by decide)
  have e1 : orem (S.1 32 2 + 41 - 1) 41 = nI ((a + 40) % 41) := by
    have : S.1 32 2 + 41 - 1 = nI (a + 40) := by
      rw [ha, show (41 : Int32) = nI 41 from rfl, nI_add, show a + 41 = (a + 40) + 1 by omega, nI_pred]
    rw [this]
    exact orem_nI (d := 41) (by omega) (by decide) (by decide)
  obtain ⟨b, hb⟩ : ∃ b, b = (a + 40) % 41 := ⟨_, rfl⟩
  rw [← hb] at hm e1 ⊢
  refine eX3_goBack (vX3_goBack_0 ⟨fun c S2 e2 S3 e3 S4 e4 => ?_, fun c => ?_⟩)
  · have hu0 : u ≠ 0 := fun z => c (by rw [hu, z]; rfl)
    rw [e1] at e2
    have hF : Fr [32] S S4 := by subst e4 e3 e2; exact ((Fr.rf.st rfl).st rfl).st rfl
    have h2 : S4.1 32 2 = nI b := by subst e4 e3 e2; simp only [stI_1]; rfl
    have h0 : S4.1 32 0 = nI (u - 1) := by
      subst e4 e3 e2
      simp only [stI_1]
      simp only [if_true, if_false, hu, (by decide : ¬ (0 : Nat) = 1), (by decide : ¬ (0 : Nat) = 2)]
      obtain ⟨w, rfl⟩ : ∃ w, u = w + 1 := ⟨u - 1, by omega⟩
      exact nI_pred w
    have h1 : S4.1 32 1 = nI (r + 1) := by
      subst e4 e3 e2
      simp only [stI_1]
      simp only [if_true, if_false, hr, (by decide : ¬ (1 : Nat) = 0), (by decide : ¬ (1 : Nat) = 2), nI_1]
    rw [h2, nI_ix (by omega), orow_r]
    refine ⟨vp_in_nI hm (by decide), _, sp_take now_in (ring_in b hm).1 (by omega), fun r4 S6 q => ?_⟩
    obtain ⟨q1, q2, q3⟩ := q
    have h32 : S6.1 32 = S4.1 32 := q2 32 (by omega)
    rw [if_neg hu0]
    refine ⟨rfl, q1.cgr (fun j hj => hF.at _ (by simp; omega)), ⟨fun k hk hk2 => ?_, ?_⟩, ?_, ?_, ?_⟩
    · rw [q2 k hk2, hF.1 k hk]
    · rw [q3, hF.2]
    · rw [h32, h2]
    · rw [h32, h0]
    · rw [h32, h1]
  · have hu0 : u = 0 := (nI_eq_i (b := 0) (by omega) (by decide)).mp (by rw [← hu]; exact c)
    rw [if_pos hu0]
    exact ⟨rfl, rfl⟩
theorem sp_goOnH (ha : S.1 32 2 = nI a) (hal : a < 41) (hu : S.1 32 0 = nI u) (hul : u ≤ 40) (hr : S.1 32 1 = nI r) (hrl : r ≤ 40) : Ex G mX3_goOn 3 [.ref 32, .ref 24] S (fun q S1 => if r = 0 then q = 0 ∧ S1 = S else q = 1 ∧ stEq S1 24 S (34 + 8 * ((a + 1) % 41)) ∧ FrS [32] 24 S S1 ∧ S1.1 32 2 = nI ((a + 1) % 41) ∧ S1.1 32 0 = nI (u + 1) ∧ S1.1 32 1 = nI (r - 1)) := by
  have hm : (a + 1) % 41 < 41 := Nat.mod_lt _ (by decide)
  have e1 : orem (S.1 32 2 + 1) 41 = nI ((a + 1) % 41) := by
    rw [ha, nI_1]
    exact orem_nI (d := 41) (by omega) (by decide) (by decide)
  obtain ⟨b, hb⟩ : ∃ b, b = (a + 1) % 41 := ⟨_, rfl⟩
  rw [← hb] at hm e1 ⊢
  refine eX3_goOn (vX3_goOn_0 ⟨fun c S2 e2 S3 e3 S4 e4 => ?_, fun c => ?_⟩)
  · have hr0 : r ≠ 0 := fun z => c (by rw [hr, z]; rfl)
    rw [e1] at e2
    have hF : Fr [32] S S4 := by subst e4 e3 e2; exact ((Fr.rf.st rfl).st rfl).st rfl
    have h2 : S4.1 32 2 = nI b := by subst e4 e3 e2; simp only [stI_1]; rfl
    have h0 : S4.1 32 0 = nI (u + 1) := by
      subst e4 e3 e2
      simp only [stI_1]
      simp only [if_true, if_false, hu, (by decide : ¬ (0 : Nat) = 1), (by decide : ¬ (0 : Nat) = 2), nI_1]
    have h1 : S4.1 32 1 = nI (r - 1) := by
      subst e4 e3 e2
      simp only [stI_1]
      simp only [if_true, if_false, hr, (by decide : ¬ (1 : Nat) = 0), (by decide : ¬ (1 : Nat) = 2)]
      obtain ⟨w, rfl⟩ : ∃ w, r = w + 1 := ⟨r - 1, by omega⟩
      exact nI_pred w
    rw [h2, nI_ix (by omega), orow_r]
    refine ⟨vp_in_nI hm (by decide), _, sp_take now_in (ring_in b hm).1 (by omega), fun r4 S6 q => ?_⟩
    obtain ⟨q1, q2, q3⟩ := q
    have h32 : S6.1 32 = S4.1 32 := q2 32 (by omega)
    rw [if_neg hr0]
    refine ⟨rfl, q1.cgr (fun j hj => hF.at _ (by simp; omega)), ⟨fun k hk hk2 => ?_, ?_⟩, ?_, ?_, ?_⟩
    · rw [q2 k hk2, hF.1 k hk]
    · rw [q3, hF.2]
    · rw [h32, h2]
    · rw [h32, h0]
    · rw [h32, h1]
  · have hr0 : r = 0 := (nI_eq_i (b := 0) (by omega) (by decide)).mp (by rw [← hr]; exact c)
    rw [if_pos hr0]
    exact ⟨rfl, rfl⟩
end
