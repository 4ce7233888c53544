/-! ===== LOAVES that are alike ===== -/
section
variable {G : ovG} {S S0 : ovS} {n : Nat}
theorem sp_lookAtLoaves (hX : CX S n) (hV : VN n (S.1 26)) : Ex G mX8_lookAtLoaves 4 [.ref 369] S (fun _ S1 => Fr [23, 364, 365, 366, 367, 368, 371] S S1 ∧ ∀ i, i < n → S1.1 371 i = gLo S i (gSd (S.1 26))) := by
  have hn5 := hX.2.1
  have key : ∀ k i : Nat, ∀ S' : ovS, i + k = n → Fr [23, 364, 365, 366, 367, 368, 371] S S' → BC S' → (∀ j, j < i → S'.1 371 j = gLo S j (gSd (S.1 26))) → RM G mX8_lookAtLoaves 4 (fun _ S1 => Fr [23, 364, 365, 366, 367, 368, 371] S S1 ∧ ∀ i, i < n → S1.1 371 i = gLo S i (gSd (S.1 26))) 20 [some (.ref 369), some (.int (nI (gSd (S.1 26)))), some (.int (nI i))] [] S' := by
    intro k
    induction k with
    | zero =>
      intro i S' hi hF hC hj
      have : i = n := by omega
      subst this
      exact vX8_lookAtLoaves_20 ⟨fun _ => ⟨hF, hj⟩, fun c => absurd (by rw [hF.at 16 rfl, hX.1]; exact Int32.le_refl _) c⟩
    | succ k ih =>
      intro i S' hi hF hC hj
      refine vX8_lookAtLoaves_20 ⟨fun c => absurd c (nI_next (by rw [hF.at 16 rfl]; exact hX.1) (by omega) (by omega)), fun _ => ⟨_, sp_loafBy (FOk_sm (hF.L rfl) hX.2.2) hC (Nat.lt_succ_of_le (gSd_le _)) (by omega), fun r S3 q => ⟨vp_in_nI (by omega) (by decide), fun S7 e7 => ?_⟩⟩⟩
      subst e7
      rw [nI_ix (by omega)]
      have h := ih (i + 1) (stI S3 371 i r) (by omega) ((hF.tr (q.2.1.mono rfl)).st rfl) (q.2.2.sm (stI_row (by decide)) ((Fr.rf (L := [371])).st rfl |>.L rfl)) (fun j hj2 => ?_)
      · rw [nI_succ i] at h
        exact h
      · rw [stI_self]
        by_cases e : j = i
        · subst e
          simp only [upd, if_true, q.1, gLo_sm (hF.L rfl)]
        · simp only [upd, if_neg e, q.2.1.at 371 rfl]
          exact hj j (by omega)
  refine eX8_lookAtLoaves (vX8_lookAtLoaves_0 ⟨_, sp_lookAtNow hX hV, fun r3 S2 q2 => ⟨_, sp_bitCount, fun r8 S7 q7 => ?_⟩⟩)
  obtain ⟨a1, a2⟩ := q7
  subst a2
  have hb : r8 = nI (gSd (S.1 26)) := by
    rw [a1, q2.2.1.2.2, bc5 _ (mk_lt _ 5)]
    congr 1
    apply fb_ct_cong
    intro k hk
    rw [mk_bit]
    simp [hk]
  rw [hb]
  exact key n 0 S7 (by omega) (q2.1.mono rfl) q2.2.2.2 (fun j h => absurd h (by omega))
/-- pairs alike, the first of them below i -/
def alF (f : Nat → Int32) (n : Nat) : Nat → Nat
  | 0 => 0
  | a + 1 => alF f n a + fb_ct (fun b => decide (a < b) && decide (f a = f b)) n
theorem sp_alike (hX : CX S n) (hV : VN n (S.1 26)) : Ex G mX8_countAlike 5 [.ref 369] S (fun r S1 => r = nI (alF (fun i => gLo S i (gSd (S.1 26))) n n) ∧ Fr [23, 364, 365, 366, 367, 368, 371] S S1) := by
  have hn5 := hX.2.1
  refine eX8_countAlike (vX8_countAlike_0 ⟨_, sp_lookAtLoaves hX hV, fun r3 S2 q2 => ?_⟩)
  obtain ⟨f, hf⟩ : ∃ f : Nat → Int32, f = (fun i => gLo S i (gSd (S.1 26))) := ⟨_, rfl⟩
  have h71 : ∀ i, i < n → S2.1 371 i = f i := fun i hi => by rw [hf]; exact q2.2 i hi
  rw [← hf]
  have h16 : S2.1 16 0 = nI n := by rw [q2.1.at 16 rfl]; exact hX.1
  have inner : ∀ a, a < n → RM G mX8_countAlike 5 (fun r S1 => r = nI (alF f n n) ∧ Fr [23, 364, 365, 366, 367, 368, 371] S S1) 8 [some (.ref 369), some (.int (nI (alF f n (a + 1)))), some (.int (nI (a + 1))), none] [] S2 → ∀ k b, b + k = n → a < b → RM G mX8_countAlike 5 (fun r S1 => r = nI (alF f n n) ∧ Fr [23, 364, 365, 366, 367, 368, 371] S S1) 23 [some (.ref 369), some (.int (nI (alF f n a + fb_ct (fun b => decide (a < b) && decide (f a = f b)) b))), some (.int (nI a)), some (.int (nI b))] [] S2 := by
    intro a ha hout k
    induction k with
    | zero =>
      intro b hb hab
      have : b = n := by omega
      subst this
      refine vX8_countAlike_23 ⟨fun _ => ?_, fun c => absurd (by rw [h16]; exact Int32.le_refl _) c⟩
      rw [nI_succ a] at hout
      exact hout
    | succ k ih =>
      intro b hb hab
      have h := ih (b + 1) (by omega) (by omega)
      rw [nI_succ b] at h
      refine vX8_countAlike_23 ⟨fun c => absurd c (nI_next h16 (by omega) (by omega)), fun _ => ⟨vp_in_nI (by omega) (by decide), vp_in_nI (by omega) (by decide), ?_⟩⟩
      rw [nI_ix (by omega), nI_ix (by omega), h71 a ha, h71 b (by omega)]
      refine ⟨fun c => ?_, fun c => ?_⟩
      · rw [ct_f (i := b) (by simp [c])] at h
        exact h
      · rw [fb_ct_succ, if_pos (by simp [c, hab]), ← Nat.add_assoc, nI_succ] at h
        exact h
  refine loopUp (n := n) (P := fun a => RM G mX8_countAlike 5 (fun r S1 => r = nI (alF f n n) ∧ Fr [23, 364, 365, 366, 367, 368, 371] S S1) 8 [some (.ref 369), some (.int (nI (alF f n a))), some (.int (nI a)), none] [] S2) ?_ ?_ 0 (by omega)
  · exact vX8_countAlike_8 ⟨fun _ => ⟨rfl, q2.1⟩, fun c => absurd (by rw [h16]; exact Int32.le_refl _) c⟩
  · intro a ha ih
    refine vX8_countAlike_8 ⟨fun c => absurd c (nI_next h16 (by omega) (by omega)), fun _ => ?_⟩
    have h := inner a ha ih (n - (a + 1)) (a + 1) (by omega) (by omega)
    have e : fb_ct (fun b => decide (a < b) && decide (f a = f b)) (a + 1) = 0 := by
      rw [fb_ct_zero]
      intro k hk
      have : ¬ a < k := by omega
      simp [this]
    rw [e, Nat.add_zero, nI_succ a] at h
    exact h
end
