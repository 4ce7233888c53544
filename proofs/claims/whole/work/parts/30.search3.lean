/-! ===== the Search through all SAYINGS ===== -/
def fvF {α : Type} (f : α → Nat → α) (a : α) : Nat → α
  | 0 => a
  | v + 1 => f (fvF f a v) v
theorem ways_lt {n : Nat} (h : n ≤ 5) : (n + 1) ^ n < 10000 := by
  have : n = 0 ∨ n = 1 ∨ n = 2 ∨ n = 3 ∨ n = 4 ∨ n = 5 := by omega
  rcases this with rfl | rfl | rfl | rfl | rfl | rfl <;> decide
/-- what lies there: as before, or the SAYINGS of a number -/
def LyO (S0 S : ovS) (n : Nat) (o : Option Nat) : Prop := (∀ j, j ≠ 4 → S.1 369 j = S0.1 369 j) ∧ (match o with
  | none => S.1 369 4 = S0.1 369 4 ∧ ∀ i, i < 5 → S.1 370 i = S0.1 370 i
  | some v => S.1 369 4 = nI n ∧ ∀ i, i < 5 → S.1 370 i = nmv n v i)
theorem LyO.fr {S0 S S1 : ovS} {n : Nat} {o : Option Nat} (h : LyO S0 S n o) (hF : Fr L6 S S1) : LyO S0 S1 n o := by
  cases o <;> simp only [LyO, hF.at 369 rfl, hF.at 370 rfl] <;> exact h
theorem LyO.rf {S0 : ovS} {n : Nat} : LyO S0 S0 n none := ⟨fun _ _ => rfl, rfl, fun _ _ => rfl⟩
def stFe (S : ovS) (n : Nat) (x : Int32) (a : Int32 × Option Nat) (v : Nat) : Int32 × Option Nat := if (a.1 = -1 ∨ ¬ a.1 ≤ nI (fb_ct (shF (nmv n v)) n)) ∧ anyN n (unF S (nmv n v) x) = false then (nI (fb_ct (shF (nmv n v)) n), some v) else a
def stRi (S : ovS) (n : Nat) (a : Int32 × Option Nat) (v : Nat) : Int32 × Option Nat := if smI (gG S (nmv n v)) n ≤ a.1 then a else (smI (gG S (nmv n v)) n, some v)
def stSt (S : ovS) (n : Nat) (a : Int32 × Option Nat) (v : Nat) : Int32 × Option Nat := if anyN n (lvF S n (nmv n v)) then a else (a.1 + 1, if a.1 = 0 then some v else a.2)
theorem bI_0 {b : Bool} : bI b = 0 ↔ b = false := by cases b <;> decide
section
variable {G : ovG} {S S0 : ovS} {n : Nat}
theorem sp_richest (hX : CX S n) (hV : VN n (S.1 26)) : Ex G mX8_mostTogether 7 [.ref 369] S (fun r S1 => r = (fvF (stRi S n) (-1, none) ((n + 1) ^ n)).1 ∧ LyO S S1 n (fvF (stRi S n) (-1, none) ((n + 1) ^ n)).2 ∧ Fr L8 S S1) := by
  have hN := ways_lt hX.2.1
  have key : ∀ k v : Nat, ∀ (S' : ovS) (nm : Nat → Int32), v + k = (n + 1) ^ n → BX S S' nm → VN n nm → (v < (n + 1) ^ n → nm = nmv n v) → LyO S S' n (fvF (stRi S n) (-1, none) v).2 → RM G mX8_mostTogether 7 (fun r S1 => r = (fvF (stRi S n) (-1, none) ((n + 1) ^ n)).1 ∧ LyO S S1 n (fvF (stRi S n) (-1, none) ((n + 1) ^ n)).2 ∧ Fr L8 S S1) 24 [some (.ref 369), some (.int (fvF (stRi S n) (-1, none) v).1), some (.int (nI k)), none] [] S' := by
    intro k
    induction k with
    | zero =>
      intro v S' nm hk hB hv he hL
      have : v = (n + 1) ^ n := by omega
      subst this
      exact vX8_mostTogether_24 ⟨fun _ => ⟨rfl, hL, hB.fr⟩, fun c => absurd (by decide) c⟩
    | succ k ih =>
      intro v S' nm hk hB hv he hL
      have he' := he (by omega)
      subst he'
      have e1 : nI (k + 1) + (-1) = nI k := pk_m1 k
      refine vX8_mostTogether_24 ⟨fun c => absurd c (nI_nle (by omega) (by omega)), fun _ => ⟨_, hB.gainOfAll hX hv, fun r S3 q => ?_⟩⟩
      obtain ⟨q1, q2, q3⟩ := q
      rw [e1, q1]
      refine ⟨fun c => ?_, fun c => ⟨_, q2.lay hX, fun r15 S14 q15 => ?_⟩⟩
      · have hs : fvF (stRi S n) (-1, none) (v + 1) = fvF (stRi S n) (-1, none) v := by rw [fvF, stRi, if_pos c]
        refine ⟨_, q2.goOn hX (nmv_VN n v), fun r9 S9 q9 => ?_⟩
        have h := ih (v + 1) S9 _ (by omega) q9.1 q9.2.1 (fun h => nx_nmv hX.2.1 h) (by rw [hs]; exact (hL.fr q3).fr q9.2.2)
        rw [hs] at h
        exact h
      · have hs : fvF (stRi S n) (-1, none) (v + 1) = (smI (gG S (nmv n v)) n, some v) := by rw [fvF, stRi, if_neg c]
        refine ⟨_, q15.1.goOn hX (nmv_VN n v), fun r9 S9 q9 => ?_⟩
        have hL2 : LyO S S14 n (some v) := ⟨fun j hj => (q15.2.2.1 j hj).trans ((hL.fr q3).1 j hj), q15.2.1, q15.2.2.2⟩
        have h := ih (v + 1) S9 _ (by omega) q9.1 q9.2.1 (fun h => nx_nmv hX.2.1 h) (by rw [hs]; exact hL2.fr q9.2.2)
        rw [hs] at h
        exact h
  refine eX8_mostTogether (vX8_mostTogether_0 ⟨_, BX.look hX hV, fun r S2 q => ⟨_, q.1.hush (n := n), fun r8 S7 q7 => ⟨_, q7.1.countWays hX, fun r13 S12 q12 => ?_⟩⟩⟩)
  obtain ⟨a1, a2⟩ := q12
  subst a2
  rw [a1]
  exact key _ 0 S12 (nmv n 0) (by omega) q7.1 (nmv_VN n 0) (fun _ => rfl) ((LyO.rf.fr q.2).fr q7.2)
theorem CX.st {v : Int32} (hX : CX S n) : CX (stI S 369 4 v) n := ⟨by rw [stI_row (by decide)]; exact hX.1, hX.2.1, FOk_sm ((Fr.rf (L := [369])).st rfl |>.L rfl) hX.2.2⟩
theorem gG_st {v : Int32} : gG (stI S 369 4 v) = gG S := gG_sm ((Fr.rf (L := [369])).st rfl |>.L rfl) (stI_row (by decide))
theorem sp_feeds {x : Int32} (hX : CX S n) (hV : VN n (S.1 26)) : Ex G mX8_leastShame 7 [.ref 369, .int x] S (fun r S1 => if x < 0 ∨ ¬ x < nI (2 ^ n) then r = -1 ∧ S1 = stI S 369 4 0 else r = (fvF (stFe S n x) (-1, none) ((n + 1) ^ n)).1 ∧ LyO (stI S 369 4 0) S1 n (fvF (stFe S n x) (-1, none) ((n + 1) ^ n)).2 ∧ Fr L8 S S1) := by
  have hN := ways_lt hX.2.1
  have hn5 := hX.2.1
  obtain ⟨T, hT⟩ : ∃ T, T = stI S 369 4 0 := ⟨_, rfl⟩
  have hXT : CX T n := by rw [hT]; exact hX.st
  have hVT : VN n (T.1 26) := by rw [hT, stI_row (by decide)]; exact hV
  have hun : unF T = unF S := by
    funext nm y s
    simp only [unF, hT, gG_st, stI_row (show (17 : Nat) ≠ 369 by decide)]
  have hFT : Fr L8 S T := by rw [hT]; exact Fr.rf.st rfl
  rw [← hT]
  obtain ⟨Q, hQ⟩ : ∃ Q : Int32 → ovS → Prop, Q = (fun r S1 => if x < 0 ∨ ¬ x < nI (2 ^ n) then r = -1 ∧ S1 = T else r = (fvF (stFe S n x) (-1, none) ((n + 1) ^ n)).1 ∧ LyO T S1 n (fvF (stFe S n x) (-1, none) ((n + 1) ^ n)).2 ∧ Fr L8 S S1) := ⟨_, rfl⟩
  rw [← hQ]
  have key : ∀ k v : Nat, ∀ (S' : ovS) (nm : Nat → Int32), v + k = (n + 1) ^ n → ¬ (x < 0 ∨ ¬ x < nI (2 ^ n)) → BX T S' nm → VN n nm → (v < (n + 1) ^ n → nm = nmv n v) → LyO T S' n (fvF (stFe S n x) (-1, none) v).2 → RM G mX8_leastShame 7 Q 47 [some (.ref 369), some (.int x), some (.int (fvF (stFe S n x) (-1, none) v).1), some (.int (nI k)), none] [] S' := by
    intro k
    induction k with
    | zero =>
      intro v S' nm hk hx hB hv he hL
      have : v = (n + 1) ^ n := by omega
      subst this
      refine vX8_leastShame_47 ⟨fun _ => ?_, fun c => absurd (by decide) c⟩
      rw [hQ]
      simp only [if_neg hx]
      exact ⟨trivial, hL, hFT.tr hB.fr⟩
    | succ k ih =>
      intro v S' nm hk hx hB hv he hL
      have he' := he (by omega)
      subst he'
      have e1 : nI (k + 1) + (-1) = nI k := pk_m1 k
      have cont : ∀ (S3 : ovS) (a : Int32 × Option Nat), fvF (stFe S n x) (-1, none) (v + 1) = a → BX T S3 (nmv n v) → LyO T S3 n a.2 → ∃ Qc : Int32 → ovS → Prop, Ex G mX0_goOn 2 [.ref 364] S3 Qc ∧ ∀ (r : Int32) (S1 : ovS), Qc r S1 → RM G mX8_leastShame 7 Q 47 [some (.ref 369), some (.int x), some (.int a.1), some (.int (nI k)), none] [] S1 := by
        intro S3 a ha hB3 hL3
        refine ⟨_, hB3.goOn hXT (nmv_VN n v), fun r9 S9 q9 => ?_⟩
        have h := ih (v + 1) S9 _ (by omega) hx q9.1 q9.2.1 (fun h => nx_nmv hn5 h) (by rw [ha]; exact hL3.fr q9.2.2)
        rw [ha] at h
        exact h
      have fed : ∀ S3 : ovS, BX T S3 (nmv n v) → LyO T S3 n (fvF (stFe S n x) (-1, none) v).2 → ((fvF (stFe S n x) (-1, none) v).1 = -1 ∨ ¬ (fvF (stFe S n x) (-1, none) v).1 ≤ nI (fb_ct (shF (nmv n v)) n)) → ∃ Q8 : Int32 → ovS → Prop, Ex G mX0_areFed 6 [.ref 364, .int x] S3 Q8 ∧ ∀ (r10 : Int32) (S9 : ovS), Q8 r10 S9 → ((r10 = 0 → ∃ Qc : Int32 → ovS → Prop, Ex G mX0_goOn 2 [.ref 364] S9 Qc ∧ ∀ (r : Int32) (S1 : ovS), Qc r S1 → RM G mX8_leastShame 7 Q 47 [some (.ref 369), some (.int x), some (.int (fvF (stFe S n x) (-1, none) v).1), some (.int (nI k)), none] [] S1) ∧ (¬ r10 = 0 → ∃ Q19 : Int32 → ovS → Prop, Ex G mX8_lay 2 [.ref 369, .ref 365] S9 Q19 ∧ ∀ (r21 : Int32) (S20 : ovS), Q19 r21 S20 → ∃ Qc : Int32 → ovS → Prop, Ex G mX0_goOn 2 [.ref 364] S20 Qc ∧ ∀ (r : Int32) (S1 : ovS), Qc r S1 → RM G mX8_leastShame 7 Q 47 [some (.ref 369), some (.int x), some (.int (nI (fb_ct (shF (nmv n v)) n))), some (.int (nI k)), none] [] S1)) := by
        intro S3 hB3 hL3 hc
        refine ⟨_, hB3.areFed hXT (nmv_VN n v), fun r10 S9 q => ?_⟩
        obtain ⟨q1, q2, q3⟩ := q
        rw [q1, bI_0, hun]
        refine ⟨fun c => cont S9 _ ?_ q2 (hL3.fr q3), fun c => ⟨_, q2.lay hXT, fun r21 S20 q20 => cont S20 (nI (fb_ct (shF (nmv n v)) n), some v) ?_ q20.1 ⟨fun j hj => (q20.2.2.1 j hj).trans ((hL3.fr q3).1 j hj), q20.2.1, q20.2.2.2⟩⟩⟩
        · rw [fvF, stFe, if_neg]
          rintro ⟨-, h⟩
          rw [h] at c
          cases c
        · rw [fvF, stFe, if_pos]
          refine ⟨hc, ?_⟩
          cases hh : anyN n (unF S (nmv n v) x) with
          | false => rfl
          | true => rw [hh] at c; exact absurd rfl c
      refine vX8_leastShame_47 ⟨fun c => absurd c (nI_nle (by omega) (by omega)), fun _ => ⟨_, hB.shame hXT, fun r S3 q => ?_⟩⟩
      obtain ⟨q1, q2⟩ := q
      subst q2
      rw [e1, q1]
      refine ⟨fun c => fed S3 hB hL (Or.inl c), fun c => ⟨fun c2 => cont S3 _ ?_ hB hL, fun c2 => fed S3 hB hL (Or.inr c2)⟩⟩
      rw [fvF, stFe, if_neg]
      rintro ⟨h, -⟩
      rcases h with h | h
      · exact c h
      · exact h c2
  refine eX8_leastShame (vX8_leastShame_0 ⟨_, sp_clearLying, fun r S2 e2 => ?_⟩)
  rw [← hT] at e2
  subst e2
  have hsh : (1 : Int32) <<< (S2.1 16 0 &&& 31) = nI (2 ^ n) := by rw [hXT.1, sh1 n (by omega)]
  rw [hsh]
  refine ⟨fun c => ?_, fun c => ⟨fun c2 => ⟨_, BX.look hXT hVT, fun r10 S9 q9 => ⟨_, q9.1.hush (n := n), fun r15 S14 q14 => ⟨_, q14.1.countWays hXT, fun r20 S19 q19 => ?_⟩⟩⟩, fun c2 => ?_⟩⟩
  · rw [hQ]
    simp only [if_pos (Or.inl c : x < 0 ∨ ¬ x < nI (2 ^ n))]
    exact ⟨trivial, trivial⟩
  · obtain ⟨a1, a2⟩ := q19
    subst a2
    rw [a1]
    refine key _ 0 S19 (nmv n 0) (by omega) ?_ q14.1 (nmv_VN n 0) (fun _ => rfl) ((LyO.rf.fr q9.2).fr q14.2)
    rintro (h | h)
    · exact c h
    · exact h c2
  · rw [hQ]
    simp only [if_pos (Or.inr c2 : x < 0 ∨ ¬ x < nI (2 ^ n))]
    exact ⟨trivial, trivial⟩
theorem lvF_st {v : Int32} : lvF (stI S 369 4 v) = lvF S := by
  have e : bsN (stI S 369 4 v) = bsN S := by
    funext m nm s
    simp only [bsN, gG_st]
  funext m nm s
  simp only [lvF, e]
theorem sp_steady (hX : CX S n) (hV : VN n (S.1 26)) : Ex G mX8_countSteady 7 [.ref 369] S (fun r S1 => r = (fvF (stSt S n) (0, none) ((n + 1) ^ n)).1 ∧ LyO (stI S 369 4 0) S1 n (fvF (stSt S n) (0, none) ((n + 1) ^ n)).2 ∧ Fr L8 S S1) := by
  have hN := ways_lt hX.2.1
  have hn5 := hX.2.1
  obtain ⟨T, hT⟩ : ∃ T, T = stI S 369 4 0 := ⟨_, rfl⟩
  have hXT : CX T n := by rw [hT]; exact hX.st
  have hVT : VN n (T.1 26) := by rw [hT, stI_row (by decide)]; exact hV
  have hlv : lvF T = lvF S := by rw [hT]; exact lvF_st
  have hFT : Fr L8 S T := by rw [hT]; exact Fr.rf.st rfl
  rw [← hT]
  have key : ∀ k v : Nat, ∀ (S' : ovS) (nm : Nat → Int32), v + k = (n + 1) ^ n → BX T S' nm → VN n nm → (v < (n + 1) ^ n → nm = nmv n v) → LyO T S' n (fvF (stSt S n) (0, none) v).2 → RM G mX8_countSteady 7 (fun r S1 => r = (fvF (stSt S n) (0, none) ((n + 1) ^ n)).1 ∧ LyO T S1 n (fvF (stSt S n) (0, none) ((n + 1) ^ n)).2 ∧ Fr L8 S S1) 28 [some (.ref 369), some (.int (fvF (stSt S n) (0, none) v).1), some (.int (nI k))] [] S' := by
    intro k
    induction k with
    | zero =>
      intro v S' nm hk hB hv he hL
      have : v = (n + 1) ^ n := by omega
      subst this
      exact vX8_countSteady_28 ⟨fun _ => ⟨rfl, hL, hFT.tr hB.fr⟩, fun c => absurd (by decide) c⟩
    | succ k ih =>
      intro v S' nm hk hB hv he hL
      have he' := he (by omega)
      subst he'
      have e1 : nI (k + 1) + (-1) = nI k := pk_m1 k
      have cont : ∀ (S3 : ovS) (a : Int32 × Option Nat), fvF (stSt S n) (0, none) (v + 1) = a → BX T S3 (nmv n v) → LyO T S3 n a.2 → ∃ Qc : Int32 → ovS → Prop, Ex G mX0_goOn 2 [.ref 364] S3 Qc ∧ ∀ (r : Int32) (S1 : ovS), Qc r S1 → RM G mX8_countSteady 7 (fun r S1 => r = (fvF (stSt S n) (0, none) ((n + 1) ^ n)).1 ∧ LyO T S1 n (fvF (stSt S n) (0, none) ((n + 1) ^ n)).2 ∧ Fr L8 S S1) 28 [some (.ref 369), some (.int a.1), some (.int (nI k))] [] S1 := by
        intro S3 a ha hB3 hL3
        refine ⟨_, hB3.goOn hXT (nmv_VN n v), fun r9 S9 q9 => ?_⟩
        have h := ih (v + 1) S9 _ (by omega) q9.1 q9.2.1 (fun h => nx_nmv hn5 h) (by rw [ha]; exact hL3.fr q9.2.2)
        rw [ha] at h
        exact h
      refine vX8_countSteady_28 ⟨fun c => absurd c (nI_nle (by omega) (by omega)), fun _ => ⟨_, sp_noneWouldLeave hXT (nmv_VN n v) hB, fun r S3 q => ?_⟩⟩
      obtain ⟨q1, q2, q3⟩ := q
      rw [e1, q1, bI_0, hlv]
      have step : fvF (stSt S n) (0, none) (v + 1) = stSt S n (fvF (stSt S n) (0, none) v) v := rfl
      refine ⟨fun c => cont S3 _ ?_ q2 (hL.fr q3), fun c => ?_⟩
      · rw [step, stSt, if_pos (by cases hh : anyN n (lvF S n (nmv n v)) with | true => rfl | false => rw [hh] at c; cases c)]
      · have hf : ¬ anyN n (lvF S n (nmv n v)) = true := fun h => c (by rw [h]; rfl)
        refine ⟨fun c2 => cont S3 ((fvF (stSt S n) (0, none) v).1 + 1, (fvF (stSt S n) (0, none) v).2) ?_ q2 (hL.fr q3), fun c2 => ⟨_, q2.lay hXT, fun r21 S20 q20 => cont S20 ((fvF (stSt S n) (0, none) v).1 + 1, some v) ?_ q20.1 ⟨fun j hj => (q20.2.2.1 j hj).trans ((hL.fr q3).1 j hj), q20.2.1, q20.2.2.2⟩⟩⟩
        · rw [step, stSt, if_neg hf, if_neg c2]
        · rw [step, stSt, if_neg hf, if_pos c2]
  refine eX8_countSteady (vX8_countSteady_0 ⟨_, sp_clearLying, fun r S2 e2 => ?_⟩)
  rw [← hT] at e2
  subst e2
  refine ⟨_, BX.look hXT hVT, fun r10 S9 q9 => ⟨_, q9.1.hush (n := n), fun r15 S14 q14 => ⟨_, q14.1.countWays hXT, fun r20 S19 q19 => ?_⟩⟩⟩
  obtain ⟨a1, a2⟩ := q19
  subst a2
  rw [a1]
  exact key _ 0 S19 (nmv n 0) (by omega) q14.1 (nmv_VN n 0) (fun _ => rfl) ((LyO.rf.fr q9.2).fr q14.2)
end
