/-! ===== the reference's token ===== -/
def TXm (b : Nat → Nat) (t : Nat) (S : ovS) : Prop := t ≤ 1600 ∧ S.1 412 5 = nI t ∧ ∀ i, i < t → b i < 256 ∧ S.1 413 i = nI (b i)
def FK (S S1 : ovS) : Prop := (∀ k, k ≠ 412 → S1.1 k = S.1 k ∧ S1.2 k = S.2 k) ∧ ∀ j, j ≠ 4 → j ≠ 6 → j ≠ 7 → j ≠ 8 → S1.1 412 j = S.1 412 j
theorem FK.rf {S : ovS} : FK S S := ⟨fun _ _ => ⟨rfl, rfl⟩, fun _ _ _ _ _ => rfl⟩
theorem FK.tr {S S1 S2 : ovS} (h : FK S S1) (h2 : FK S1 S2) : FK S S2 := ⟨fun k hk => ⟨(h2.1 k hk).1.trans (h.1 k hk).1, (h2.1 k hk).2.trans (h.1 k hk).2⟩, fun j a c d e => (h2.2 j a c d e).trans (h.2 j a c d e)⟩
theorem FK.st {S S1 : ovS} {j : Nat} {v : Int32} (h : FK S S1) (hj : j = 4 ∨ j = 6 ∨ j = 7 ∨ j = 8) : FK S (stI S1 412 j v) := by
  refine ⟨fun k hk => ?_, fun i a c d e => ?_⟩
  · rw [stI_row hk, stI_2]
    exact h.1 k hk
  · rw [stI_1, if_pos rfl, if_neg (by omega)]
    exact h.2 i a c d e
theorem FK.sj {S S1 : ovS} {j : Nat} {v : Int64} (h : FK S S1) : FK S (stJ S1 412 j v) := by
  refine ⟨fun k hk => ?_, fun i a c d e => ?_⟩
  · rw [stJ_1, stJ_row hk]
    exact h.1 k hk
  · rw [stJ_1]
    exact h.2 i a c d e
def soK (k : Nat) : Nat := if k = 1 then 3 else if k = 3 ∨ 256 ≤ k then 1 else k
def TM (b : Nat → Nat) (t q : Nat) (S : ovS) : Prop := S.1 412 6 = nI (soK (tK b t q)) ∧ S.1 412 7 = nI (tP b t q) ∧ (¬ tK b t q = 1 → S.1 412 4 = nI (tE b t q)) ∧ (tK b t q = 2 → S.1 412 8 = nI (tN b t q)) ∧ (tK b t q = 3 ∨ 256 ≤ tK b t q → S.2 412 9 = lN (tW b t q))
def hv (b : Nat → Nat) (t i : Nat) : Int32 := if i < t then nI (b i) else -1
theorem c_L : ∀ c, c < 256 → (bI (isLb c) = 1 ↔ ¬ nI c < 97 ∧ ¬ 122 < nI c) := by decide +kernel
theorem c_D : ∀ c, c < 256 → (bI (isDb c) = 1 ↔ ¬ nI c < 48 ∧ ¬ 57 < nI c) := by decide +kernel
section
variable {G : ovG} {S : ovS} {b : Nat → Nat} {t : Nat}
theorem TXm.fk {S1 : ovS} (h : TXm b t S) (hF : FK S S1) : TXm b t S1 := ⟨h.1, by rw [hF.2 5 (by decide) (by decide) (by decide) (by decide)]; exact h.2.1, fun i hi => by rw [(hF.1 413 (by decide)).1]; exact h.2.2 i hi⟩
theorem sp_here {q k : Nat} (hX : TXm b t S) (h4 : S.1 412 4 = nI q) (hq : q ≤ t) (hk : k ≤ 1600) : Ex G mX12_here 1 [.ref 412, .int (nI k)] S (fun r S1 => r = hv b t (q + k) ∧ S1 = S) := by
  have ht := hX.1
  refine eX12_here (vX12_here_0 ?_)
  rw [h4, hX.2.1, nI_add, nI_le_i (by omega) (by omega)]
  unfold hv
  refine ⟨fun z => ⟨by rw [if_neg (by omega)], rfl⟩, fun z => ⟨vp_in_nI (by omega) (by decide), ?_, rfl⟩⟩
  rw [nI_ix (by omega), (hX.2.2 _ (by omega)).2, if_pos (by omega)]
theorem sp_mLet {i : Nat} (hb : i < t → b i < 256) : Ex G mX12_isLetter 1 [.int (hv b t i)] S (fun r S1 => r = bI (decide (i < t) && isLb (b i)) ∧ S1 = S) := by
  unfold hv
  by_cases c : i < t
  · rw [if_pos c, decide_eq_true c, Bool.true_and]
    have hL := c_L (b i) (hb c)
    refine eX12_isLetter (vX12_isLetter_0 ⟨fun d => ⟨?_, rfl⟩, fun d => ⟨fun e => ⟨?_, rfl⟩, fun e => ⟨?_, rfl⟩⟩⟩)
    · cases hb : isLb (b i) with
      | false => rfl
      | true => rw [hb] at hL; exact absurd d (hL.mp rfl).1
    · cases hb : isLb (b i) with
      | false => rfl
      | true => rw [hb] at hL; exact absurd e (hL.mp rfl).2
    · exact (hL.mpr ⟨d, e⟩).symm
  · rw [if_neg c, decide_eq_false c, Bool.false_and]
    exact eX12_isLetter (vX12_isLetter_0 ⟨fun d => ⟨rfl, rfl⟩, fun d => absurd (by decide) d⟩)
theorem sp_mDig {i : Nat} (hb : i < t → b i < 256) : Ex G mX12_isDigit 1 [.int (hv b t i)] S (fun r S1 => r = bI (decide (i < t) && isDb (b i)) ∧ S1 = S) := by
  unfold hv
  by_cases c : i < t
  · rw [if_pos c, decide_eq_true c, Bool.true_and]
    have hL := c_D (b i) (hb c)
    refine eX12_isDigit (vX12_isDigit_0 ⟨fun d => ⟨?_, rfl⟩, fun d => ⟨fun e => ⟨?_, rfl⟩, fun e => ⟨?_, rfl⟩⟩⟩)
    · cases hb : isDb (b i) with
      | false => rfl
      | true => rw [hb] at hL; exact absurd d (hL.mp rfl).1
    · cases hb : isDb (b i) with
      | false => rfl
      | true => rw [hb] at hL; exact absurd e (hL.mp rfl).2
    · exact (hL.mpr ⟨d, e⟩).symm
  · rw [if_neg c, decide_eq_false c, Bool.false_and]
    exact eX12_isDigit (vX12_isDigit_0 ⟨fun d => ⟨rfl, rfl⟩, fun d => absurd (by decide) d⟩)
theorem sp_mSign {c : Nat} (hc : c < 256) : Ex G mX12_isSign 1 [.int (nI c)] S (fun r S1 => r = bI (isSb c) ∧ S1 = S) := by
  have e : ∀ k, k < 256 → (nI c = nI k ↔ c = k) := fun k hk => nI_eq_i (by omega) (by omega)
  have yes : ∀ k, [59, 40, 41, 60, 62, 61, 43, 45, 42, 47, 37].contains k = true → nI c = nI k → RM G mX12_isSign 1 (fun r S1 => r = bI (isSb c) ∧ S1 = S) 66 [none] [] S := by
    intro k hk h
    refine vX12_isSign_66 ⟨?_, rfl⟩
    have hm : k ∈ [59, 40, 41, 60, 62, 61, 43, 45, 42, 47, 37] := by simpa using hk
    have hk2 : k < 256 := by
      have : ∀ k ∈ [59, 40, 41, 60, 62, 61, 43, 45, 42, 47, 37], k < 256 := by decide
      exact this k hm
    have hs : isSb k = true := by
      have : ∀ k ∈ [59, 40, 41, 60, 62, 61, 43, 45, 42, 47, 37], isSb k = true := by decide
      exact this k hm
    rw [(e k hk2).mp h, hs]
    rfl
  refine eX12_isSign (vX12_isSign_0 ⟨fun z => yes 59 rfl z, fun z1 => ⟨fun z => yes 40 rfl z, fun z2 => ⟨fun z => yes 41 rfl z, fun z3 => ⟨fun z => yes 60 rfl z, fun z4 => ⟨fun z => yes 62 rfl z, fun z5 => ⟨fun z => yes 61 rfl z, fun z6 => ⟨fun z => yes 43 rfl z, fun z7 => ⟨fun z => yes 45 rfl z, fun z8 => ⟨fun z => yes 42 rfl z, fun z9 => ⟨fun z => yes 47 rfl z, fun z10 => ⟨fun z11 => ⟨?_, rfl⟩, fun z => yes 37 rfl z⟩⟩⟩⟩⟩⟩⟩⟩⟩⟩⟩)
  have : isSb c = false := by
    unfold isSb
    have a1 : ¬ c = 59 := fun x => z1 ((e 59 (by decide)).mpr x)
    have a2 : ¬ c = 40 := fun x => z2 ((e 40 (by decide)).mpr x)
    have a3 : ¬ c = 41 := fun x => z3 ((e 41 (by decide)).mpr x)
    have a4 : ¬ c = 60 := fun x => z4 ((e 60 (by decide)).mpr x)
    have a5 : ¬ c = 62 := fun x => z5 ((e 62 (by decide)).mpr x)
    have a6 : ¬ c = 61 := fun x => z6 ((e 61 (by decide)).mpr x)
    have a7 : ¬ c = 43 := fun x => z7 ((e 43 (by decide)).mpr x)
    have a8 : ¬ c = 45 := fun x => z8 ((e 45 (by decide)).mpr x)
    have a9 : ¬ c = 42 := fun x => z9 ((e 42 (by decide)).mpr x)
    have a10 : ¬ c = 47 := fun x => z10 ((e 47 (by decide)).mpr x)
    have a11 : ¬ c = 37 := fun x => z11 ((e 37 (by decide)).mpr x)
    simp [a1, a2, a3, a4, a5, a6, a7, a8, a9, a10, a11]
  rw [this]
  rfl
theorem hv_eq {i k : Nat} (hb : i < t → b i < 256) (hk : k < 256) : hv b t i = nI k ↔ i < t ∧ b i = k := by
  unfold hv
  by_cases c : i < t
  · have := hb c
    rw [if_pos c, nI_eq_i (by omega) (by omega)]
    exact ⟨fun h => ⟨c, h⟩, fun h => h.2⟩
  · rw [if_neg c]
    refine ⟨fun h => ?_, fun h => absurd h.1 c⟩
    exact absurd (show nI k < 0 by rw [← h]; decide) (nI_neg (by omega))
theorem sp_token {q : Nat} (hX : TXm b t S) (hq : q ≤ t) (h4 : S.1 412 4 = nI q) : Ex G mX12_token 2 [.ref 412] S (fun _ S1 => FK S S1 ∧ TM b t q S1) := by
  have ht := hX.1
  have hp := tP_hi (b := b) hq
  obtain ⟨Q, hQ⟩ : ∃ Q : Int32 → ovS → Prop, Q = (fun _ S1 => FK S S1 ∧ TM b t q S1) := ⟨_, rfl⟩
  rw [← hQ]
  have hLn := tLn_hi (b := b) hq
  have hDn := tDn_hi (b := b) hq
  have sL := sk_lo (b := b) (t := t) (p := isLb) (q := tP b t q)
  have sD := sk_lo (b := b) (t := t) (p := isDb) (q := tP b t q)
  have eL : sk b t isLb (tP b t q) = tP b t q + tLn b t q := by unfold tLn; omega
  have eD : sk b t isDb (tP b t q) = tP b t q + tDn b t q := by unfold tDn; omega
  have hbt : ∀ i, i < t → b i < 256 := fun i hi => (hX.2.2 i hi).1
  have hK3 : ∀ w, kwF w 15 = 3 ∨ 256 ≤ kwF w 15 := fun w => by
    rcases kwF_3 (w := w) 15 with h1 | ⟨j, h1, h2, h3⟩ <;> omega
  have fin : ∀ (so n : Nat) (S' : ovS), FK S S' → S'.1 412 4 = nI (tP b t q) → S'.1 412 7 = nI (tP b t q) → S'.1 412 6 = nI so → so < 256 → so = soK (tK b t q) → (¬ tK b t q = 1 → tE b t q = tP b t q + n) → (tK b t q = 2 → S'.1 412 8 = nI (tN b t q)) → (tK b t q = 3 ∨ 256 ≤ tK b t q → S'.2 412 9 = lN (tW b t q)) → RM G mX12_token 2 Q 232 [some (.ref 412), none, some (.int (nI n))] [] S' := by
    intro so n S' a1 a4 a7 a6 hs es hE a8 a9
    have h3 : so = 3 ↔ tK b t q = 1 := by
      rw [es]
      unfold soK
      split
      · next z => simp [z]
      · split <;> omega
    refine vX12_token_232 ?_
    rw [a6, show (3 : Int32) = nI 3 from rfl, nI_eq_i (by omega) (by decide), h3, a4, nI_add]
    refine ⟨fun z => ?_, fun z S2 e2 => ?_⟩
    · rw [hQ]
      exact ⟨a1, by rw [a6, es], a7, fun y => absurd z y, a8, a9⟩
    · rw [hQ, e2]
      refine ⟨a1.st (by omega), ?_, ?_, fun _ => ?_, fun y => ?_, fun y => ?_⟩
      · rw [stI_1, if_pos rfl, if_neg (by decide), a6, es]
      · rw [stI_1, if_pos rfl, if_neg (by decide)]; exact a7
      · rw [stI_1, if_pos rfl, if_pos rfl, hE z]
      · rw [stI_1, if_pos rfl, if_neg (by decide)]; exact a8 y
      · rw [stI_2]; exact a9 y
  have wrd : ¬ t ≤ tP b t q → isLb (b (tP b t q)) = true → ∀ k i : Nat, ∀ S' : ovS, tP b t q + i + k = t → sk b t isLb (tP b t q) = sk b t isLb (tP b t q + i) → (∀ j, j < i → isLb (b (tP b t q + j)) = true) → FK S S' → S'.1 412 4 = nI (tP b t q) → S'.1 412 7 = nI (tP b t q) → (i ≤ 8 → S'.2 412 9 = lN (wdF b (tP b t q) i)) → RM G mX12_token 2 Q 78 [some (.ref 412), none, some (.int (nI i))] [] S' := by
    intro hz hL
    have hK : tK b t q = (if 8 < tLn b t q then 1 else kwF (tW b t q) 15) := by
      unfold tK
      rw [if_neg hz, if_pos hL]
    have hE : tE b t q = tP b t q + tLn b t q := by
      unfold tE
      rw [if_neg hz, if_pos hL]
    have stop : ∀ (i : Nat) (S' : ovS), sk b t isLb (tP b t q) = tP b t q + i → FK S S' → S'.1 412 4 = nI (tP b t q) → S'.1 412 7 = nI (tP b t q) → (i ≤ 8 → S'.2 412 9 = lN (wdF b (tP b t q) i)) → ((nI i ≤ 8 → ∀ S13 : ovS, S13 = stI S' 412 6 1 → RM G mX12_token 2 Q 232 [some (.ref 412), none, some (.int (nI i))] [] S13) ∧ (¬ nI i ≤ 8 → ∀ S13 : ovS, S13 = stI S' 412 6 3 → RM G mX12_token 2 Q 232 [some (.ref 412), none, some (.int (nI i))] [] S13)) := by
      intro i S' hi a1 a4 a7 a9
      have ei : tLn b t q = i := by omega
      rw [show (8 : Int32) = nI 8 from rfl, nI_le_i (by omega) (by decide)]
      refine ⟨fun c S13 e => ?_, fun c S13 e => ?_⟩
      · have hk : tK b t q = kwF (tW b t q) 15 := by rw [hK, if_neg (by omega)]
        have h3 := hK3 (tW b t q)
        refine fin 1 i S13 (by rw [e]; exact a1.st (by omega)) ?_ ?_ ?_ (by decide) ?_ (fun _ => by rw [hE, ei]) (fun y => ?_) (fun y => ?_)
        · rw [e, stI_1, if_pos rfl, if_neg (by decide)]; exact a4
        · rw [e, stI_1, if_pos rfl, if_neg (by decide)]; exact a7
        · rw [e, stI_1, if_pos rfl, if_pos rfl]; rfl
        · rw [hk]
          unfold soK
          rw [if_neg (by omega), if_pos h3]
        · rw [hk] at y
          omega
        · rw [e, stI_2, a9 c]
          unfold tW
          rw [ei]
      · have hk : tK b t q = 1 := by rw [hK, if_pos (by omega)]
        refine fin 3 i S13 (by rw [e]; exact a1.st (by omega)) ?_ ?_ ?_ (by decide) ?_ (fun y => absurd hk y) (fun y => ?_) (fun y => ?_)
        · rw [e, stI_1, if_pos rfl, if_neg (by decide)]; exact a4
        · rw [e, stI_1, if_pos rfl, if_neg (by decide)]; exact a7
        · rw [e, stI_1, if_pos rfl, if_pos rfl]; rfl
        · rw [hk]
          rfl
        · rw [hk] at y; cases y
        · rw [hk] at y; omega
    intro k
    induction k with
    | zero =>
      intro i S' hk hs hLs a1 a4 a7 a9
      have hX' := hX.fk a1
      have hn : sk b t isLb (tP b t q) = tP b t q + i := by rw [hs, sk_n (by omega)]
      refine vX12_token_78 ⟨_, sp_here hX' a4 hp (show i ≤ 1600 by omega), fun r3 S2 z => ?_⟩
      obtain ⟨z1, z2⟩ := z
      subst z2
      rw [z1]
      refine ⟨_, sp_mLet (hbt _), fun r8 S7 z => ?_⟩
      obtain ⟨y1, y2⟩ := z
      subst y2
      rw [y1, decide_eq_false (by omega), Bool.false_and]
      exact ⟨fun _ => stop i S7 hn a1 a4 a7 a9, fun x => absurd rfl x⟩
    | succ k ih =>
      intro i S' hk hs hLs a1 a4 a7 a9
      have hX' := hX.fk a1
      have hlt : tP b t q + i < t := by omega
      refine vX12_token_78 ⟨_, sp_here hX' a4 hp (show i ≤ 1600 by omega), fun r3 S2 z => ?_⟩
      obtain ⟨z1, z2⟩ := z
      subst z2
      rw [z1]
      refine ⟨_, sp_mLet (hbt _), fun r8 S7 z => ?_⟩
      obtain ⟨y1, y2⟩ := z
      subst y2
      rw [y1, decide_eq_true hlt, Bool.true_and, bI_0]
      refine ⟨fun x => stop i S7 (by rw [hs, sk_n (by rw [x]; simp)]) a1 a4 a7 a9, fun x => ?_⟩
      have x' : isLb (b (tP b t q + i)) = true := by
        revert x
        cases isLb (b (tP b t q + i)) <;> simp
      have hr := isLb_r x'
      have hs' : sk b t isLb (tP b t q) = sk b t isLb (tP b t q + (i + 1)) := by
        rw [hs, sk_s hlt x']
        rfl
      have hLs' : ∀ j, j < i + 1 → isLb (b (tP b t q + j)) = true := by
        intro j hj
        by_cases e : j = i
        · rw [e]; exact x'
        · exact hLs j (by omega)
      have go := ih (i + 1)
      rw [nI_succ i] at go
      rw [show (8 : Int32) = nI 8 from rfl, nI_le_i (by decide) (by omega)]
      refine ⟨fun c => go S7 (by omega) hs' hLs' a1 a4 a7 (fun y => absurd y (by omega)), fun c => ⟨_, sp_here hX' a4 hp (show i ≤ 1600 by omega), fun r18 S17 z => ?_⟩⟩
      obtain ⟨u1, u2⟩ := z
      subst u2
      intro S21 e21
      have hw : wdF b (tP b t q) i < 2 ^ 56 := Nat.lt_of_lt_of_le (wd_lt i (fun j hj => by have := isLb_r (hLs j hj); omega)) (pw7 (by omega))
      rw [u1, a9 (by omega), hv, if_pos hlt, show nI 8 = (8 : Int32) from rfl, wd_step hw (by omega)] at e21
      refine go S21 (by omega) hs' hLs' (by rw [e21]; exact a1.sj) (by rw [e21, stJ_1]; exact a4) (by rw [e21, stJ_1]; exact a7) (fun _ => ?_)
      rw [e21, stJ_2, if_pos rfl, if_pos rfl]
      rfl
  have num : ¬ t ≤ tP b t q → isLb (b (tP b t q)) = false → isDb (b (tP b t q)) = true → ∀ k i : Nat, ∀ S' : ovS, tP b t q + i + k = t → sk b t isDb (tP b t q) = sk b t isDb (tP b t q + i) → (∀ j, j < i → isDb (b (tP b t q + j)) = true) → FK S S' → S'.1 412 4 = nI (tP b t q) → S'.1 412 7 = nI (tP b t q) → (i ≤ 4 → S'.1 412 8 = nI (nmF b (tP b t q) i)) → RM G mX12_token 2 Q 144 [some (.ref 412), none, some (.int (nI i))] [] S' := by
    intro hz hL hD
    have hL' : ¬ isLb (b (tP b t q)) = true := by rw [hL]; decide
    have hK : tK b t q = (if 4 < tDn b t q ∨ (tP b t q + tDn b t q < t ∧ isLb (b (tP b t q + tDn b t q)) = true) then 1 else 2) := by
      unfold tK
      rw [if_neg hz, if_neg hL', if_pos hD]
    have hE : tE b t q = tP b t q + tDn b t q := by
      unfold tE
      rw [if_neg hz, if_neg hL', if_pos hD]
    have end1 : ∀ (i : Nat) (S' S13 : ovS), tDn b t q = i → tK b t q = 1 → FK S S' → S'.1 412 4 = nI (tP b t q) → S'.1 412 7 = nI (tP b t q) → S13 = stI S' 412 6 3 → RM G mX12_token 2 Q 232 [some (.ref 412), none, some (.int (nI i))] [] S13 := by
      intro i S' S13 ei hk a1 a4 a7 e
      refine fin 3 i S13 (by rw [e]; exact a1.st (by omega)) ?_ ?_ ?_ (by decide) ?_ (fun y => absurd hk y) (fun y => ?_) (fun y => ?_)
      · rw [e, stI_1, if_pos rfl, if_neg (by decide)]; exact a4
      · rw [e, stI_1, if_pos rfl, if_neg (by decide)]; exact a7
      · rw [e, stI_1, if_pos rfl, if_pos rfl]; rfl
      · rw [hk]
        rfl
      · rw [hk] at y; cases y
      · rw [hk] at y; omega
    have stop : ∀ (i : Nat) (S' : ovS), sk b t isDb (tP b t q) = tP b t q + i → FK S S' → S'.1 412 4 = nI (tP b t q) → S'.1 412 7 = nI (tP b t q) → (i ≤ 4 → S'.1 412 8 = nI (nmF b (tP b t q) i)) → ((4 < nI i → ∀ S13 : ovS, S13 = stI S' 412 6 3 → RM G mX12_token 2 Q 232 [some (.ref 412), none, some (.int (nI i))] [] S13) ∧ (¬ 4 < nI i → (∃ Q14, Ex G mX12_here 1 [.ref 412, .int (nI i)] S' Q14 ∧ ∀ (r16 : Int32) (S15 : ovS), Q14 r16 S15 → (∃ Q19, Ex G mX12_isLetter 1 [.int r16] S15 Q19 ∧ ∀ (r21 : Int32) (S20 : ovS), Q19 r21 S20 → ((r21 = 0 → (∀ S25 : ovS, S25 = stI S20 412 6 2 → RM G mX12_token 2 Q 232 [some (.ref 412), none, some (.int (nI i))] [] S25)) ∧ (¬ r21 = 0 → (∀ S26 : ovS, S26 = stI S20 412 6 3 → RM G mX12_token 2 Q 232 [some (.ref 412), none, some (.int (nI i))] [] S26))))))) := by
      intro i S' hi a1 a4 a7 a8
      have ei : tDn b t q = i := by omega
      rw [show (4 : Int32) = nI 4 from rfl, nI_lt_i (by decide) (by omega)]
      refine ⟨fun c S13 e => end1 i S' S13 ei (by rw [hK, if_pos (Or.inl (by omega))]) a1 a4 a7 e, fun c => ⟨_, sp_here (hX.fk a1) a4 hp (show i ≤ 1600 by omega), fun r16 S15 z => ?_⟩⟩
      obtain ⟨z1, z2⟩ := z
      subst z2
      rw [z1]
      refine ⟨_, sp_mLet (hbt _), fun r8 S7 z => ?_⟩
      obtain ⟨y1, y2⟩ := z
      subst y2
      rw [y1, bI_0]
      refine ⟨fun x S25 e => ?_, fun x S26 e => end1 i S7 S26 ei ?_ a1 a4 a7 e⟩
      · have hk : tK b t q = 2 := by
          rw [hK, if_neg]
          rintro (y | ⟨y1, y2⟩)
          · omega
          · rw [ei] at y1 y2
            rw [decide_eq_true y1, y2] at x
            cases x
        refine fin 2 i S25 (by rw [e]; exact a1.st (by omega)) ?_ ?_ ?_ (by decide) ?_ (fun _ => by rw [hE, ei]) (fun y => ?_) (fun y => ?_)
        · rw [e, stI_1, if_pos rfl, if_neg (by decide)]; exact a4
        · rw [e, stI_1, if_pos rfl, if_neg (by decide)]; exact a7
        · rw [e, stI_1, if_pos rfl, if_pos rfl]; rfl
        · rw [hk]
          rfl
        · rw [e, stI_1, if_pos rfl, if_neg (by decide), a8 (by omega)]
          unfold tN
          rw [ei]
        · rw [hk] at y
          omega
      · rw [hK, if_pos]
        right
        rw [ei]
        revert x
        by_cases y1 : tP b t q + i < t
        · rw [decide_eq_true y1, Bool.true_and]
          intro x
          refine ⟨y1, ?_⟩
          revert x
          cases isLb (b (tP b t q + i)) <;> simp
        · rw [decide_eq_false y1]
          intro x
          exact absurd rfl x
    intro k
    induction k with
    | zero =>
      intro i S' hk hs hLs a1 a4 a7 a8
      have hX' := hX.fk a1
      have hn : sk b t isDb (tP b t q) = tP b t q + i := by rw [hs, sk_n (by omega)]
      refine vX12_token_144 ⟨_, sp_here hX' a4 hp (show i ≤ 1600 by omega), fun r3 S2 z => ?_⟩
      obtain ⟨z1, z2⟩ := z
      subst z2
      rw [z1]
      refine ⟨_, sp_mDig (hbt _), fun r8 S7 z => ?_⟩
      obtain ⟨y1, y2⟩ := z
      subst y2
      rw [y1, decide_eq_false (by omega), Bool.false_and]
      exact ⟨fun _ => stop i S7 hn a1 a4 a7 a8, fun x => absurd rfl x⟩
    | succ k ih =>
      intro i S' hk hs hLs a1 a4 a7 a8
      have hX' := hX.fk a1
      have hlt : tP b t q + i < t := by omega
      refine vX12_token_144 ⟨_, sp_here hX' a4 hp (show i ≤ 1600 by omega), fun r3 S2 z => ?_⟩
      obtain ⟨z1, z2⟩ := z
      subst z2
      rw [z1]
      refine ⟨_, sp_mDig (hbt _), fun r8 S7 z => ?_⟩
      obtain ⟨y1, y2⟩ := z
      subst y2
      rw [y1, decide_eq_true hlt, Bool.true_and, bI_0]
      refine ⟨fun x => stop i S7 (by rw [hs, sk_n (by rw [x]; simp)]) a1 a4 a7 a8, fun x => ?_⟩
      have x' : isDb (b (tP b t q + i)) = true := by
        revert x
        cases isDb (b (tP b t q + i)) <;> simp
      have hr := isDb_r x'
      have hs' : sk b t isDb (tP b t q) = sk b t isDb (tP b t q + (i + 1)) := by
        rw [hs, sk_s hlt x']
        rfl
      have hLs' : ∀ j, j < i + 1 → isDb (b (tP b t q + j)) = true := by
        intro j hj
        by_cases e : j = i
        · rw [e]; exact x'
        · exact hLs j (by omega)
      have go := ih (i + 1)
      rw [nI_succ i] at go
      rw [show (4 : Int32) = nI 4 from rfl, nI_le_i (by decide) (by omega)]
      refine ⟨fun c => go S7 (by omega) hs' hLs' a1 a4 a7 (fun y => absurd y (by omega)), fun c => ⟨_, sp_here hX' a4 hp (show i ≤ 1600 by omega), fun r18 S17 z => ?_⟩⟩
      obtain ⟨u1, u2⟩ := z
      subst u2
      intro S21 e21
      have e10 : (10 : Int32) * nI (nmF b (tP b t q) i) = nI (nmF b (tP b t q) i) * 10 := Int32.mul_comm _ _
      rw [u1, a8 (by omega), hv, if_pos hlt, e10, nm_step hr.1] at e21
      refine go S21 (by omega) hs' hLs' (by rw [e21]; exact a1.st (by omega)) ?_ ?_ (fun _ => ?_)
      · rw [e21, stI_1, if_pos rfl, if_neg (by decide)]; exact a4
      · rw [e21, stI_1, if_pos rfl, if_neg (by decide)]; exact a7
      · rw [e21, stI_1, if_pos rfl, if_pos rfl]
        rfl
  have key : ∀ k i : Nat, ∀ S' : ovS, i + k = t → tP b t q = sk b t isWb i → FK S S' → S'.1 412 4 = nI i → RM G mX12_token 2 Q 0 [some (.ref 412), none, none] [] S' := by
    have last : ∀ (i : Nat) (S' : ovS), i ≤ t → tP b t q = i → FK S S' → S'.1 412 4 = nI i → ¬ hv b t i = 10 → ¬ hv b t i = 32 → RM G mX12_token 2 Q 0 [some (.ref 412), none, none] [] S' := by
      intro i S' hi hP a1 a4 n10 n32
      have hX' := hX.fk a1
      refine vX12_token_0 ⟨_, sp_here (k := 0) hX' a4 hi (by decide), fun r3 S2 z => ?_⟩
      obtain ⟨z1, z2⟩ := z
      subst z2
      rw [z1, Nat.add_zero]
      refine ⟨fun z => absurd z n32, fun _ => ⟨_, sp_here (k := 0) hX' a4 hi (by decide), fun r10 S9 z => ?_⟩⟩
      obtain ⟨y1, y2⟩ := z
      subst y2
      rw [y1, Nat.add_zero]
      refine ⟨fun _ S14 e14 => ?_, fun z => absurd z n10⟩
      rw [a4] at e14
      have b1 : FK S S14 := by rw [e14]; exact a1.st (by omega)
      have b4 : S14.1 412 4 = nI i := by rw [e14, stI_1, if_pos rfl, if_neg (by decide)]; exact a4
      have b7 : S14.1 412 7 = nI i := by rw [e14, stI_1, if_pos rfl, if_pos rfl]
      refine ⟨_, sp_here (k := 0) (hX.fk b1) b4 hi (by decide), fun r17 S16 z => ?_⟩
      obtain ⟨x1, x2⟩ := z
      subst x2
      rw [x1, Nat.add_zero]
      intro S20 e20 S21 e21
      have c1 : FK S S21 := by rw [e21, e20]; exact b1.sj.st (by omega)
      have c4 : S21.1 412 4 = nI (tP b t q) := by rw [e21, stI_1, if_pos rfl, if_neg (by decide), e20, stJ_1, hP]; exact b4
      have c7 : S21.1 412 7 = nI (tP b t q) := by rw [e21, stI_1, if_pos rfl, if_neg (by decide), e20, stJ_1, hP]; exact b7
      have c8 : S21.1 412 8 = 0 := by rw [e21, stI_1, if_pos rfl, if_pos rfl]
      have c9 : S21.2 412 9 = 0 := by rw [e21, stI_2, e20, stJ_2, if_pos rfl, if_pos rfl]
      clear e21 e20 e14
      by_cases c : i < t
      · have hz : ¬ t ≤ tP b t q := by omega
        have hb := hbt i c
        refine ⟨fun _ => ⟨_, sp_mLet (hbt _), fun r25 S24 z => ?_⟩, fun z => ?_⟩
        · obtain ⟨w1, w2⟩ := z
          subst w2
          rw [w1, decide_eq_true c, Bool.true_and, bI_0]
          refine ⟨fun d => ⟨_, sp_mDig (hbt _), fun r31 S30 z => ?_⟩, fun d => ?_⟩
          · obtain ⟨v1, v2⟩ := z
            subst v2
            rw [v1, decide_eq_true c, Bool.true_and, bI_0]
            have d' : ¬ isLb (b (tP b t q)) = true := by rw [hP, d]; decide
            refine ⟨fun e => ?_, fun e => ?_⟩
            · have e' : ¬ isDb (b (tP b t q)) = true := by rw [hP, e]; decide
              rw [hv, if_pos c]
              have hE : tE b t q = tP b t q + 1 := by
                unfold tE
                rw [if_neg hz, if_neg d', if_neg e']
              refine ⟨_, sp_mSign hb, fun r37 S36 z => ?_⟩
              obtain ⟨u1, u2⟩ := z
              subst u2
              rw [u1, bI_0]
              refine ⟨fun y S41 e41 => ?_, fun y S42 e42 => ?_⟩
              · have hk : tK b t q = 1 := by
                  unfold tK
                  rw [if_neg hz, if_neg d', if_neg e', if_neg (by rw [hP, y]; decide)]
                refine fin 3 1 S41 (by rw [e41]; exact c1.st (by omega)) ?_ ?_ ?_ (by decide) ?_ (fun y => absurd hk y) (fun y => ?_) (fun y => ?_)
                · rw [e41, stI_1, if_pos rfl, if_neg (by decide)]; exact c4
                · rw [e41, stI_1, if_pos rfl, if_neg (by decide)]; exact c7
                · rw [e41, stI_1, if_pos rfl, if_pos rfl]; rfl
                · rw [hk]; rfl
                · rw [hk] at y; cases y
                · rw [hk] at y; omega
              · have y' : isSb (b i) = true := by
                  revert y
                  cases isSb (b i) <;> simp
                have hk : tK b t q = b i := by
                  unfold tK
                  rw [if_neg hz, if_neg d', if_neg e', hP, if_pos y']
                have h123 : ¬ b i = 1 ∧ ¬ b i = 2 ∧ ¬ b i = 3 := by
                  refine ⟨?_, ?_, ?_⟩ <;> (intro x; rw [x] at y'; exact absurd y' (by decide))
                refine fin (b i) 1 S42 (by rw [e42]; exact c1.st (by omega)) ?_ ?_ ?_ hb ?_ (fun _ => hE) (fun y => ?_) (fun y => ?_)
                · rw [e42, stI_1, if_pos rfl, if_neg (by decide)]; exact c4
                · rw [e42, stI_1, if_pos rfl, if_neg (by decide)]; exact c7
                · rw [e42, stI_1, if_pos rfl, if_pos rfl]
                · rw [hk]
                  unfold soK
                  rw [if_neg h123.1, if_neg (by omega)]
                · rw [hk] at y; omega
                · rw [hk] at y; omega
            · have e' : isDb (b (tP b t q)) = true := by
                rw [hP]
                revert e
                cases isDb (b i) <;> simp
              refine num hz (by rw [hP]; exact d) e' (t - tP b t q) 0 S30 (by omega) rfl (fun j hj => absurd hj (by omega)) c1 c4 c7 (fun _ => ?_)
              rw [c8]
              rfl
          · have d' : isLb (b (tP b t q)) = true := by
              rw [hP]
              revert d
              cases isLb (b i) <;> simp
            refine wrd hz d' (t - tP b t q) 0 S24 (by omega) rfl (fun j hj => absurd hj (by omega)) c1 c4 c7 (fun _ => ?_)
            rw [c9]
            rfl
        · rw [hv, if_pos c] at z
          exact absurd (Int32.not_lt.mp (nI_neg (by omega))) z
      · have hz : t ≤ tP b t q := by omega
        have hk : tK b t q = 0 := by
          unfold tK
          rw [if_pos hz]
        refine ⟨fun z => ?_, fun z S43 e43 => ?_⟩
        · rw [hv, if_neg c] at z
          exact absurd z (by decide)
        · refine fin 0 0 S43 (by rw [e43]; exact c1.st (by omega)) ?_ ?_ ?_ (by decide) ?_ (fun _ => ?_) (fun y => ?_) (fun y => ?_)
          · rw [e43, stI_1, if_pos rfl, if_neg (by decide)]; exact c4
          · rw [e43, stI_1, if_pos rfl, if_neg (by decide)]; exact c7
          · rw [e43, stI_1, if_pos rfl, if_pos rfl]; rfl
          · rw [hk]; rfl
          · unfold tE
            rw [if_pos hz]
            rfl
          · rw [hk] at y; cases y
          · rw [hk] at y; omega
    intro k
    induction k with
    | zero =>
      intro i S' hk hs a1 a4
      refine last i S' (by omega) (by rw [hs, sk_n (by omega)]) a1 a4 (fun z => ?_) (fun z => ?_)
      · have := (hv_eq (hbt i) (k := 10) (by decide)).mp z
        omega
      · have := (hv_eq (hbt i) (k := 32) (by decide)).mp z
        omega
    | succ k ih =>
      intro i S' hk hs a1 a4
      have hX' := hX.fk a1
      have hlt : i < t := by omega
      by_cases hw : isWb (b i) = true
      · have go : ∀ S7, S7 = stI S' 412 4 (nI i + 1) → RM G mX12_token 2 Q 0 [some (.ref 412), none, none] [] S7 := by
          intro S7 e7
          refine ih (i + 1) S7 (by omega) (by rw [hs, sk_s hlt hw]) (by rw [e7]; exact a1.st (by omega)) ?_
          rw [e7, stI_1, if_pos rfl, if_pos rfl, nI_1]
        refine vX12_token_0 ⟨_, sp_here (k := 0) hX' a4 (by omega) (by decide), fun r3 S2 z => ?_⟩
        obtain ⟨z1, z2⟩ := z
        subst z2
        rw [z1, Nat.add_zero, a4]
        refine ⟨fun _ S7 e7 => go S7 e7, fun x => ⟨_, sp_here (k := 0) hX' a4 (by omega) (by decide), fun r10 S9 z => ?_⟩⟩
        obtain ⟨y1, y2⟩ := z
        subst y2
        rw [y1, Nat.add_zero, a4]
        refine ⟨fun y => ?_, fun _ S44 e => go S44 e⟩
        exfalso
        have x' : ¬ b i = 32 := fun u => x ((hv_eq (hbt i) (k := 32) (by decide)).mpr ⟨hlt, u⟩)
        have y' : ¬ b i = 10 := fun u => y ((hv_eq (hbt i) (k := 10) (by decide)).mpr ⟨hlt, u⟩)
        unfold isWb at hw
        simp [x', y'] at hw
      · refine last i S' (by omega) (by rw [hs, sk_n (fun z => hw z.2)]) a1 a4 (fun z => ?_) (fun z => ?_)
        · have := (hv_eq (hbt i) (k := 10) (by decide)).mp z
          exact hw (by unfold isWb; rw [this.2]; rfl)
        · have := (hv_eq (hbt i) (k := 32) (by decide)).mp z
          exact hw (by unfold isWb; rw [this.2]; rfl)
  exact eX12_token (key (t - q) q S (by omega) rfl FK.rf h4)
end
