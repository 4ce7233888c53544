/-! ===== the class's Scanner ===== -/
theorem lN_inj {a c : Nat} (ha : a < 2 ^ 64) (hc : c < 2 ^ 64) : lN a = lN c ↔ a = c := by
  constructor
  · intro h
    have := congrArg (fun x : Int64 => x.toBitVec.toNat) h
    simp only [wb_tn ha, wb_tn hc] at this
    exact this
  · exact fun h => by rw [h]
theorem nI_subk {a k : Nat} (h : k ≤ a) : nI a - nI k = nI (a - k) := by
  have e : nI a = nI (a - k) + nI k := by rw [nI_add, Nat.sub_add_cancel h]
  rw [e, Int32.add_sub_cancel]
theorem sby_L : ∀ c, c < 256 → (bI (isLb c) = 1 ↔ ¬ sby c < 97 ∧ ¬ 122 < sby c) := by decide +kernel
theorem sby_D : ∀ c, c < 256 → (bI (isDb c) = 1 ↔ ¬ sby c < 48 ∧ ¬ 57 < sby c) := by decide +kernel
theorem sby_32 : ∀ c, c < 256 → (sby c = 32 ↔ c = 32) := by decide +kernel
theorem sby_10 : ∀ c, c < 256 → (sby c = 10 ↔ c = 10) := by decide +kernel
theorem sby_255 : ∀ c, c < 256 → sby c &&& 255 = nI c := by decide +kernel
theorem ch_255 : ∀ c, c < 256 → ((nI c).toUInt32 % 65536).toInt32 = nI c := by decide +kernel
theorem sby_lt {c : Nat} (h : c < 128) : sby c = nI c := by unfold sby; rw [if_pos h]
theorem isLb_r {c : Nat} (h : isLb c = true) : 97 ≤ c ∧ c ≤ 122 := by
  unfold isLb at h
  simpa using h
theorem isDb_r {c : Nat} (h : isDb c = true) : 48 ≤ c ∧ c ≤ 57 := by
  unfold isDb at h
  simpa using h
theorem bI_1 {x : Bool} : bI x = 1 ↔ x = true := by cases x <;> decide
/-- the text as the class has it -/
def TX (b : Nat → Nat) (t : Nat) (S : ovS) : Prop := t ≤ 1600 ∧ S.1 13 5 = nI t ∧ ∀ i, i < t → b i < 256 ∧ S.1 1 i = sby (b i)
/-- only the Scanner has changed -/
def FA (S S1 : ovS) : Prop := ∀ k, k ≠ 13 → S1.1 k = S.1 k ∧ S1.2 k = S.2 k
theorem FA.rf {S : ovS} : FA S S := fun _ _ => ⟨rfl, rfl⟩
theorem FA.tr {S S1 S2 : ovS} (h : FA S S1) (h2 : FA S1 S2) : FA S S2 := fun k hk => ⟨(h2 k hk).1.trans (h k hk).1, (h2 k hk).2.trans (h k hk).2⟩
theorem FA.st {S S1 : ovS} {j : Nat} {v : Int32} (h : FA S S1) : FA S (stI S1 13 j v) := fun k hk => by
  rw [stI_row hk, stI_2]
  exact h k hk
theorem FA.sj {S S1 : ovS} {j : Nat} {v : Int64} (h : FA S S1) : FA S (stJ S1 13 j v) := fun k hk => by
  rw [stJ_1, stJ_row hk]
  exact h k hk
/-- the TOKEN from q on is the one that the Scanner shows -/
def TC (b : Nat → Nat) (t q : Nat) (S : ovS) : Prop := S.1 13 0 = nI (tK b t q) ∧ S.1 13 1 = nI (tP b t q) ∧ S.1 13 6 = nI (tE b t q) ∧ (tK b t q = 2 → S.1 13 2 = nI (tN b t q)) ∧ (tK b t q = 3 → S.2 13 3 = lN (tW b t q))
theorem wd_lt {b : Nat → Nat} {q : Nat} : ∀ n, (∀ i, i < n → b (q + i) < 256) → wdF b q n < 256 ^ n
  | 0, _ => by simp [wdF]
  | n + 1, h => by
    have h1 := wd_lt n (fun i hi => h i (by omega))
    have h2 := h n (by omega)
    rw [wdF, Nat.pow_succ]
    omega
theorem pw8 {n : Nat} (h : n ≤ 8) : (256 : Nat) ^ n ≤ 2 ^ 64 := Nat.le_trans (Nat.pow_le_pow_right (by decide) h) (by decide)
theorem pw7 {n : Nat} (h : n ≤ 7) : (256 : Nat) ^ n ≤ 2 ^ 56 := Nat.le_trans (Nat.pow_le_pow_right (by decide) h) (by decide)
theorem wd_step {w c : Nat} (hw : w < 2 ^ 56) (hc : c < 256) : (lN w <<< ((8 : Int32).toInt64 &&& 63)) ||| (nI c).toInt64 = lN (w * 256 + c) := by
  have h1 : (8 : Int32) = nI 8 := rfl
  rw [h1, wb_shl w (by decide), nI_l (by omega), show (2 : Nat) ^ 8 = 256 from rfl]
  exact g_or (k := 8) rfl hc (by omega)
section
variable {G : ovG} {S : ovS} {b : Nat → Nat} {t : Nat}
theorem TX.cg {S1 : ovS} (h : TX b t S) (h1 : S1.1 1 = S.1 1) (h2 : S1.1 13 5 = S.1 13 5) : TX b t S1 := ⟨h.1, by rw [h2]; exact h.2.1, fun i hi => by rw [h1]; exact h.2.2 i hi⟩
theorem sp_cLet {i : Nat} (hX : TX b t S) (hi : i ≤ 1600) : Ex G mX7_isLetter 1 [.ref 13, .int (nI i)] S (fun r S1 => r = bI (decide (i < t) && isLb (b i)) ∧ S1 = S) := by
  have ht := hX.1
  refine eX7_isLetter (vX7_isLetter_0 ⟨fun c => absurd c (nI_neg (by omega)), fun _ => ?_⟩)
  rw [hX.2.1, nI_le_i (by omega) (by omega)]
  refine ⟨fun c => ⟨by rw [decide_eq_false (by omega)]; rfl, rfl⟩, fun c => ⟨vp_in_nI (by omega) (by decide), ?_⟩⟩
  have h := hX.2.2 i (by omega)
  have hL := sby_L (b i) h.1
  rw [nI_ix (by omega), h.2, decide_eq_true (show i < t by omega), Bool.true_and]
  refine ⟨fun d => ⟨?_, rfl⟩, fun d => ⟨vp_in_nI (by omega) (by decide), fun e => ⟨?_, rfl⟩, fun e => ⟨?_, rfl⟩⟩⟩
  · cases hb : isLb (b i) with
    | false => rfl
    | true => rw [hb] at hL; exact absurd d (hL.mp rfl).1
  · cases hb : isLb (b i) with
    | false => rfl
    | true => rw [hb] at hL; exact absurd e (hL.mp rfl).2
  · exact (hL.mpr ⟨d, e⟩).symm
theorem sp_cDig {i : Nat} (hX : TX b t S) (hi : i ≤ 1600) : Ex G mX7_isDigit 1 [.ref 13, .int (nI i)] S (fun r S1 => r = bI (decide (i < t) && isDb (b i)) ∧ S1 = S) := by
  have ht := hX.1
  refine eX7_isDigit (vX7_isDigit_0 ⟨fun c => absurd c (nI_neg (by omega)), fun _ => ?_⟩)
  rw [hX.2.1, nI_le_i (by omega) (by omega)]
  refine ⟨fun c => ⟨by rw [decide_eq_false (by omega)]; rfl, rfl⟩, fun c => ⟨vp_in_nI (by omega) (by decide), ?_⟩⟩
  have h := hX.2.2 i (by omega)
  have hL := sby_D (b i) h.1
  rw [nI_ix (by omega), h.2, decide_eq_true (show i < t by omega), Bool.true_and]
  refine ⟨fun d => ⟨?_, rfl⟩, fun d => ⟨vp_in_nI (by omega) (by decide), fun e => ⟨?_, rfl⟩, fun e => ⟨?_, rfl⟩⟩⟩
  · cases hb : isDb (b i) with
    | false => rfl
    | true => rw [hb] at hL; exact absurd d (hL.mp rfl).1
  · cases hb : isDb (b i) with
    | false => rfl
    | true => rw [hb] at hL; exact absurd e (hL.mp rfl).2
  · exact (hL.mpr ⟨d, e⟩).symm
theorem sp_sg : Ex G mJ0_isLatin1_aae02 1 [.ref 449] S (fun r S1 => r = 1 ∧ S1 = S) := eJ0_isLatin1_aae02 (vJ0_isLatin1_aae02_0 ⟨fun c => absurd c (by decide), fun _ => ⟨fun c => absurd rfl c, fun _ => ⟨rfl, rfl⟩⟩⟩)
theorem sp_sgl : Ex G mJ0_length_8abf5 2 [.ref 449] S (fun r S1 => r = 11 ∧ S1 = S) := eJ0_length_8abf5 (vJ0_length_8abf5_0 ⟨_, eJ0_coder_7d493 (vJ0_coder_7d493_0 (Q := fun r S1 => r = 0 ∧ S1 = S) ⟨fun c => absurd c (by decide), fun _ => ⟨rfl, rfl⟩⟩), fun r3 S2 q => ⟨by rw [q.1]; decide, q.2⟩⟩)
theorem sg_ix : ∀ i, i < 11 → oSg.getD i 0 = nI ([59, 40, 41, 60, 62, 61, 43, 45, 42, 47, 37].getD i 0) := by decide
theorem sg_iff : ∀ c, c < 256 → (isSb c = true ↔ ∃ i, i < 11 ∧ [59, 40, 41, 60, 62, 61, 43, 45, 42, 47, 37].getD i 0 = c) := by decide +kernel
theorem sg_by : ∀ c, c < 256 → ∀ i, i < 11 → (oSg.getD i 0 = (nI c).toInt8.toInt32 ↔ [59, 40, 41, 60, 62, 61, 43, 45, 42, 47, 37].getD i 0 = c) := by decide +kernel
theorem sp_indexOf {c : Nat} (hc : c < 256) : Ex G mJ0_indexOf_0f7a4 8 [.ref 449, .int (nI c)] S (fun r S1 => (r < 0 ↔ isSb c = false) ∧ S1 = S) := by
  refine eJ0_indexOf_0f7a4 (vJ0_indexOf_0f7a4_0 ⟨_, eJ0_indexOf_7cf53 (vJ0_indexOf_7cf53_0 (Q := fun r S1 => (r < 0 ↔ isSb c = false) ∧ S1 = S) ⟨_, sp_sg, fun r3 S2 q => ?_⟩), fun r S1 q => q⟩)
  obtain ⟨q1, q2⟩ := q
  subst q1 q2
  refine ⟨fun z => absurd z (by decide), fun _ => ⟨_, sp_sgl, fun r19 S18 q => ?_⟩⟩
  obtain ⟨q1, q2⟩ := q
  subst q1 q2
  refine ⟨_, eJ1_indexOf_4cfef (vJ1_indexOf_4cfef_0 (Q := fun r S1 => (r < 0 ↔ isSb c = false) ∧ S1 = S18) ⟨_, eJ1_canEncode_9a6ad (vJ1_canEncode_9a6ad_0 (Q := fun r S1 => r = 1 ∧ S1 = S18) ⟨fun z => absurd z (nI_neg (by omega)), fun _ => ⟨fun z => absurd ((nI_lt_i (a := 255) (by decide) (by omega)).mp z) (by omega), fun _ => ⟨rfl, rfl⟩⟩⟩), fun r3 S2 q => ?_⟩), fun r S1 q => q⟩
  obtain ⟨q1, q2⟩ := q
  subst q1 q2
  refine ⟨fun _ => ⟨fun _ => ⟨_, ?_, fun r10 S9 q => q⟩, fun z => absurd (by decide) z⟩, fun z => absurd z (by decide)⟩
  have e1 : omax 0 0 = nI 0 := rfl
  have e2 : omin 11 11 = nI 11 := rfl
  rw [e1, e2]
  refine eJ1_indexOfChar_4cfef (vJ1_indexOfChar_4cfef_0 ?_)
  have key : ∀ k i : Nat, i + k = 11 → (∀ j, j < i → ¬ [59, 40, 41, 60, 62, 61, 43, 45, 42, 47, 37].getD j 0 = c) → RM G mJ1_indexOfChar_4cfef 1 (fun r S1 => (r < 0 ↔ isSb c = false) ∧ S1 = S2) 7 [some (.ref 450), none, none, some (.int (nI 11)), some (.int (nI c).toInt8.toInt32), some (.int (nI i))] [] S2 := by
    intro k
    induction k with
    | zero =>
      intro i hi hn
      have : i = 11 := by omega
      subst this
      refine vJ1_indexOfChar_4cfef_7 ⟨fun _ => ⟨⟨fun _ => ?_, fun _ => by decide⟩, rfl⟩, fun z => absurd (by decide) z⟩
      cases hb : isSb c with
      | false => rfl
      | true =>
        obtain ⟨j, h1, h2⟩ := (sg_iff c hc).mp hb
        exact absurd h2 (hn j h1)
    | succ k ih =>
      intro i hi hn
      refine vJ1_indexOfChar_4cfef_7 ⟨fun z => absurd ((nI_le_i (a := 11) (by decide) (by omega)).mp z) (by omega), fun _ => ⟨vp_in_nI (by omega) (by decide), ?_⟩⟩
      rw [nI_ix (by omega), sg_by c hc i (by omega)]
      refine ⟨fun z => ?_, fun z => ⟨⟨fun y => absurd y (nI_neg (by omega)), fun y => ?_⟩, rfl⟩⟩
      · have := ih (i + 1) (by omega) (fun j hj => by
          by_cases e : j = i
          · rw [e]; exact z
          · exact hn j (by omega))
        rw [nI_succ i] at this
        exact this
      · rw [(sg_iff c hc).mpr ⟨i, by omega, z⟩] at y
        cases y
  exact key 11 0 (by omega) (fun j hj => absurd hj (by omega))
end
