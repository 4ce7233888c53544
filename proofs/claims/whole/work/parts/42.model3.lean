/-! ===== the reference: what each one gets ===== -/
abbrev M5 : List Nat := [420, 421, 427, 428, 429]
def FD (n : Nat) (f : Nat → Int32) : Prop := ∃ F : Nat → Nat, (∀ i, i < 5 → f i = nI (F i) ∧ F i < 2 ^ n) ∧ (∀ i j, i < 5 → j < 5 → (F i).testBit j = (F j).testBit i) ∧ (∀ i, i < 5 → (F i).testBit i = false)
/-- the reference's week is the class's -/
def NW (S : ovS) : Prop := (∀ i, i < 5 → S.1 426 i = S.1 25 i) ∧ (∀ i, i < 5 → S.1 426 (5 + i) = S.1 26 i) ∧ (∀ i, i < 5 → S.1 426 (10 + i) = S.1 29 i) ∧ (∀ i, i < 5 → S.1 426 (15 + i) = S.1 27 i) ∧ (∀ i, i < 5 → S.1 426 (20 + i) = S.1 28 i) ∧ (∀ i, i < 5 → S.1 426 (25 + i) = S.1 30 i) ∧ (∀ i, i < 5 → S.1 426 (30 + i) = S.1 31 i) ∧ S.1 426 35 = S.1 24 7 ∧ S.1 426 36 = S.1 24 8 ∧ S.1 426 37 = S.1 24 9
def MX (S : ovS) (n : Nat) : Prop := CX S n ∧ S.1 412 35 = nI n ∧ (∃ fl, FR S fl) ∧ NW S ∧ FD n (S.1 29) ∧ VN n (S.1 26) ∧ (∀ s, s < n → S.1 425 s = S.1 17 s)
def SY (S : ovS) (n : Nat) (nm : Nat → Int32) : Prop := ∀ i, i < n → S.1 427 i = nm i
abbrev M7 : List Nat := [412, 420, 421, 427, 428, 429, 431]
def FM (S0 S : ovS) : Prop := (∀ k, M7.contains k = false → S.1 k = S0.1 k) ∧ (∀ j, j ≠ 48 → S.1 412 j = S0.1 412 j) ∧ S.2 = S0.2
theorem FM.rf {S : ovS} : FM S S := ⟨fun _ _ => rfl, fun _ _ => rfl, rfl⟩
theorem FM.tr {S S1 S2 : ovS} (h : FM S S1) (h2 : FM S1 S2) : FM S S2 := ⟨fun k hk => (h2.1 k hk).trans (h.1 k hk), fun j hj => (h2.2.1 j hj).trans (h.2.1 j hj), h2.2.2.trans h.2.2⟩
theorem FM.of {L : List Nat} {S S1 : ovS} (h : Fr L S S1) (hL : (L.all fun k => M7.contains k && !(k == 412)) = true) : FM S S1 := by
  have h1 : ∀ k, L.contains k = true → M7.contains k = true ∧ k ≠ 412 := by
    intro k hk
    have h2 : k ∈ L := by simpa using hk
    have h3 := List.all_eq_true.mp hL k h2
    rw [Bool.and_eq_true] at h3
    exact ⟨h3.1, by simpa using h3.2⟩
  refine ⟨fun k hk => h.1 k ?_, fun j _ => congrFun (h.1 412 ?_) j, h.2⟩
  · cases hc : L.contains k with
    | false => rfl
    | true => rw [(h1 k hc).1] at hk; cases hk
  · cases hc : L.contains 412 with
    | false => rfl
    | true => exact absurd rfl (h1 412 hc).2
theorem FM.at {S0 S : ovS} (h : FM S0 S) (k : Nat) (hk : M7.contains k = false) : S.1 k = S0.1 k := h.1 k hk
theorem FM.sm {S0 S : ovS} (h : FM S0 S) : SmL S0 S := ⟨h.at 20 rfl, h.at 21 rfl, h.at 22 rfl, h.at 25 rfl, h.at 27 rfl, h.at 28 rfl, h.at 24 rfl⟩
theorem FR.cg {S S1 : ovS} {fl : Nat} (h : FR S fl) (h1 : SmL S S1) (h2 : S1.1 417 = S.1 417) (h3 : S1.1 418 = S.1 418) (h4 : S1.1 412 18 = S.1 412 18) (h5 : S1.1 412 39 = S.1 412 39) : FR S1 fl := by
  unfold FR at h ⊢
  rw [h1.1, h1.2.1, h1.2.2.1, h2, h3, h4, h5]
  exact h
theorem NW.cg {S S1 : ovS} (h : NW S) (h0 : S1.1 426 = S.1 426) (h1 : S1.1 25 = S.1 25) (h2 : S1.1 26 = S.1 26) (h3 : S1.1 27 = S.1 27) (h4 : S1.1 28 = S.1 28) (h5 : S1.1 29 = S.1 29) (h6 : S1.1 30 = S.1 30) (h7 : S1.1 31 = S.1 31) (h8 : S1.1 24 = S.1 24) : NW S1 := by
  unfold NW at h ⊢
  rw [h0, h1, h2, h3, h4, h5, h6, h7, h8]
  exact h
theorem MX.fm {S0 S : ovS} {n : Nat} (h : MX S0 n) (hF : FM S0 S) : MX S n := by
  obtain ⟨h1, h2, ⟨fl, h3⟩, h4, h5, h6, h7⟩ := h
  refine ⟨⟨by rw [hF.at 16 rfl]; exact h1.1, h1.2.1, FOk_sm hF.sm h1.2.2⟩, by rw [hF.2.1 35 (by decide)]; exact h2, ⟨fl, h3.cg hF.sm (hF.at 417 rfl) (hF.at 418 rfl) (hF.2.1 18 (by decide)) (hF.2.1 39 (by decide))⟩, h4.cg (hF.at 426 rfl) (hF.at 25 rfl) (hF.at 26 rfl) (hF.at 27 rfl) (hF.at 28 rfl) (hF.at 29 rfl) (hF.at 30 rfl) (hF.at 31 rfl) (hF.at 24 rfl), by rw [hF.at 29 rfl]; exact h5, by rw [hF.at 26 rfl]; exact h6, ?_⟩
  rw [hF.at 425 rfl, hF.at 17 rfl]
  exact h7
theorem gG_fm {S0 S : ovS} (h : FM S0 S) : gG S = gG S0 := gG_sm h.sm (h.at 29 rfl)
theorem nm_neg {n : Nat} {x : Int32} (h : isNm n x) (hn : n ≤ 5) : x < 0 ↔ x = -1 := by
  rcases h with h | ⟨w, hw, h⟩
  · subst h
    decide
  · subst h
    have h1 : w < 5 := by omega
    have : ∀ w, w < 5 → (nI w < 0 ↔ nI w = -1) := by decide
    exact this w h1
theorem ct5 {p : Nat → Bool} {n : Nat} (hn : n ≤ 5) (h : ∀ i, n ≤ i → i < 5 → p i = false) : fb_ct p 5 = fb_ct p n := by
  obtain ⟨d, hd⟩ : ∃ d, n + d = 5 := ⟨5 - n, by omega⟩
  rw [← hd, fb_ct_split, fb_ct_zero.mpr (fun k hk => h (n + k) (by omega) (by omega)), Nat.add_zero]
theorem any5 {p : Nat → Bool} {n : Nat} (hn : n ≤ 5) (h : ∀ i, n ≤ i → i < 5 → p i = false) : anyN 5 p = anyN n p := by
  rw [Bool.eq_iff_iff, anyN_iff, anyN_iff]
  constructor
  · rintro ⟨i, h1, h2⟩
    refine ⟨i, ?_, h2⟩
    rcases Nat.lt_or_ge i n with q | q
    · exact q
    · rw [h i q h1] at h2
      cases h2
  · rintro ⟨i, h1, h2⟩
    exact ⟨i, by omega, h2⟩
theorem sr5 : ∀ F, F < 32 → ∀ b, b < 5 → ((nI F >>> (nI b &&& 31)) &&& 1 = 1 ↔ F.testBit b = true) := by decide +kernel
theorem an5 : ∀ a, a < 32 → ∀ b, b < 32 → (nI a &&& nI b = 0 ↔ anyN 5 (fun j => a.testBit j && b.testBit j) = false) := by decide +kernel
theorem pow5l {n x : Nat} (hn : n ≤ 5) (h : x < 2 ^ n) : x < 32 := Nat.lt_of_lt_of_le h (pow5 hn)
def stP (F : Nat → Nat) (nm : Nat → Int32) (i j : Nat) : Bool := decide (¬ nm i = -1) && decide (¬ nm j = -1) && (F i).testBit j
theorem gSt_any {S : ovS} {nm : Nat → Int32} {n : Nat} {F : Nat → Nat} (hn : n ≤ 5) (hV : VN n nm) (hF : (∀ i, i < 5 → S.1 29 i = nI (F i) ∧ F i < 2 ^ n) ∧ (∀ i j, i < 5 → j < 5 → (F i).testBit j = (F j).testBit i) ∧ (∀ i, i < 5 → (F i).testBit i = false)) : gSt S nm = anyN n (fun i => anyN i (stP F nm i)) := by
  obtain ⟨f1, f2, f3⟩ := hF
  rw [Bool.eq_iff_iff, gSt, anyN_iff, anyN_iff]
  have hm : mk (fun i => decide (¬ nm i = -1)) 5 < 32 := mk_lt _ 5
  have hq : ∀ i, i < 5 → (qrF (S.1 29) (nI (mk (fun i => decide (¬ nm i = -1)) 5)) i = true ↔ ∃ j, j < 5 ∧ stP F nm i j = true) := by
    intro i hi
    have b1 : (nI (mk (fun i => decide (¬ nm i = -1)) 5) &&& (1 <<< (nI i &&& 31))) = 0 ↔ nm i = -1 := by
      rw [bit_iff (by omega), mk_bit]
      simp [hi]
    have b2 : (S.1 29 i &&& nI (mk (fun i => decide (¬ nm i = -1)) 5)) = 0 ↔ ∀ j, j < 5 → ((F i).testBit j && decide (¬ nm j = -1)) = false := by
      rw [(f1 i hi).1, an5 _ (pow5l hn (f1 i hi).2) _ hm]
      constructor
      · intro h j hj
        cases hc : ((F i).testBit j && decide (¬ nm j = -1)) with
        | false => rfl
        | true =>
          have : anyN 5 (fun j => (F i).testBit j && (mk (fun i => decide (¬ nm i = -1)) 5).testBit j) = true := anyN_iff.mpr ⟨j, hj, by simp only [mk_bit, hj, decide_true, Bool.true_and]; exact hc⟩
          rw [h] at this
          cases this
      · intro h
        cases hc : anyN 5 (fun j => (F i).testBit j && (mk (fun i => decide (¬ nm i = -1)) 5).testBit j) with
        | false => rfl
        | true =>
          obtain ⟨j, hj, h2⟩ := anyN_iff.mp hc
          simp only [mk_bit, hj, decide_true, Bool.true_and] at h2
          rw [h j hj] at h2
          cases h2
    unfold qrF
    rw [Bool.and_eq_true, decide_eq_true_iff, decide_eq_true_iff, b1, b2]
    constructor
    · rintro ⟨h1, h2⟩
      obtain ⟨j, h3⟩ := Classical.not_forall.mp h2
      obtain ⟨hj, h4⟩ := Classical.not_imp.mp h3
      rw [Bool.not_eq_false, Bool.and_eq_true, decide_eq_true_iff] at h4
      refine ⟨j, hj, ?_⟩
      simp only [stP, h1, h4.1, h4.2, not_false_eq_true, decide_true, Bool.and_self]
    · rintro ⟨j, hj, h⟩
      simp only [stP, Bool.and_eq_true, decide_eq_true_iff] at h
      refine ⟨h.1.1, fun h2 => ?_⟩
      have := h2 j hj
      rw [h.2] at this
      simp [h.1.2] at this
  have nn : ∀ i j, i < 5 → stP F nm i j = true → i < n := by
    intro i j hi h
    simp only [stP, Bool.and_eq_true, decide_eq_true_iff] at h
    rcases Nat.lt_or_ge i n with q | q
    · exact q
    · exact absurd ((hV i hi).2 q) h.1.1
  constructor
  · rintro ⟨i, hi, h⟩
    obtain ⟨j, hj, h2⟩ := (hq i hi).mp h
    have hi2 := nn i j hi h2
    have h3 : stP F nm j i = true := by
      simp only [stP, Bool.and_eq_true, decide_eq_true_iff] at h2 ⊢
      exact ⟨⟨h2.1.2, h2.1.1⟩, by rw [f2 j i hj hi]; exact h2.2⟩
    have hj2 := nn j i hj h3
    rcases Nat.lt_trichotomy i j with q | q | q
    · exact ⟨j, hj2, anyN_iff.mpr ⟨i, q, h3⟩⟩
    · subst q
      simp only [stP, Bool.and_eq_true, f3 i hi] at h2
      exact absurd h2.2 (by decide)
    · exact ⟨i, hi2, anyN_iff.mpr ⟨j, q, h2⟩⟩
  · rintro ⟨i, hi, h⟩
    obtain ⟨j, hj, h2⟩ := anyN_iff.mp h
    exact ⟨i, by omega, (hq i (by omega)).mpr ⟨j, by omega, h2⟩⟩
theorem ix_add {a i : Nat} (h : a + i < 2147483648) : (nI a + nI i).toNatClampNeg = a + i := by
  rw [nI_add, nI_ix h]
theorem in_add {a i m : Nat} (h : a + i < m) (hm : m < 2147483648) : vp_in (nI a + nI i) m := by
  rw [nI_add]
  exact vp_in_nI h hm
section
variable {G : ovG} {S : ovS} {n : Nat} {nm : Nat → Int32}
theorem sp_mLoad (hM : MX S n) : Ex G mX12_load 1 [.ref 412] S (fun _ S1 => (∀ i, i < 5 → S1.1 427 i = S.1 26 i) ∧ Fr [427] S S1) := by
  refine eX12_load (vX12_load_0 ?_)
  have key : ∀ k i : Nat, ∀ S' : ovS, i + k = 5 → Fr [427] S S' → (∀ j, j < i → S'.1 427 j = S.1 26 j) → RM G mX12_load 1 (fun _ S1 => (∀ i, i < 5 → S1.1 427 i = S.1 26 i) ∧ Fr [427] S S1) 2 [some (.ref 412), some (.int (nI i))] [] S' := by
    intro k
    induction k with
    | zero =>
      intro i S' hi hF h
      have : i = 5 := by omega
      subst this
      exact vX12_load_2 ⟨fun _ => ⟨h, hF⟩, fun c => absurd (by decide) c⟩
    | succ k ih =>
      intro i S' hi hF h
      refine vX12_load_2 ⟨fun c => absurd ((nI_le_i (a := 5) (by decide) (by omega)).mp c) (by omega), fun _ => ⟨in_add (a := 5) (by omega) (by decide), vp_in_nI (by omega) (by decide), fun S2 e2 => ?_⟩⟩
      subst e2
      have e1 := ix_add (a := 5) (i := i) (by omega)
      rw [nI_ix (n := i) (by omega), show ((5 : Int32) + nI i).toNatClampNeg = 5 + i from e1, hF.at 426 rfl, hM.2.2.2.1.2.1 i (by omega)]
      have hh := ih (i + 1) (stI S' 427 i (S.1 26 i)) (by omega) (hF.st rfl) (fun j hj => ?_)
      · rw [nI_succ i] at hh
        exact hh
      · rw [stI_self]
        by_cases e : j = i
        · simp [upd, e]
        · simp only [upd, if_neg e]
          exact h j (by omega)
  exact key 5 0 S rfl Fr.rf (fun j hj => absurd hj (by omega))
theorem sp_mLoad' (hM : MX S n) : Ex G mX12_load 1 [.ref 412] S (fun _ S1 => SY S1 n (S.1 26) ∧ Fr M5 S S1) := Ex.imp (sp_mLoad hM) (fun _ _ q => ⟨fun i hi => q.1 i (by have := hM.1.2.1; omega), q.2.mono rfl⟩)
theorem MX.le {i : Nat} (hM : MX S n) (hi : i < n) : ¬ S.1 412 35 ≤ nI i := nI_next hM.2.1 (by have := hM.1.2.1; omega) hi
theorem MX.ge (hM : MX S n) : S.1 412 35 ≤ nI n := by rw [hM.2.1]; exact Int32.le_refl _
theorem MX.n5 (hM : MX S n) : n ≤ 5 := hM.1.2.1
theorem gSd_n (hn : n ≤ 5) (hV : VN n nm) : gSd nm = fb_ct (fun i => decide (¬ nm i = -1)) n := ct5 hn (fun i h1 h2 => by simp [(hV i h2).2 h1])
theorem sp_saidMany (hM : MX S n) (hV : VN n nm) (hS : SY S n nm) : Ex G mX12_saidMany 2 [.ref 412] S (fun r S1 => r = nI (gSd nm) ∧ S1 = S) := by
  have hn := hM.n5
  rw [gSd_n hn hV]
  refine eX12_saidMany (vX12_saidMany_0 (loopUp (n := n) (P := fun i => RM G mX12_saidMany 2 _ 4 [some (.ref 412), some (.int (nI (fb_ct (fun i => decide (¬ nm i = -1)) i))), some (.int (nI i))] [] S) ?_ ?_ 0 (by omega)))
  · exact vX12_saidMany_4 ⟨fun _ => ⟨rfl, rfl⟩, fun c => absurd hM.ge c⟩
  · intro i hi ih
    have hx := nm_neg ((hV i (by omega)).1 hi) hn
    refine vX12_saidMany_4 ⟨fun c => absurd c (hM.le hi), fun _ => ⟨vp_in_nI (by omega) (by decide), ?_⟩⟩
    rw [nI_ix (n := i) (by omega), hS i hi, hx]
    refine ⟨fun c => ⟨_, tr0, fun r5 S4 q => ?_⟩, fun c => ⟨_, tr1, fun r5 S4 q => ?_⟩⟩
    · obtain ⟨q1, q2⟩ := q
      subst q1 q2
      rw [ct_f (i := i) (by simp [c]), nI_succ i] at ih
      rw [Int32.add_zero]
      exact ih
    · obtain ⟨q1, q2⟩ := q
      subst q1 q2
      rw [← ct_t (i := i) (by simp [c]), nI_succ i] at ih
      exact ih
theorem sp_isFeud {F : Nat → Nat} {a b : Nat} (hM : MX S n) (hF : ∀ i, i < 5 → S.1 29 i = nI (F i) ∧ F i < 2 ^ n) (ha : a < 5) (hb : b < 5) : Ex G mX12_isFeud 1 [.ref 412, .int (nI a), .int (nI b)] S (fun r S1 => r = bI ((F a).testBit b) ∧ S1 = S) := by
  have hn := hM.n5
  have e1 := ix_add (a := 10) (i := a) (by omega)
  refine eX12_isFeud (vX12_isFeud_0 ⟨in_add (a := 10) (by omega) (by decide), ?_⟩)
  rw [show ((10 : Int32) + nI a).toNatClampNeg = 10 + a from e1, hM.2.2.2.1.2.2.1 a ha, (hF a ha).1, sr5 _ (pow5l hn (hF a ha).2) b hb]
  refine ⟨fun c => ⟨?_, rfl⟩, fun c => ⟨?_, rfl⟩⟩
  · rw [Bool.not_eq_true] at c
    rw [c]
    rfl
  · rw [c]
    rfl
theorem sp_isStone (hM : MX S n) (hV : VN n nm) (hS : SY S n nm) : Ex G mX12_isStone 2 [.ref 412] S (fun r S1 => r = bI (gSt S nm) ∧ S1 = S) := by
  have hn := hM.n5
  obtain ⟨F, hF⟩ := hM.2.2.2.2.1
  rw [gSt_any hn hV hF]
  have hx : ∀ i, i < n → (S.1 427 i < 0 ↔ nm i = -1) := fun i hi => by rw [hS i hi]; exact nm_neg ((hV i (by omega)).1 hi) hn
  have b01 : ∀ b : Bool, bI b = 0 ∨ bI b = 1 := by decide
  refine eX12_isStone (vX12_isStone_0 (loopUp (n := n) (P := fun i => RM G mX12_isStone 2 _ 4 [some (.ref 412), some (.int (bI (anyN i (fun i => anyN i (stP F nm i))))), some (.int (nI i)), none] [] S) ?_ ?_ 0 (by omega)))
  · exact vX12_isStone_4 ⟨fun _ => ⟨b01 _, rfl, rfl⟩, fun c => absurd hM.ge c⟩
  · intro i hi ih
    refine vX12_isStone_4 ⟨fun c => absurd c (hM.le hi), fun _ => ?_⟩
    refine loopUp (n := i) (P := fun j => RM G mX12_isStone 2 _ 14 [some (.ref 412), some (.int (bI (anyN i (fun i => anyN i (stP F nm i)) || anyN j (stP F nm i)))), some (.int (nI i)), some (.int (nI j))] [] S) ?_ ?_ 0 (by omega) |> fun h => by rw [show bI (anyN i (fun i => anyN i (stP F nm i))) = bI (anyN i (fun i => anyN i (stP F nm i)) || anyN 0 (stP F nm i)) by simp [anyN]]; exact h
    · rw [nI_succ i] at ih
      exact vX12_isStone_14 ⟨fun _ => ih, fun c => absurd (Int32.le_refl _) c⟩
    · intro j hj ih2
      rw [anyN, ← Bool.or_assoc, nI_succ j] at ih2
      generalize hb : (anyN i (fun i => anyN i (stP F nm i)) || anyN j (stP F nm i)) = b at ih2 ⊢
      refine vX12_isStone_14 ⟨fun c => absurd ((nI_le_i (by omega) (by omega)).mp c) (by omega), fun _ => ⟨fun c => ?_, fun c => ⟨vp_in_nI (by omega) (by decide), ?_⟩⟩⟩
      · cases b
        · exact absurd rfl c
        · exact ih2
      · cases b
        · rw [nI_ix (n := i) (by omega), nI_ix (n := j) (by omega), hx i hi, hx j (by omega)]
          refine ⟨fun d => ?_, fun d => ⟨vp_in_nI (by omega) (by decide), fun d2 => ?_, fun d2 => ⟨_, sp_isFeud hM hF.1 (by omega) (by omega), fun r7 S6 q => ?_⟩⟩⟩
          · rw [show stP F nm i j = false by simp [stP, d]] at ih2
            exact ih2
          · rw [show stP F nm i j = false by simp [stP, d2]] at ih2
            exact ih2
          · obtain ⟨q1, q2⟩ := q
            subst q1 q2
            rw [show stP F nm i j = (F i).testBit j by simp [stP, d, d2], Bool.false_or] at ih2
            refine ⟨fun c2 => ?_, fun c2 => ?_⟩
            · rw [bI_0] at c2
              rw [c2] at ih2
              exact ih2
            · rw [bI_0, Bool.not_eq_false] at c2
              rw [c2] at ih2
              exact ih2
        · exact absurd c (by decide)
theorem sp_namers {w : Nat} (hM : MX S n) (hV : VN n nm) (hS : SY S n nm) : Ex G mX12_namers 2 [.ref 412, .int (nI w)] S (fun r S1 => r = nI (fb_ct (fun i => decide (nm i = nI w)) n) ∧ S1 = S) := by
  have hn := hM.n5
  refine eX12_namers (vX12_namers_0 (loopUp (n := n) (P := fun i => RM G mX12_namers 2 _ 4 [some (.ref 412), some (.int (nI w)), some (.int (nI (fb_ct (fun i => decide (nm i = nI w)) i))), some (.int (nI i))] [] S) ?_ ?_ 0 (by omega)))
  · exact vX12_namers_4 ⟨fun _ => ⟨rfl, rfl⟩, fun c => absurd hM.ge c⟩
  · intro i hi ih
    refine vX12_namers_4 ⟨fun c => absurd c (hM.le hi), fun _ => ⟨vp_in_nI (by omega) (by decide), ?_⟩⟩
    rw [nI_ix (n := i) (by omega), hS i hi]
    refine ⟨fun c => ⟨_, tr0, fun r5 S4 q => ?_⟩, fun c => ⟨_, tr1, fun r5 S4 q => ?_⟩⟩
    · obtain ⟨q1, q2⟩ := q
      subst q1 q2
      rw [ct_f (i := i) (by simp [c]), nI_succ i] at ih
      rw [Int32.add_zero]
      exact ih
    · obtain ⟨q1, q2⟩ := q
      subst q1 q2
      rw [← ct_t (i := i) (by simp [c]), nI_succ i] at ih
      exact ih
theorem gCt_n {w : Nat} (hn : n ≤ 5) (hw : w < 5) (hV : VN n nm) : gCt nm (nI w) = fb_ct (fun i => decide (nm i = nI w)) n := ct5 hn (fun i h1 h2 => by
  rw [(hV i h2).2 h1]
  exact decide_eq_false (fun z => nI_m1 hw z.symm))
theorem sp_loafOf {s : Nat} {sd : Int32} (hM : MX S n) (hs : s < 5) : Ex G mX12_loafOf 4 [.ref 412, .int (nI s), .int sd] S (fun r S1 => r = LF S (S.1 25 s) (S.1 27 s) (S.1 28 s) (S.1 24 7) sd ∧ Fr [420, 421] S S1) := by
  obtain ⟨fl, hf⟩ := hM.2.2.1
  have e1 := ix_add (a := 15) (i := s) (by omega)
  have e2 := ix_add (a := 20) (i := s) (by omega)
  refine eX12_loafOf (vX12_loafOf_0 ⟨vp_in_nI (by omega) (by decide), in_add (a := 15) (by omega) (by decide), in_add (a := 20) (by omega) (by decide), _, sp_mLoaf hf, fun r S1 q => ?_⟩)
  rw [nI_ix (n := s) (by omega), show ((15 : Int32) + nI s).toNatClampNeg = 15 + s from e1, show ((20 : Int32) + nI s).toNatClampNeg = 20 + s from e2] at q
  obtain ⟨a1, a2, a3, a4, a5, a6, a7, a8, a9⟩ := hM.2.2.2.1
  rw [a1 s hs, a4 s hs, a5 s hs, a8] at q
  exact q
end
