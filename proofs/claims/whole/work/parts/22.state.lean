/-! ===== bits, counts ===== -/
def bI (b : Bool) : Int32 := if b then 1 else 0
def anyN : Nat → (Nat → Bool) → Bool
  | 0, _ => false
  | n + 1, p => anyN n p || p n
theorem anyN_iff {p : Nat → Bool} : ∀ {n : Nat}, anyN n p = true ↔ ∃ i, i < n ∧ p i = true
  | 0 => by simp [anyN]
  | n + 1 => by
    rw [anyN, Bool.or_eq_true, anyN_iff]
    constructor
    · rintro (⟨i, h1, h2⟩ | h)
      · exact ⟨i, by omega, h2⟩
      · exact ⟨n, by omega, h⟩
    · rintro ⟨i, h1, h2⟩
      rcases Nat.lt_succ_iff_lt_or_eq.mp h1 with h | h
      · exact Or.inl ⟨i, h, h2⟩
      · subst h
        exact Or.inr h2
def mk (p : Nat → Bool) : Nat → Nat
  | 0 => 0
  | n + 1 => if p n then mk p n ||| 2 ^ n else mk p n
theorem mk_bit (p : Nat → Bool) (j : Nat) : ∀ n, (mk p n).testBit j = (decide (j < n) && p j)
  | 0 => by simp [mk]
  | n + 1 => by
    rw [mk]
    by_cases hj : j = n
    · subst hj
      cases h : p j <;> simp [h, mk_bit p j j, Nat.testBit_or, Nat.testBit_two_pow]
    · have e : decide (j < n + 1) = decide (j < n) := by
        apply decide_eq_decide.mpr
        omega
      have e2 : ¬ n = j := fun q => hj q.symm
      cases h : p n <;> simp [mk_bit p j n, Nat.testBit_or, Nat.testBit_two_pow, e, e2]
theorem mk_lt (p : Nat → Bool) : ∀ n, mk p n < 2 ^ n
  | 0 => by simp [mk]
  | n + 1 => by
    have ih := mk_lt p n
    rw [mk]
    split
    · exact Nat.or_lt_two_pow (by rw [Nat.pow_succ]; omega) (by rw [Nat.pow_succ]; have := Nat.two_pow_pos n; omega)
    · rw [Nat.pow_succ]
      omega
theorem sh1 : ∀ i, i < 32 → (1 : Int32) <<< (nI i &&& 31) = nI (2 ^ i) := by decide +kernel
theorem mk_t {p : Nat → Bool} {i : Nat} (hi : i < 32) (h : p i = true) : nI (mk p i) ||| (1 <<< (nI i &&& 31)) = nI (mk p (i + 1)) := by
  rw [sh1 i hi, fa_or, mk, if_pos h]
theorem mk_f {p : Nat → Bool} {i : Nat} (h : p i = false) : mk p (i + 1) = mk p i := by
  rw [mk, if_neg (by rw [h]; decide)]
theorem bit_iff {g i : Nat} (hi : i < 31) : (nI g &&& (1 <<< (nI i &&& 31))) = 0 ↔ g.testBit i = false := by
  rw [sh1 i (by omega)]
  exact fa_bit hi
/-! ===== the State's methods ===== -/
def fillR (f : Nat → Int32) (n : Nat) (v : Int32) : Nat → Int32 := fun j => if j < n then v else f j
theorem sp_fill {G : ovG} {S : ovS} {oa n : Nat} {v : Int32} (hc : ocl oa = 14) (hn : oln oa = n) (hb : n < 2147483648) : Ex G mJ7_fill_53178 1 [.ref oa, .int v] S (fun _ S1 => S1 = seI S oa (fillR (S.1 oa) n v)) := by
  refine eJ7_fill_53178 (vJ7_fill_53178_0 hc hn ?_)
  have key : ∀ k i : Nat, i + k = n → RM G mJ7_fill_53178 1 (fun _ S1 => S1 = seI S oa (fillR (S.1 oa) n v)) 5 [some (.ref oa), some (.int v), some (.int (nI i)), some (.int (Int32.ofNat n))] [] (seI S oa (fillR (S.1 oa) i v)) := by
    intro k
    induction k with
    | zero =>
      intro i hi
      have : i = n := by omega
      subst this
      exact vJ7_fill_53178_5 hc hn ⟨fun _ => rfl, fun c => absurd (Int32.le_refl _) c⟩
    | succ k ih =>
      intro i hi
      refine vJ7_fill_53178_5 hc hn ⟨fun c => ?_, fun _ => ⟨vp_in_nI (by omega) hb, fun S2 e2 => ?_⟩⟩
      · have := (nI_le_i (a := n) (b := i) hb (by omega)).mp c
        omega
      · have := ih (i + 1) (by omega)
        rw [nI_succ] at this
        rw [e2, nI_ix (by omega)]
        have e3 : stI (seI S oa (fillR (S.1 oa) i v)) oa i v = seI S oa (fillR (S.1 oa) (i + 1) v) := by
          simp only [stI, seI, va_up_self]
          congr 1
          funext a
          by_cases ha : a = oa
          · subst ha
            simp only [va_up_self]
            funext j
            simp only [upd, fillR]
            by_cases hj : j = i
            · subst hj
              simp
            · rw [if_neg hj]
              by_cases hj2 : j < i
              · rw [if_pos hj2, if_pos (by omega)]
              · rw [if_neg hj2, if_neg (by omega)]
          · simp only [va_up, if_neg ha]
        rw [e3]
        exact this
  have h0 := key n 0 (by omega)
  have e0 : seI S oa (fillR (S.1 oa) 0 v) = S := by
    have : fillR (S.1 oa) 0 v = S.1 oa := by funext j; simp [fillR]
    rw [this]
    simp only [seI]
    refine Prod.ext ?_ rfl
    funext a
    by_cases ha : a = oa
    · subst ha; simp [va_up]
    · simp [va_up, ha]
  rw [e0] at h0
  exact h0
theorem seI_row {S : ovS} {o a : Nat} {f : Nat → Int32} (h : a ≠ o) : (seI S o f).1 a = S.1 a := by simp [seI, va_up, h]
theorem seI_self {S : ovS} {o : Nat} {f : Nat → Int32} : (seI S o f).1 o = f := by simp [seI, va_up]
theorem cpI_row {S : ovS} {o o2 sp dp n a : Nat} (h : a ≠ o2) : (cpI S o o2 sp dp n).1 a = S.1 a := by rw [cpI_1, if_neg h]
theorem cpI_self {S : ovS} {o o2 n j : Nat} (h : j < n) : (cpI S o o2 0 0 n).1 o2 j = S.1 o j := by
  rw [cpI_1, if_pos rfl, va_cpy, if_pos ⟨Nat.zero_le _, by omega⟩, Nat.sub_zero, Nat.zero_add]
theorem Fr.se {L : List Nat} {S S1 : ovS} (h : Fr L S S1) {o : Nat} {f : Nat → Int32} (ho : L.contains o = true) : Fr L S (seI S1 o f) := by
  refine ⟨fun k hk => ?_, h.2⟩
  have hne : k ≠ o := fun e => by subst e; rw [ho] at hk; cases hk
  rw [seI_row hne]
  exact h.1 k hk
theorem sp_sayers {G : ovG} {S : ovS} : Ex G mX9_sayers 1 [.ref 24] S (fun r S1 => r = nI (mk (fun i => decide (¬ S.1 26 i = -1)) 5) ∧ S1 = S) := by
  refine eX9_sayers (vX9_sayers_0 (loopUp (n := 5) (P := fun i => RM G mX9_sayers 1 _ 4 [some (.ref 24), some (.int (nI (mk (fun i => decide (¬ S.1 26 i = -1)) i))), some (.int (nI i))] [] S) ?_ ?_ 0 (by decide)))
  · exact vX9_sayers_4 ⟨fun _ => ⟨rfl, rfl⟩, fun c => absurd (by decide) c⟩
  · intro i hi ih
    refine vX9_sayers_4 ⟨fun c => absurd ((nI_le_i (a := 5) (by decide) (by omega)).mp c) (by omega), fun _ => ⟨vp_in_nI hi (by decide), fun c => ?_, fun c => ?_⟩⟩
    · rw [nI_ix (by omega)] at c
      rw [mk_f (i := i) (by simp [c]), nI_succ i] at ih
      exact ih
    · rw [nI_ix (by omega)] at c
      rw [← mk_t (i := i) (by omega) (by simp [c]), nI_succ i] at ih
      exact ih
theorem sp_sayersOf {G : ovG} {S : ovS} {w : Int32} : Ex G mX9_sayersOf 1 [.ref 24, .int w] S (fun r S1 => r = nI (mk (fun i => decide (S.1 26 i = w)) 5) ∧ S1 = S) := by
  refine eX9_sayersOf (vX9_sayersOf_0 (loopUp (n := 5) (P := fun i => RM G mX9_sayersOf 1 _ 4 [some (.ref 24), some (.int w), some (.int (nI (mk (fun i => decide (S.1 26 i = w)) i))), some (.int (nI i))] [] S) ?_ ?_ 0 (by decide)))
  · exact vX9_sayersOf_4 ⟨fun _ => ⟨rfl, rfl⟩, fun c => absurd (by decide) c⟩
  · intro i hi ih
    refine vX9_sayersOf_4 ⟨fun c => absurd ((nI_le_i (a := 5) (by decide) (by omega)).mp c) (by omega), fun _ => ⟨vp_in_nI hi (by decide), fun c => ?_, fun c => ?_⟩⟩
    · rw [nI_ix (by omega)] at c
      rw [mk_f (i := i) (by simp [c]), nI_succ i] at ih
      exact ih
    · rw [nI_ix (by omega)] at c
      rw [← mk_t (i := i) (by omega) (by simp [c]), nI_succ i] at ih
      exact ih
/-- a group quarrels: a member has a FEUD with a member -/
def qrF (F : Nat → Int32) (x : Int32) : Nat → Bool := fun i => decide (¬ (x &&& (1 <<< (nI i &&& 31))) = 0) && decide (¬ (F i &&& x) = 0)
theorem sp_quarrel {G : ovG} {S : ovS} {x : Int32} : Ex G mX9_quarrel 1 [.ref 24, .int x] S (fun r S1 => r = bI (anyN 5 (qrF (S.1 29) x)) ∧ S1 = S) := by
  refine eX9_quarrel (vX9_quarrel_0 ?_)
  have key : ∀ k i : Nat, i + k = 5 → anyN i (qrF (S.1 29) x) = false → RM G mX9_quarrel 1 (fun r S1 => r = bI (anyN 5 (qrF (S.1 29) x)) ∧ S1 = S) 2 [some (.ref 24), some (.int x), some (.int (nI i))] [] S := by
    intro k
    induction k with
    | zero =>
      intro i hi hq
      have : i = 5 := by omega
      subst this
      exact vX9_quarrel_2 ⟨fun _ => ⟨by rw [hq]; rfl, rfl⟩, fun c => absurd (by decide) c⟩
    | succ k ih =>
      intro i hi hq
      have ih' := ih (i + 1) (by omega)
      rw [nI_succ] at ih'
      have hix : (nI i).toNatClampNeg = i := nI_ix (by omega)
      refine vX9_quarrel_2 ⟨fun c => absurd ((nI_le_i (a := 5) (by decide) (by omega)).mp c) (by omega), fun _ => ⟨fun c => ?_, fun c => ⟨vp_in_nI (by omega) (by decide), fun c2 => ?_, fun c2 => ?_⟩⟩⟩
      · exact ih' (by simp [anyN, hq, qrF, c])
      · rw [hix] at c2
        exact ih' (by simp [anyN, hq, qrF, c2])
      · rw [hix] at c2
        refine ⟨?_, rfl⟩
        have : anyN 5 (qrF (S.1 29) x) = true := anyN_iff.mpr ⟨i, by omega, by simp [qrF, c, c2]⟩
        rw [this]
        rfl
  exact key 5 0 (by decide) rfl
theorem sp_seedBehind {G : ovG} {S : ovS} {x : Int32} : Ex G mX9_seedBehind 1 [.int x] S (fun r S1 => r = orem ((x * 137) + 71) 1000 ∧ S1 = S) := eX9_seedBehind (vX9_seedBehind_0 ⟨rfl, rfl⟩)
theorem sp_heatOf {G : ovG} {S : ovS} {x : Int32} : Ex G mX9_heatOf 1 [.int x] S (fun r S1 => r = orem x 10 ∧ S1 = S) := eX9_heatOf (vX9_heatOf_0 ⟨rfl, rfl⟩)
/-- the State at oa is as the one at ob was -/
def stEq (S1 : ovS) (oa : Nat) (S : ovS) (ob : Nat) : Prop := (∀ r, 1 ≤ r → r ≤ 7 → ∀ j, j < 5 → S1.1 (oa + r) j = S.1 (ob + r) j) ∧ ∀ j, 7 ≤ j → j ≤ 9 → S1.1 oa j = S.1 ob j
theorem sp_take {G : ovG} {S : ovS} {oa ob : Nat} (ha : oa ∈ ovSt) (hb : ob ∈ ovSt) (hd : oa + 8 ≤ ob ∨ ob + 8 ≤ oa) : Ex G mX9_take 2 [.ref oa, .ref ob] S (fun _ S1 => stEq S1 oa S ob ∧ (∀ k, k < oa ∨ oa + 8 ≤ k → S1.1 k = S.1 k) ∧ S1.2 = S.2) := by
  refine eX9_take (vX9_take_0 ha hb ?_)
  intro S1 e1 S2 e2 S3 e3 S4 e4 S5 e5 S6 e6 S7 e7 S8 e8 S9 e9 S10 e10
  refine ⟨⟨fun r h1 h2 j hj => ?_, fun j h1 h2 => ?_⟩, fun k hk => ?_, by subst e10 e9 e8 e7 e6 e5 e4 e3 e2 e1; rfl⟩
  · have hr : r = 1 ∨ r = 2 ∨ r = 3 ∨ r = 4 ∨ r = 5 ∨ r = 6 ∨ r = 7 := by omega
    subst e10 e9 e8 e7 e6 e5 e4 e3 e2 e1
    rcases hr with rfl | rfl | rfl | rfl | rfl | rfl | rfl <;> simp (disch := omega) only [stI_row, cpI_row, cpI_self]
  · have hr : j = 7 ∨ j = 8 ∨ j = 9 := by omega
    subst e10 e9 e8 e7 e6 e5 e4 e3 e2 e1
    rcases hr with rfl | rfl | rfl <;> simp (disch := omega) [stI_row, cpI_row, cpI_self, stI_self, upd]
  · subst e10 e9 e8 e7 e6 e5 e4 e3 e2 e1
    simp (disch := omega) only [stI_row, cpI_row]
