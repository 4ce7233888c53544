/-! ===== pairs: blocks of SAYINGS ===== -/
def fvR {α : Type} (f : α → Nat → α) (a : α) (lo : Nat) : Nat → α
  | 0 => a
  | k + 1 => f (fvR f a lo k) (lo + k)
theorem fvR_0 {α : Type} (f : α → Nat → α) (a : α) : ∀ N, fvR f a 0 N = fvF f a N
  | 0 => rfl
  | N + 1 => by rw [fvR, fvF, fvR_0 f a N, Nat.zero_add]
theorem fvR_add {α : Type} (f : α → Nat → α) (a : α) (lo k : Nat) : ∀ m, fvR f a lo (k + m) = fvR f (fvR f a lo k) (lo + k) m
  | 0 => rfl
  | m + 1 => by rw [← Nat.add_assoc, fvR, fvR, fvR_add f a lo k m, Nat.add_assoc]
theorem fvR_id {α : Type} {f : α → Nat → α} {lo : Nat} (a : α) : ∀ m, (∀ k, k < m → ∀ b, f b (lo + k) = b) → fvR f a lo m = a
  | 0, _ => rfl
  | m + 1, h => by rw [fvR, fvR_id a m (fun k hk => h k (by omega)), h m (by omega)]
def okP (F : Nat → Nat) (q : Nat → Int32) (i : Nat) : Bool := decide (q i = -1) || (decide (¬ q i = nI i) && decide (q (q i).toNatClampNeg = nI i) && !((F i).testBit (q i).toNatClampNeg))
def okA (F : Nat → Nat) (n : Nat) (q : Nat → Int32) : Bool := !anyN n (fun i => !okP F q i)
theorem okA_f {F : Nat → Nat} {n i : Nat} {q : Nat → Int32} (hi : i < n) (h : okP F q i = false) : okA F n q = false := by
  unfold okA
  rw [anyN_iff.mpr ⟨i, hi, by rw [h]; rfl⟩]
  rfl
theorem okA_t {F : Nat → Nat} {n : Nat} {q : Nat → Int32} (h : ∀ i, i < n → okP F q i = true) : okA F n q = true := by
  unfold okA
  have : anyN n (fun i => !okP F q i) = false := by
    cases hc : anyN n (fun i => !okP F q i) with
    | false => rfl
    | true =>
      obtain ⟨i, hi, e⟩ := anyN_iff.mp hc
      rw [h i hi] at e
      cases e
  rw [this]
  rfl
def wtF (lo : Nat → Int32) (q : Nat → Int32) : Nat → Int32
  | 0 => 0
  | i + 1 => if q i ≤ nI i then wtF lo q i else wtF lo q i + omin (lo i) (lo (q i).toNatClampNeg)
theorem wtF_cg {lo q p : Nat → Int32} : ∀ i, (∀ j, j < i → q j = p j) → wtF lo q i = wtF lo p i
  | 0, _ => rfl
  | i + 1, h => by rw [wtF, wtF, wtF_cg i (fun j hj => h j (by omega)), h i (by omega)]
def stPr (F : Nat → Nat) (lo : Nat → Int32) (n : Nat) (a : Int32 × Option Nat) (v : Nat) : Int32 × Option Nat := if okA F n (nmv n v) = true ∧ ¬ wtF lo (nmv n v) n ≤ a.1 then (wtF lo (nmv n v) n, some v) else a
theorem dg_pre {n s T i : Nat} (hi : i < s) : ∀ (d u : Nat), u < (n + 1) ^ d → dgv n (s + d) (T * (n + 1) ^ d + u) i = dgv n s T i
  | 0, u, h => by
    have : u = 0 := by simpa using h
    rw [this, Nat.pow_zero, Nat.mul_one]
    rfl
  | d + 1, u, h => by
    have e : (T * (n + 1) ^ (d + 1) + u) / (n + 1) = T * (n + 1) ^ d + u / (n + 1) := by
      rw [Nat.pow_succ, ← Nat.mul_assoc, Nat.add_comm, Nat.add_mul_div_right _ _ (by omega), Nat.add_comm]
    rw [← Nat.add_assoc, dgv_up (by omega), e]
    refine dg_pre hi d (u / (n + 1)) ?_
    apply Nat.div_lt_of_lt_mul
    rw [← Nat.pow_succ']
    exact h
theorem dg_s {n s T t : Nat} (ht : t < n + 1) : dgv n (s + 1) (T * (n + 1) + t) s = nI t - 1 := by
  rw [dgv_k, Nat.add_comm, Nat.add_mul_mod_self_right, Nat.mod_eq_of_lt ht]
theorem dg_i {n s T t i : Nat} (ht : t < n + 1) (hi : i < s) : dgv n (s + 1) (T * (n + 1) + t) i = dgv n s T i := by
  have := dg_pre (n := n) (T := T) hi 1 t (by rw [Nat.pow_one]; exact ht)
  rw [Nat.pow_one] at this
  exact this
/-- the first s are paired by the number T -/
def PX (F : Nat → Nat) (n s T : Nat) (p : Nat → Int32) : Prop := (∀ i, i < s → p i = dgv n s T i) ∧ (∀ i, i < s → p i = -1 ∨ ∃ j, j < n ∧ p i = nI j ∧ j ≠ i ∧ p j = nI i ∧ (F i).testBit j = false) ∧ (∀ j, s ≤ j → j < n → p j = -1 ∨ ∃ i, i < s ∧ p j = nI i ∧ p i = nI j) ∧ (∀ j, n ≤ j → j < 5 → p j = -1)
theorem n5e {a b : Nat} (ha : a < 6) (hb : b < 6) : nI a = nI b ↔ a = b := nI_eq_i (by omega) (by omega)
theorem nm1 {a : Nat} (ha : a < 6) : ¬ nI a = -1 := by
  have : ∀ a, a < 6 → ¬ nI a = -1 := by decide
  exact this a ha
section
variable {F : Nat → Nat} {lo : Nat → Int32} {n s T : Nat} {p : Nat → Int32}
theorem PX.blk {t d u i : Nat} (h : PX F n s T p) (hd : s + 1 + d = n) (ht : t < n + 1) (hu : u < (n + 1) ^ d) (hi : i < s) : nmv n ((T * (n + 1) + t) * (n + 1) ^ d + u) i = p i := by
  have e := dg_pre (n := n) (s := s + 1) (T := T * (n + 1) + t) (i := i) (by omega) d u hu
  rw [hd] at e
  simp only [nmv, if_pos (show i < n by omega)]
  rw [e, dg_i ht hi, h.1 i hi]
theorem blk_s {t d u : Nat} (hd : s + 1 + d = n) (ht : t < n + 1) (hu : u < (n + 1) ^ d) : nmv n ((T * (n + 1) + t) * (n + 1) ^ d + u) s = nI t - 1 := by
  have e := dg_pre (n := n) (s := s + 1) (T := T * (n + 1) + t) (i := s) (by omega) d u hu
  rw [hd] at e
  simp only [nmv, if_pos (show s < n by omega)]
  rw [e, dg_s ht]
theorem skip {t d : Nat} (a : Int32 × Option Nat) (h : ∀ u, u < (n + 1) ^ d → okA F n (nmv n ((T * (n + 1) + t) * (n + 1) ^ d + u)) = false) : fvR (stPr F lo n) a ((T * (n + 1) + t) * (n + 1) ^ d) ((n + 1) ^ d) = a := by
  refine fvR_id a _ (fun k hk b => ?_)
  unfold stPr
  rw [if_neg (fun z => by rw [h k hk] at z; exact absurd z.1 (by decide))]
theorem nokA {t d u i : Nat} (hn : n ≤ 5) (h : PX F n s T p) (hd : s + 1 + d = n) (ht : t < n + 1) (hu : u < (n + 1) ^ d) (hi : i < s) (h1 : p s = nI i) (h2 : p i = nI s) (hne : t ≠ i + 1) : okA F n (nmv n ((T * (n + 1) + t) * (n + 1) ^ d + u)) = false := by
  refine okA_f (i := i) (by omega) ?_
  have q1 := h.blk hd ht hu hi
  have q2 := blk_s (T := T) hd ht hu
  generalize nmv n ((T * (n + 1) + t) * (n + 1) ^ d + u) = q at q1 q2
  rw [h2] at q1
  have q3 : ¬ q s = nI i := by
    rw [q2]
    have : ∀ t, t < 6 → ∀ i, i < 6 → t ≠ i + 1 → ¬ nI t - 1 = nI i := by decide
    exact this t (by omega) i (by omega) hne
  unfold okP
  rw [q1, nI_ix (by omega)]
  simp [q3, nm1 (show s < 6 by omega)]
theorem nokS {t d u : Nat} (hn : n ≤ 5) (h : PX F n s T p) (hd : s + 1 + d = n) (ht : t < n + 1) (hu : u < (n + 1) ^ d) (h1 : p s = -1) (ht0 : 1 ≤ t) (hts : t ≤ s + 1) : okA F n (nmv n ((T * (n + 1) + t) * (n + 1) ^ d + u)) = false := by
  refine okA_f (i := s) (by omega) ?_
  have q2 := blk_s (T := T) hd ht hu
  have q1 : ∀ i, i < s → nmv n ((T * (n + 1) + t) * (n + 1) ^ d + u) i = p i := fun i hi => h.blk hd ht hu hi
  generalize nmv n ((T * (n + 1) + t) * (n + 1) ^ d + u) = q at q1 q2
  obtain ⟨j, rfl⟩ : ∃ j, t = j + 1 := ⟨t - 1, by omega⟩
  rw [nI_pred] at q2
  unfold okP
  rw [q2, nI_ix (by omega)]
  have hm := nm1 (show j < 6 by omega)
  by_cases e : j = s
  · simp [e, nm1 (show s < 6 by omega)]
  · have hj : j < s := by omega
    have q3 : ¬ q j = nI s := by
      rw [q1 j hj]
      intro z
      rcases h.2.1 j hj with y | ⟨k, hk, y1, y2, y3, y4⟩
      · rw [y] at z
        exact nm1 (show s < 6 by omega) z.symm
      · rw [y1, n5e (by omega) (by omega)] at z
        subst z
        rw [h1] at y3
        exact nm1 (show j < 6 by omega) y3.symm
    simp [hm, q3]
theorem nokO {t d u o : Nat} (hn : n ≤ 5) (h : PX F n s T p) (hd : s + 1 + d = n) (ht : t < n + 1) (hu : u < (n + 1) ^ d) (ho : s < o) (hon : o < n) (hto : t = o + 1) (hb : ¬ p o = -1 ∨ (F s).testBit o = true) : okA F n (nmv n ((T * (n + 1) + t) * (n + 1) ^ d + u)) = false := by
  have q2 := blk_s (T := T) hd ht hu
  have q1 : ∀ i, i < s → nmv n ((T * (n + 1) + t) * (n + 1) ^ d + u) i = p i := fun i hi => h.blk hd ht hu hi
  generalize nmv n ((T * (n + 1) + t) * (n + 1) ^ d + u) = q at q1 q2
  rw [hto, nI_pred] at q2
  rcases hb with hb | hb
  · obtain ⟨i, hi, y1, y2⟩ := (h.2.2.1 o (by omega) hon).resolve_left hb
    by_cases e : q o = nI s
    · refine okA_f (i := i) (by omega) ?_
      unfold okP
      rw [q1 i hi, y2, nI_ix (by omega), e]
      have : ¬ nI s = nI i := by
        rw [n5e (by omega) (by omega)]
        omega
      simp [this, nm1 (show o < 6 by omega)]
    · refine okA_f (i := s) (by omega) ?_
      unfold okP
      rw [q2, nI_ix (by omega)]
      simp [e, nm1 (show o < 6 by omega)]
  · refine okA_f (i := s) (by omega) ?_
    unfold okP
    rw [q2, nI_ix (by omega), hb]
    simp [nm1 (show o < 6 by omega)]
theorem PX.a {i : Nat} (hn : n ≤ 5) (hs : s < n) (hF2 : ∀ i j, i < 5 → j < 5 → (F i).testBit j = (F j).testBit i) (h : PX F n s T p) (hi : i < s) (h1 : p s = nI i) (h2 : p i = nI s) : PX F n (s + 1) (T * (n + 1) + (i + 1)) p := by
  refine ⟨fun k hk => ?_, fun k hk => ?_, fun j h3 h4 => ?_, h.2.2.2⟩
  · by_cases e : k = s
    · rw [e, dg_s (by omega), nI_pred, h1]
    · rw [dg_i (by omega) (by omega)]
      exact h.1 k (by omega)
  · by_cases e : k = s
    · subst e
      refine Or.inr ⟨i, by omega, h1, by omega, h2, ?_⟩
      rcases h.2.1 i hi with y | ⟨j, hj, y1, y2, y3, y4⟩
      · rw [y] at h2
        exact absurd h2.symm (nm1 (by omega))
      · rw [y1, n5e (by omega) (by omega)] at h2
        subst h2
        rw [hF2 _ _ (by omega) (by omega)]
        exact y4
    · exact h.2.1 k (by omega)
  · rcases h.2.2.1 j (by omega) h4 with y | ⟨k, hk, y⟩
    · exact Or.inl y
    · exact Or.inr ⟨k, by omega, y⟩
theorem PX.b (hn : n ≤ 5) (hs : s < n) (h : PX F n s T p) (h1 : p s = -1) : PX F n (s + 1) (T * (n + 1) + 0) p := by
  refine ⟨fun k hk => ?_, fun k hk => ?_, fun j h3 h4 => ?_, h.2.2.2⟩
  · by_cases e : k = s
    · rw [e, dg_s (by omega), h1]
      decide
    · rw [dg_i (by omega) (by omega)]
      exact h.1 k (by omega)
  · by_cases e : k = s
    · rw [e]
      exact Or.inl h1
    · exact h.2.1 k (by omega)
  · rcases h.2.2.1 j (by omega) h4 with y | ⟨k, hk, y⟩
    · exact Or.inl y
    · exact Or.inr ⟨k, by omega, y⟩
theorem PX.c {o : Nat} (hn : n ≤ 5) (hs : s < o) (ho : o < n) (h : PX F n s T p) (h1 : p s = -1) (h2 : p o = -1) (hf : (F s).testBit o = false) : PX F n (s + 1) (T * (n + 1) + (o + 1)) (upd (upd p s (nI o)) o (nI s)) := by
  have us : upd (upd p s (nI o)) o (nI s) s = nI o := by simp [upd, show ¬ s = o by omega]
  have uo : upd (upd p s (nI o)) o (nI s) o = nI s := by simp [upd]
  have ux : ∀ k, k ≠ s → k ≠ o → upd (upd p s (nI o)) o (nI s) k = p k := fun k a b => by simp [upd, a, b]
  generalize upd (upd p s (nI o)) o (nI s) = p' at us uo ux
  refine ⟨fun k hk => ?_, fun k hk => ?_, fun j h3 h4 => ?_, fun j h3 h4 => ?_⟩
  · by_cases e : k = s
    · rw [e, dg_s (by omega), nI_pred, us]
    · rw [dg_i (by omega) (by omega), ux k e (by omega)]
      exact h.1 k (by omega)
  · by_cases e : k = s
    · rw [e]
      exact Or.inr ⟨o, ho, us, by omega, uo, hf⟩
    · rw [ux k e (by omega)]
      rcases h.2.1 k (by omega) with y | ⟨j, hj, y1, y2, y3, y4⟩
      · exact Or.inl y
      · refine Or.inr ⟨j, hj, y1, y2, ?_, y4⟩
        rw [ux j (fun z => ?_) (fun z => ?_)]
        · exact y3
        · rw [z, h1] at y3
          exact nm1 (show k < 6 by omega) y3.symm
        · rw [z, h2] at y3
          exact nm1 (show k < 6 by omega) y3.symm
  · by_cases e : j = o
    · rw [e]
      exact Or.inr ⟨s, by omega, uo, us⟩
    · rw [ux j (by omega) e]
      rcases h.2.2.1 j (by omega) h4 with y | ⟨k, hk, y1, y2⟩
      · exact Or.inl y
      · exact Or.inr ⟨k, by omega, y1, by rw [ux k (by omega) (by omega)]; exact y2⟩
  · rw [ux j (by omega) (by omega)]
    exact h.2.2.2 j h3 h4
theorem PX.ok (hn : n ≤ 5) (h : PX F n n T p) : okA F n p = true := by
  refine okA_t (fun i hi => ?_)
  unfold okP
  rcases h.2.1 i hi with y | ⟨j, hj, y1, y2, y3, y4⟩
  · simp [y]
  · have : ¬ nI j = nI i := by
      rw [n5e (by omega) (by omega)]
      exact y2
    rw [y1, nI_ix (by omega), y3, y4]
    simp [this]
theorem okP_cg {q : Nat → Int32} (hn : n ≤ 5) (h : VN n p) (e : ∀ i, i < n → q i = p i) : okA F n q = okA F n p := by
  have : ∀ i, i < n → okP F q i = okP F p i := by
    intro i hi
    unfold okP
    rw [e i hi]
    rcases (h i (by omega)).1 hi with y | ⟨w, hw, y⟩
    · simp [y]
    · rw [y, nI_ix (by omega), e w hw]
  unfold okA
  congr 1
  rw [Bool.eq_iff_iff, anyN_iff, anyN_iff]
  constructor
  · rintro ⟨i, h1, h2⟩
    exact ⟨i, h1, by rw [← this i h1]; exact h2⟩
  · rintro ⟨i, h1, h2⟩
    exact ⟨i, h1, by rw [this i h1]; exact h2⟩
end
