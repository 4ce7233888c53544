/-! ===== course: how many LOAVES tell a group apart ===== -/
def smk (A : Nat → Int32) (c g j : Nat) : Nat := mk (fun i => g.testBit i && decide (A i = A j)) c
def bhF (g : Nat) (V : Nat → Nat) : Nat → Nat
  | 0 => 0
  | i + 1 => if g.testBit i then max (bhF g V i) (V i) else bhF g V i
def mnF (W : Nat → Nat) : Nat → Nat
  | 0 => 99
  | h + 1 => min (mnF W h) (1 + W h)
def bgF (W : Nat → Nat) : Nat → Int32
  | 0 => -1
  | h + 1 => if 1 + W h < mnF W h then nI h else bgF W h
def Vp (A : Nat → Nat → Int32) (c : Nat) (L : Nat → Nat) (g h j : Nat) : Nat := if smk (A h) c g j = g then 99 else L (smk (A h) c g j)
def Wp (A : Nat → Nat → Int32) (c : Nat) (L : Nat → Nat) (g h : Nat) : Nat := bhF g (Vp A c L g h) c
def pcN (c g : Nat) : Nat := fb_ct (fun i => g.testBit i) c
def lnF (A : Nat → Nat → Int32) (c : Nat) : Nat → Nat → Nat
  | 0, _ => 0
  | f + 1, g => if pcN c g ≤ 1 then 0 else mnF (Wp A c (lnF A c f) g) 10
theorem bh_cg {g : Nat} {V V' : Nat → Nat} : ∀ i, (∀ j, j < i → g.testBit j = true → V j = V' j) → bhF g V i = bhF g V' i
  | 0, _ => rfl
  | i + 1, h => by
    rw [bhF, bhF, bh_cg i (fun j hj => h j (by omega))]
    split
    · next z => rw [h i (by omega) z]
    · rfl
theorem bh_b {g f : Nat} {V : Nat → Nat} (h : ∀ j, V j ≤ f ∨ V j = 99) : ∀ i, bhF g V i ≤ f ∨ bhF g V i = 99
  | 0 => Or.inl (Nat.zero_le _)
  | i + 1 => by
    rw [bhF]
    have h1 := bh_b (g := g) h i
    have h2 := h i
    by_cases hf : f ≤ 99
    · split
      · rw [Nat.max_def]
        split <;> omega
      · exact h1
    · left
      split
      · rw [Nat.max_def]
        split <;> omega
      · omega
theorem mn_b {f : Nat} {W : Nat → Nat} (h : ∀ j, W j ≤ f ∨ W j = 99) : ∀ i, mnF W i ≤ f + 1 ∨ mnF W i = 99
  | 0 => Or.inr rfl
  | i + 1 => by
    rw [mnF]
    have h1 := mn_b h i
    have h2 := h i
    rw [Nat.min_def]
    split <;> omega
theorem mnF_le {W : Nat → Nat} : ∀ i, mnF W i ≤ 99
  | 0 => Nat.le_refl _
  | i + 1 => by
    rw [mnF]
    have := mnF_le (W := W) i
    omega
theorem mn_pos {W : Nat → Nat} : ∀ i, 1 ≤ mnF W i
  | 0 => by simp [mnF]
  | i + 1 => by
    rw [mnF]
    have := mn_pos (W := W) i
    omega
theorem ln_b {A : Nat → Nat → Int32} {c : Nat} : ∀ f g, lnF A c f g ≤ f ∨ lnF A c f g = 99
  | 0, _ => Or.inl (Nat.le_refl _)
  | f + 1, g => by
    rw [lnF]
    split
    · exact Or.inl (Nat.zero_le _)
    · refine mn_b (fun h => bh_b (fun j => ?_) c) 10
      unfold Vp
      split
      · exact Or.inr rfl
      · exact ln_b f _
theorem smk_lt {A : Nat → Int32} {c g j : Nat} : smk A c g j < 2 ^ c := mk_lt _ _
theorem smk_bit {A : Nat → Int32} {c g j i : Nat} : (smk A c g j).testBit i = (decide (i < c) && (g.testBit i && decide (A i = A j))) := mk_bit _ _ _
theorem ct_lt {p q : Nat → Bool} {n i : Nat} (h : ∀ k, k < n → p k = true → q k = true) (hi : i < n) (h1 : p i = false) (h2 : q i = true) : fb_ct p n < fb_ct q n := by
  have e1 := fb_ct_upd p true hi
  rw [h1] at e1
  simp only [if_true] at e1
  have e2 : fb_ct (fun k => if k = i then true else p k) n ≤ fb_ct q n := fb_ct_sub (fun k hk z => by
    by_cases e : k = i
    · rw [e]; exact h2
    · simp only [if_neg e] at z
      exact h k hk z)
  have : (if false = true then 1 else 0 : Nat) = 0 := rfl
  omega
theorem smk_pc {A : Nat → Int32} {c g j : Nat} (hg : g < 2 ^ c) (hne : ¬ smk A c g j = g) : pcN c (smk A c g j) < pcN c g := by
  have : ∃ i, i < c ∧ g.testBit i = true ∧ (smk A c g j).testBit i = false := by
    apply Classical.byContradiction
    intro z
    apply hne
    have e : smk A c g j = mk (fun i => g.testBit i) c := by
      refine mk_ext (fun i hi => ?_)
      cases h1 : g.testBit i with
      | false => rfl
      | true =>
        cases h2 : (smk A c g j).testBit i with
        | false => exact absurd ⟨i, hi, h1, h2⟩ z
        | true =>
          rw [smk_bit, h1] at h2
          simpa [hi] using h2
    rw [e, mk_self hg]
  obtain ⟨i, hi, h1, h2⟩ := this
  refine ct_lt (fun k hk z => ?_) hi h2 h1
  rw [smk_bit] at z
  cases hb : g.testBit k with
  | true => rfl
  | false =>
    rw [hb] at z
    simp at z
theorem ln_fu {A : Nat → Nat → Int32} {c : Nat} : ∀ f1 f2 g, g < 2 ^ c → pcN c g ≤ f1 → pcN c g ≤ f2 → lnF A c f1 g = lnF A c f2 g
  | 0, 0, _, _, _, _ => rfl
  | 0, f2 + 1, g, _, h, _ => by rw [lnF, lnF, if_pos (by omega)]
  | f1 + 1, 0, g, _, _, h => by rw [lnF, lnF, if_pos (by omega)]
  | f1 + 1, f2 + 1, g, hg, h1, h2 => by
    rw [lnF, lnF]
    split
    · rfl
    · congr 1
      funext h
      refine bh_cg c (fun j _ _ => ?_)
      unfold Vp
      split
      · rfl
      · next z =>
        have := smk_pc hg z
        exact ln_fu f1 f2 _ smk_lt (by omega) (by omega)
section
variable {A : Nat → Nat → Int32} {c g : Nat}
def lnT (A : Nat → Nat → Int32) (c g : Nat) : Nat := lnF A c 10 g
theorem ln_eq (f g : Nat) : lnF A c (f + 1) g = (if pcN c g ≤ 1 then 0 else mnF (Wp A c (lnF A c f) g) 10) := by rw [lnF]
theorem lnT_b : lnT A c g ≤ 10 ∨ lnT A c g = 99 := ln_b 10 g
theorem lnT_0 (h : pcN c g ≤ 1) : lnT A c g = 0 := by
  unfold lnT
  rw [lnF, if_pos h]
theorem Wp_cg {L L' : Nat → Nat} (h : ∀ q, q < 2 ^ c → pcN c q < pcN c g → L q = L' q) (hg : g < 2 ^ c) : Wp A c L g = Wp A c L' g := by
  funext t
  refine bh_cg c (fun j _ _ => ?_)
  unfold Vp
  split
  · rfl
  · next z => exact h _ smk_lt (smk_pc hg z)
theorem lnT_e : lnT A c = lnF A c (9 + 1) := rfl
theorem lnT_s (hc : c ≤ 10) (hg : g < 2 ^ c) (h : ¬ pcN c g ≤ 1) : lnT A c g = mnF (Wp A c (lnT A c) g) 10 := by
  have hp : pcN c g ≤ c := fb_ct_le _ _
  rw [lnT_e, ln_eq, if_neg h]
  rw [Wp_cg (L' := lnF A c (9 + 1)) (fun q hq hpq => ?_) hg]
  exact ln_fu 9 (9 + 1) q hq (by omega) (by omega)
theorem Wp_b {h : Nat} : Wp A c (lnT A c) g h ≤ 10 ∨ Wp A c (lnT A c) g h = 99 := by
  refine bh_b (fun j => ?_) c
  unfold Vp
  split
  · exact Or.inr rfl
  · exact lnT_b
/-- who is still left at i -/
def lfP (A : Nat → Int32) (g i : Nat) : Nat → Bool := fun j => g.testBit j && !anyN i (fun k => g.testBit k && decide (A k = A j))
theorem lf_0 {A : Nat → Int32} (hg : g < 2 ^ c) : mk (lfP A g 0) c = g := by
  have : lfP A g 0 = fun i => g.testBit i := by
    funext i
    simp [lfP, anyN]
  rw [this, mk_self hg]
theorem V_eq {L : Nat → Nat} {h i j : Nat} (e : A h i = A h j) : Vp A c L g h i = Vp A c L g h j := by
  unfold Vp smk
  rw [e]
theorem V_le {V : Nat → Nat} {j : Nat} (hj : g.testBit j = true) : ∀ i, j < i → V j ≤ bhF g V i
  | 0, h => absurd h (by omega)
  | i + 1, h => by
    rw [bhF]
    by_cases e : j = i
    · rw [e] at hj
      rw [hj, e]
      simp only [if_true]
      omega
    · have := V_le (V := V) hj i (by omega)
      split <;> omega
/-- nobody is left: the rest tells nothing new -/
theorem bh_all {L : Nat → Nat} {h : Nat} : ∀ k i, i + k = c → (∀ j, i ≤ j → j < c → lfP (A h) g i j = false) → bhF g (Vp A c L g h) c = bhF g (Vp A c L g h) i
  | 0, i, e, _ => by rw [show c = i by omega]
  | k + 1, i, e, hz => by
    have hs : bhF g (Vp A c L g h) (i + 1) = bhF g (Vp A c L g h) i := by
      rw [bhF]
      split
      · next z =>
        have := hz i (Nat.le_refl _) (by omega)
        rw [lfP, z, Bool.true_and] at this
        have ha : anyN i (fun k => g.testBit k && decide (A h k = A h i)) = true := by
          revert this
          cases anyN i (fun k => g.testBit k && decide (A h k = A h i)) <;> decide
        obtain ⟨j, hj, hb⟩ := anyN_iff.mp ha
        rw [Bool.and_eq_true, decide_eq_true_eq] at hb
        have h1 := V_le (V := Vp A c L g h) hb.1 i hj
        rw [V_eq hb.2] at h1
        omega
      · rfl
    rw [← hs]
    refine bh_all k (i + 1) (by omega) (fun j h1 h2 => ?_)
    have := hz j (by omega) h2
    unfold lfP at this ⊢
    rw [anyN]
    revert this
    cases g.testBit j <;> cases anyN i (fun k => g.testBit k && decide (A h k = A h j)) <;> simp
/-- i isn't left: nothing changes -/
theorem bh_no {L : Nat → Nat} {h i : Nat} (hi : i < c) (hz : lfP (A h) g i i = false) : bhF g (Vp A c L g h) (i + 1) = bhF g (Vp A c L g h) i ∧ mk (lfP (A h) g (i + 1)) c = mk (lfP (A h) g i) c := by
  cases z : g.testBit i with
  | false =>
    refine ⟨by rw [bhF, z]; rfl, mk_ext (fun j hj => ?_)⟩
    unfold lfP
    rw [anyN, z, Bool.false_and, Bool.or_false]
  | true =>
    rw [lfP, z, Bool.true_and] at hz
    have ha : anyN i (fun k => g.testBit k && decide (A h k = A h i)) = true := by
      revert hz
      cases anyN i (fun k => g.testBit k && decide (A h k = A h i)) <;> decide
    obtain ⟨j, hj, hb⟩ := anyN_iff.mp ha
    rw [Bool.and_eq_true, decide_eq_true_eq] at hb
    have h1 := V_le (V := Vp A c L g h) hb.1 i hj
    rw [V_eq hb.2] at h1
    refine ⟨?_, mk_ext (fun k hk => ?_)⟩
    · rw [bhF, z]
      simp only [if_true]
      omega
    · unfold lfP
      rw [anyN, z, Bool.true_and]
      by_cases e : A h i = A h k
      · rw [anyN_iff.mpr ⟨j, hj, by rw [hb.1, hb.2, e]; simp⟩]
        rfl
      · simp [e]
theorem lf_s {h i : Nat} (hi : g.testBit i = true) : mk (fun j => lfP (A h) g i j && !(g.testBit j && decide (A h j = A h i))) c = mk (lfP (A h) g (i + 1)) c := by
  refine mk_ext (fun j hj => ?_)
  unfold lfP
  rw [anyN, hi, Bool.true_and]
  have e : decide (A h j = A h i) = decide (A h i = A h j) := by
    by_cases z : A h i = A h j
    · simp [z]
    · have z2 : ¬ A h j = A h i := fun y => z (Eq.symm y)
      simp [z, z2]
  rw [e]
  cases g.testBit j <;> cases anyN i (fun k => g.testBit k && decide (A h k = A h j)) <;> cases decide (A h i = A h j) <;> rfl
/-- the first heat that is best -/
theorem bg_first {W : Nat → Nat} : ∀ k, mnF W k < 99 → ∃ h, h < k ∧ bgF W k = nI h ∧ 1 + W h = mnF W k ∧ ∀ h', h' < h → ¬ 1 + W h' = mnF W k
  | 0, h => absurd h (by simp [mnF])
  | k + 1, hk => by
    rw [mnF] at hk
    by_cases e : 1 + W k < mnF W k
    · refine ⟨k, by omega, by rw [bgF, if_pos e], by rw [mnF]; omega, fun h' hh => ?_⟩
      have : ∀ k h', h' < k → mnF W k ≤ 1 + W h' := by
        intro k
        induction k with
        | zero => intro h' z; omega
        | succ k ih =>
          intro h' z
          rw [mnF]
          by_cases y : h' = k
          · rw [y]; omega
          · have := ih h' (by omega); omega
      have h3 := this k h' hh
      rw [mnF]
      omega
    · obtain ⟨h, h1, h2, h3, h4⟩ := bg_first (W := W) k (by omega)
      have em : mnF W (k + 1) = mnF W k := by rw [mnF]; omega
      refine ⟨h, by omega, by rw [bgF, if_neg e]; exact h2, by rw [em]; exact h3, fun h' hh => by rw [em]; exact h4 h' hh⟩
end
/-- those who fit, one behind another -/
def cdF (p : Nat → Bool) : Nat → Nat → Int32
  | 0 => fun _ => 0
  | N + 1 => if p N then upd (cdF p N) (fb_ct p N) (nI N) else cdF p N
theorem cd_at {p : Nat → Bool} : ∀ {N d : Nat}, d < N → p d = true → cdF p N (fb_ct p d) = nI d
  | 0, d, h, _ => absurd h (by omega)
  | N + 1, d, h, hp => by
    rw [cdF]
    by_cases e : d = N
    · subst e
      rw [if_pos hp]
      simp [upd]
    · have h1 := cd_at (p := p) (N := N) (d := d) (by omega) hp
      split
      · have h2 : fb_ct p (d + 1) ≤ fb_ct p N := fb_ct_mono p (by omega)
        rw [fb_ct_succ, hp] at h2
        simp only [if_true] at h2
        have h3 : ¬ fb_ct p d = fb_ct p N := by omega
        simp only [upd, if_neg h3]
        exact h1
      · exact h1
