/-! ===== course: the class ===== -/
theorem omax_n {a b : Nat} (ha : a < 2147483648) (hb : b < 2147483648) : omax (nI a) (nI b) = nI (max a b) := by
  unfold omax
  by_cases h : a < b
  · rw [if_pos ((nI_lt_i ha hb).mpr h), Nat.max_eq_right (by omega)]
  · rw [if_neg (fun z => h ((nI_lt_i ha hb).mp z)), Nat.max_eq_left (by omega)]
theorem omin_n {a b : Nat} (ha : a < 2147483648) (hb : b < 2147483648) : omin (nI a) (nI b) = nI (min a b) := by
  unfold omin
  by_cases h : b < a
  · rw [if_pos ((nI_lt_i hb ha).mpr h), Nat.min_eq_right (by omega)]
  · rw [if_neg (fun z => h ((nI_lt_i hb ha).mp z)), Nat.min_eq_left (by omega)]
theorem pow10 {c : Nat} (h : c ≤ 10) : 2 ^ c ≤ 1024 := Nat.le_trans (Nat.pow_le_pow_right (by decide) h) (by decide)
theorem bc_pc {c g : Nat} (hc : c ≤ 10) (hg : g < 2 ^ c) : bcF (nI g) = nI (pcN c g) := by
  have h := bc_mk (p := fun i => g.testBit i) (N := c) (by omega)
  rw [mk_self hg] at h
  exact h
theorem all_lt (c : Nat) : 2 ^ c - 1 < 2 ^ c := by
  have := Nat.two_pow_pos c
  omega
theorem all_pc (c : Nat) : pcN c (2 ^ c - 1) = c := by
  unfold pcN
  rw [fb_ct_all]
  intro k hk
  rw [Nat.testBit_two_pow_sub_one]
  simp [hk]
theorem all_I {c : Nat} (hc : c ≤ 10) : (1 <<< (nI c &&& 31)) - 1 = nI (2 ^ c - 1) := by
  rw [sh1 c (by omega)]
  have := Nat.two_pow_pos c
  obtain ⟨k, hk⟩ : ∃ k, 2 ^ c = k + 1 := ⟨2 ^ c - 1, by omega⟩
  rw [hk, nI_pred]
  rfl
def MM (A : Nat → Nat → Int32) (c : Nat) (S0 S : ovS) : Prop := Fr [387] S0 S ∧ ∀ g, g < 2 ^ c → S.1 387 g = -1 ∨ S.1 387 g = nI (lnT A c g)
section
variable {G : ovG} {S0 S : ovS} {A : Nat → Nat → Int32} {c : Nat}
theorem sp_lengthBehind (hc : c ≤ 10) (e14 : S0.1 376 14 = nI c) (e386 : ∀ h, h < 10 → ∀ j, j < c → S0.1 386 (h * 10 + j) = nI (mk (fun i => decide (A h i = A h j)) c)) {h g ht dp : Nat} (hg : g < 2 ^ c) (hht : ht < 10) (ih : ∀ q, q < 2 ^ c → pcN c q < pcN c g → ∀ S, MM A c S0 S → Ex G mX6_lengthOf (h + 9) [.ref 376, .int (nI q), .int (nI dp + 1)] S (fun r S1 => r = nI (lnT A c q) ∧ MM A c S0 S1)) (hM : MM A c S0 S) : Ex G mX6_lengthBehind (h + 10) [.ref 376, .int (nI g), .int (nI ht), .int (nI dp)] S (fun r S1 => r = nI (Wp A c (lnT A c) g ht) ∧ MM A c S0 S1) := by
  have h2c := pow10 hc
  have key : ∀ k i : Nat, ∀ S' : ovS, i + k = c → MM A c S0 S' → RM G mX6_lengthBehind (h + 10) (fun r S1 => r = nI (Wp A c (lnT A c) g ht) ∧ MM A c S0 S1) 9 [some (.ref 376), some (.int (nI g)), some (.int (nI ht)), some (.int (nI dp)), some (.int (nI (bhF g (Vp A c (lnT A c) g ht) i))), some (.int (nI (mk (lfP (A ht) g i) c))), some (.int (nI i)), none] [] S' := by
    intro k
    induction k with
    | zero =>
      intro i S' hi hM'
      have : i = c := by omega
      subst this
      exact vX6_lengthBehind_9 ⟨fun _ => ⟨rfl, hM'⟩, fun z => absurd (by rw [hM'.1.at 376 rfl, e14]; exact Int32.le_refl _) z⟩
    | succ k ihk =>
      intro i S' hi hM'
      have go := ihk (i + 1)
      rw [nI_succ i] at go
      have hlf : mk (lfP (A ht) g i) c < 2 ^ 32 := Nat.lt_of_lt_of_le (mk_lt _ c) (by omega)
      have hVb : ∀ j, Vp A c (lnT A c) g ht j ≤ 10 ∨ Vp A c (lnT A c) g ht j = 99 := fun j => by
        unfold Vp
        split
        · exact Or.inr rfl
        · exact lnT_b
      have hbb := bh_b (g := g) hVb i
      refine vX6_lengthBehind_9 ⟨fun z => absurd z (nI_next (by rw [hM'.1.at 376 rfl]; exact e14) (by omega) (by omega)), fun _ => ⟨fun z => ⟨?_, hM'⟩, fun _ => ⟨fun z => ?_, fun z => ?_⟩⟩⟩
      · rw [nI_z hlf, mk_z] at z
        unfold Wp
        rw [bh_all (A := A) (L := lnT A c) (h := ht) (k + 1) i (by omega) (fun j h1 h2 => ?_)]
        cases hb : lfP (A ht) g i j with
        | false => rfl
        | true =>
          rw [anyN_iff.mpr ⟨j, h2, hb⟩] at z
          cases z
      · rw [bit32 hlf (by omega), mk_bit] at z
        have hz : lfP (A ht) g i i = false := by
          simpa [show i < c by omega] using z
        obtain ⟨e1, e2⟩ := bh_no (A := A) (L := lnT A c) (h := ht) (show i < c by omega) hz
        rw [e1, e2] at go
        exact go S' (by omega) hM'
      · have hz : lfP (A ht) g i i = true := by
          cases hb : lfP (A ht) g i i with
          | true => rfl
          | false =>
            exfalso
            apply z
            rw [bit32 hlf (by omega), mk_bit, hb, Bool.and_false]
        have hgi : g.testBit i = true := by
          unfold lfP at hz
          revert hz
          cases g.testBit i <;> simp
        have ei : nI ht * 10 + nI i = nI (ht * 10 + i) := by
          rw [show (10 : Int32) = nI 10 from rfl, pk_mul, nI_add]
        rw [ei, nI_ix (n := ht * 10 + i) (by omega), hM'.1.at 386 rfl, e386 ht hht i (by omega)]
        have ep : nI g &&& nI (mk (fun i_1 => decide (A ht i_1 = A ht i)) c) = nI (smk (A ht) c g i) := by
          rw [fa_and]
          congr 1
          rw [← mk_self hg]
          rw [mk_and]
          unfold smk
          rw [mk_self hg]
        rw [ep]
        have hsl := smk_lt (A := A ht) (c := c) (g := g) (j := i)
        have el : nI (mk (lfP (A ht) g i) c) &&& (nI (smk (A ht) c g i) ^^^ (-1)) = nI (mk (lfP (A ht) g (i + 1)) c) := by
          rw [nt_nI, fa_and]
          congr 1
          unfold smk
          rw [mk_not (by omega), lf_s hgi]
        rw [el]
        have eb : bhF g (Vp A c (lnT A c) g ht) (i + 1) = max (bhF g (Vp A c (lnT A c) g ht) i) (Vp A c (lnT A c) g ht i) := by
          rw [bhF, hgi]
          rfl
        rw [eb] at go
        refine ⟨vp_in_nI (by omega) (by decide), fun y => ?_, fun y => ?_⟩
        · have hne : ¬ smk (A ht) c g i = g := fun x => y (by rw [x])
          refine ⟨_, ih _ hsl (smk_pc hg hne) S' hM', fun r7 S6 q => ?_⟩
          obtain ⟨q1, q2⟩ := q
          have hb2 := lnT_b (A := A) (c := c) (g := smk (A ht) c g i)
          rw [q1, omax_n (by omega) (by omega)]
          have eV : Vp A c (lnT A c) g ht i = lnT A c (smk (A ht) c g i) := by rw [Vp, if_neg hne]
          rw [eV] at go
          exact go S6 (by omega) q2
        · have heq : smk (A ht) c g i = g := (nI_eq_i (by omega) (by omega)).mp y
          have eV : Vp A c (lnT A c) g ht i = 99 := by rw [Vp, if_pos heq]
          rw [eV] at go
          rw [show (99 : Int32) = nI 99 from rfl, omax_n (by omega) (by omega)]
          exact go S' (by omega) hM'
  have h0 := key c 0 S (by omega) hM
  rw [lf_0 hg] at h0
  exact eX6_lengthBehind (vX6_lengthBehind_0 h0)
theorem sp_lengthOf (hc : c ≤ 10) (e14 : S0.1 376 14 = nI c) (e386 : ∀ h, h < 10 → ∀ j, j < c → S0.1 386 (h * 10 + j) = nI (mk (fun i => decide (A h i = A h j)) c)) : ∀ (f h g dp : Nat) (S : ovS), g < 2 ^ c → pcN c g ≤ f → dp + f ≤ 10 → 2 * f ≤ h → MM A c S0 S → Ex G mX6_lengthOf (h + 10) [.ref 376, .int (nI g), .int (nI dp)] S (fun r S1 => r = nI (lnT A c g) ∧ MM A c S0 S1) := by
  have h2c := pow10 hc
  intro f
  induction f with
  | zero =>
    intro h g dp S hg hp hd hh hM
    refine eX6_lengthOf (vX6_lengthOf_0 ⟨_, sp_bitCount, fun r3 S2 q => ?_⟩)
    obtain ⟨q1, q2⟩ := q
    subst q2
    rw [q1, bc_pc hc hg]
    exact ⟨fun z => absurd ((nI_lt_i (a := 1) (by decide) (by omega)).mp z) (by omega), fun _ => ⟨by rw [lnT_0 (by omega)]; rfl, hM⟩⟩
  | succ f ih =>
    intro h g dp S hg hp hd hh hM
    refine eX6_lengthOf (vX6_lengthOf_0 ⟨_, sp_bitCount, fun r3 S2 q => ?_⟩)
    obtain ⟨q1, q2⟩ := q
    subst q2
    rw [q1, bc_pc hc hg]
    refine ⟨fun z => ?_, fun z => ⟨?_, hM⟩⟩
    · have hpc : ¬ pcN c g ≤ 1 := by
        have := (nI_lt_i (a := 1) (by decide) (by omega)).mp z
        omega
      have hix : (nI g).toNatClampNeg = g := nI_ix (by omega)
      have hin : vp_in (nI g) 1024 := vp_in_nI (by omega) (by decide)
      refine ⟨fun y => absurd y (nI_neg (by omega)), fun _ => ⟨fun y => absurd ((nI_le_i (a := 1024) (by decide) (by omega)).mp y) (by omega), fun _ => ⟨fun _ => ⟨hin, fun y => ⟨hin, ?_⟩, fun y => ?_⟩, fun y => absurd ((nI_le_i (b := 10) (by omega) (by decide)).mpr (by omega)) y⟩⟩⟩
      · rw [hix] at y ⊢
        exact ⟨(hM.2 g hg).resolve_left y, hM⟩
      · obtain ⟨h', rfl⟩ : ∃ h', h = h' + 2 := ⟨h - 2, by omega⟩
        have hWb := fun ht => Wp_b (A := A) (c := c) (g := g) (h := ht)
        have key : ∀ k i : Nat, ∀ S' : ovS, i + k = 10 → MM A c S0 S' → RM G mX6_lengthOf (h' + 2 + 10) (fun r S1 => r = nI (lnT A c g) ∧ MM A c S0 S1) 48 [some (.ref 376), some (.int (nI g)), some (.int (nI dp)), some (.int (nI (mnF (Wp A c (lnT A c) g) i))), some (.int (nI i))] [] S' := by
          intro k
          induction k with
          | zero =>
            intro i S' hi hM'
            have : i = 10 := by omega
            subst this
            refine vX6_lengthOf_48 ⟨fun _ => ⟨hin, fun S2 e2 => ⟨hin, ?_, ?_⟩⟩, fun x => absurd (by decide) x⟩
            · rw [e2, hix, stI_self, lnT_s hc hg hpc]
              simp [upd]
            · rw [e2, hix]
              refine ⟨hM'.1.st rfl, fun q hq => ?_⟩
              rw [stI_self]
              by_cases e : q = g
              · right
                rw [e, lnT_s hc hg hpc]
                simp [upd]
              · simp only [upd, if_neg e]
                exact hM'.2 q hq
          | succ k ihk =>
            intro i S' hi hM'
            have go := ihk (i + 1)
            rw [nI_succ i] at go
            refine vX6_lengthOf_48 ⟨fun x => absurd ((nI_le_i (a := 10) (by decide) (by omega)).mp x) (by omega), fun _ => ⟨_, sp_lengthBehind (h := h' + 1) (ht := i) hc e14 e386 hg (by omega) (fun q hq hpq S3 hM3 => ?_) hM', fun r5 S4 q => ?_⟩⟩
            · have := ih h' q (dp + 1) S3 hq (by omega) (by omega) (by omega) hM3
              rw [nI_succ dp] at this
              exact this
            · obtain ⟨q1, q2⟩ := q
              have h1 := mnF_le (W := Wp A c (lnT A c) g) i
              have h2 := hWb i
              rw [q1, show (1 : Int32) = nI 1 from rfl, nI_add, omin_n (by omega) (by omega)]
              exact go S4 (by omega) q2
        exact key 10 0 S2 (by omega) hM
    · rw [lnT_0 (Nat.le_of_not_lt (fun y => z ((nI_lt_i (a := 1) (by decide) (by omega)).mpr y)))]
      rfl
theorem sp_firstHeat (hc : c ≤ 10) (e14 : S0.1 376 14 = nI c) (e386 : ∀ h, h < 10 → ∀ j, j < c → S0.1 386 (h * 10 + j) = nI (mk (fun i => decide (A h i = A h j)) c)) (hM : MM A c S0 S) (h99 : ¬ lnT A c (2 ^ c - 1) = 99) : Ex G mX6_firstHeat 41 [.ref 376, .int (nI (2 ^ c - 1)), .int (nI (lnT A c (2 ^ c - 1)))] S (fun r S1 => r = (if c ≤ 1 then -1 else bgF (Wp A c (lnT A c) (2 ^ c - 1)) 10) ∧ MM A c S0 S1) := by
  have h2c := pow10 hc
  have hg := all_lt c
  have hp := all_pc c
  have hb := lnT_b (A := A) (c := c) (g := 2 ^ c - 1)
  refine eX6_firstHeat (vX6_firstHeat_0 ⟨fun z => ?_, fun z => ?_⟩)
  · have hc1 : ¬ c ≤ 1 := fun y => z (by rw [lnT_0 (by omega)]; rfl)
    rw [if_neg hc1]
    have es := lnT_s (A := A) hc hg (by omega)
    obtain ⟨h0, g1, g2, g3, g4⟩ := bg_first (W := Wp A c (lnT A c) (2 ^ c - 1)) 10 (by rw [← es]; omega)
    rw [g2]
    rw [← es] at g3 g4
    have key : ∀ k i : Nat, ∀ S' : ovS, i + k = h0 → MM A c S0 S' → RM G mX6_firstHeat 41 (fun r S1 => r = nI h0 ∧ MM A c S0 S1) 8 [some (.ref 376), some (.int (nI (2 ^ c - 1))), some (.int (nI (lnT A c (2 ^ c - 1)))), some (.int (nI i))] [] S' := by
      intro k
      induction k with
      | zero =>
        intro i S' hi hM'
        have hWb := Wp_b (A := A) (c := c) (g := 2 ^ c - 1) (h := i)
        refine vX6_firstHeat_8 ⟨fun x => absurd ((nI_le_i (a := 10) (by decide) (by omega)).mp x) (by omega), fun _ => ⟨_, sp_lengthBehind (h := 30) (ht := i) (dp := 0) hc e14 e386 hg (by omega) (fun q hq hpq S3 hM3 => sp_lengthOf hc e14 e386 9 29 q 1 S3 hq (by omega) (by omega) (by omega) hM3) hM', fun r4 S3 q => ?_⟩⟩
        obtain ⟨q1, q2⟩ := q
        rw [q1, show (1 : Int32) = nI 1 from rfl, nI_add, nI_eq_i (by omega) (by omega)]
        have : i = h0 := by omega
        subst this
        exact ⟨fun x => absurd g3 x, fun _ => ⟨rfl, q2⟩⟩
      | succ k ihk =>
        intro i S' hi hM'
        have go := ihk (i + 1)
        rw [nI_succ i] at go
        have hWb := Wp_b (A := A) (c := c) (g := 2 ^ c - 1) (h := i)
        refine vX6_firstHeat_8 ⟨fun x => absurd ((nI_le_i (a := 10) (by decide) (by omega)).mp x) (by omega), fun _ => ⟨_, sp_lengthBehind (h := 30) (ht := i) (dp := 0) hc e14 e386 hg (by omega) (fun q hq hpq S3 hM3 => sp_lengthOf hc e14 e386 9 29 q 1 S3 hq (by omega) (by omega) (by omega) hM3) hM', fun r4 S3 q => ?_⟩⟩
        obtain ⟨q1, q2⟩ := q
        rw [q1, show (1 : Int32) = nI 1 from rfl, nI_add, nI_eq_i (by omega) (by omega)]
        exact ⟨fun _ => go S3 (by omega) q2, fun x => absurd x (g4 i (by omega))⟩
    exact key h0 0 S (by omega) hM
  · have h0 : lnT A c (2 ^ c - 1) = 0 := (nI_eq_i (b := 0) (by omega) (by decide)).mp z
    have hc1 : c ≤ 1 := by
      apply Classical.byContradiction
      intro y
      rw [lnT_s hc hg (by omega)] at h0
      have := mn_pos (W := Wp A c (lnT A c) (2 ^ c - 1)) 10
      omega
    rw [if_pos hc1]
    exact ⟨rfl, hM⟩
end
