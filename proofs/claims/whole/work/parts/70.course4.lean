/-! ===== course: the reference, and both ===== -/
theorem sr10 : ∀ g, g < 1024 → ∀ b, b < 10 → (nI g >>> (nI b &&& 31)) &&& 1 = (if g.testBit b then 1 else 0) := by decide +kernel
theorem one10 : ∀ s, s < 1024 → s = 0 ∨ ((nI s &&& (nI s - 1) = 0) ↔ pcN 10 s ≤ 1) := by decide +kernel
def cm (x : Nat) : Nat := if x = 99 then 1000 else x
def nb (x : Nat) : Nat := if x = 99 then 1000 else x + 1
theorem cm_le {a b : Nat} (ha : a ≤ 11 ∨ a = 99) (hb : b ≤ 11 ∨ b = 99) : cm a ≤ cm b ↔ a ≤ b := by
  unfold cm
  split <;> split <;> omega
theorem cm_b {a : Nat} (ha : a ≤ 11 ∨ a = 99) : cm a ≤ 1000 := by
  unfold cm
  split <;> omega
section
variable {G : ovG} {S : ovS} {A : Nat → Nat → Int32} {c n : Nat}
theorem sp_alikeIn {g j ht : Nat} (hc : c ≤ 10) (hg : g < 2 ^ c) (hj : j < c) (hh : ht < 10) (e66 : S.1 412 66 = nI c) (eA : ∀ h, h < 10 → ∀ j, j < c → S.1 444 (10 * h + j) = A h j) : Ex G mX12_alikeIn 1 [.ref 412, .int (nI g), .int (nI j), .int (nI ht)] S (fun r S1 => r = nI (smk (A ht) c g j) ∧ S1 = S) := by
  have h2c := pow10 hc
  have e10 : ∀ i, (10 : Int32) * nI ht + nI i = nI (10 * ht + i) := fun i => by rw [show (10 : Int32) = nI 10 from rfl, pk_mul, nI_add]
  refine eX12_alikeIn (vX12_alikeIn_0 (loopUp (n := c) (P := fun i => RM G mX12_alikeIn 1 _ 6 [some (.ref 412), some (.int (nI g)), some (.int (nI j)), some (.int (nI ht)), some (.int (nI (mk (fun i => g.testBit i && decide (A ht i = A ht j)) i))), some (.int (nI i))] [] S) ?_ ?_ 0 (by omega)))
  · exact vX12_alikeIn_6 ⟨fun _ => ⟨rfl, rfl⟩, fun z => absurd (by rw [e66]; exact Int32.le_refl _) z⟩
  · intro i hi ih
    rw [nI_succ i] at ih
    refine vX12_alikeIn_6 ⟨fun z => absurd z (nI_next e66 (by omega) hi), fun _ => ?_⟩
    rw [sr10 g (by omega) i (by omega)]
    cases hb : g.testBit i with
    | false =>
      rw [mk_f (i := i) (by rw [hb]; rfl)] at ih
      exact ⟨fun _ => ih, fun z => absurd z (by decide)⟩
    | true =>
      refine ⟨fun z => absurd rfl z, fun _ => ?_⟩
      rw [e10, e10, nI_ix (n := 10 * ht + i) (by omega), nI_ix (n := 10 * ht + j) (by omega), eA ht hh i hi, eA ht hh j hj]
      refine ⟨vp_in_nI (by omega) (by decide), vp_in_nI (by omega) (by decide), fun z => ?_, fun z => ?_⟩
      · rw [mk_f (i := i) (by rw [hb]; simpa using z)] at ih
        exact ih
      · rw [← mk_t (i := i) (by omega) (by rw [hb]; simpa using z)] at ih
        exact ih
theorem sp_neededBy {g ht : Nat} (hc : c ≤ 10) (hg : g < 2 ^ c) (hh : ht < 10) (e66 : S.1 412 66 = nI c) (eA : ∀ h, h < 10 → ∀ j, j < c → S.1 444 (10 * h + j) = A h j) (hT : ∀ q, 1 ≤ q → q < g → S.1 442 q = nI (cm (lnT A c q))) : Ex G mX12_neededBy 2 [.ref 412, .int (nI g), .int (nI ht)] S (fun r S1 => r = nI (nb (Wp A c (lnT A c) g ht)) ∧ S1 = S) := by
  have h2c := pow10 hc
  have hVb : ∀ j, Vp A c (lnT A c) g ht j ≤ 10 ∨ Vp A c (lnT A c) g ht j = 99 := fun j => by
    unfold Vp
    split
    · exact Or.inr rfl
    · exact lnT_b
  refine eX12_neededBy (vX12_neededBy_0 (loopUp (n := c) (P := fun i => RM G mX12_neededBy 2 _ 5 [some (.ref 412), some (.int (nI g)), some (.int (nI ht)), some (.int (nI (cm (bhF g (Vp A c (lnT A c) g ht) i)))), some (.int (nI i)), none] [] S) ?_ ?_ 0 (by omega)))
  · have hb := bh_b (g := g) hVb c
    have hcb := cm_b (a := bhF g (Vp A c (lnT A c) g ht) c) (by omega)
    refine vX12_neededBy_5 ⟨fun _ => ⟨fun z => ⟨?_, rfl⟩, fun z => ⟨?_, rfl⟩⟩, fun z => absurd (by rw [e66]; exact Int32.le_refl _) z⟩
    · have z' := (nI_lt_i (b := 1000) (by omega) (by decide)).mp z
      rw [nI_1]
      congr 1
      unfold Wp nb
      unfold cm at z' ⊢
      split at z'
      · omega
      · next y => rw [if_neg y, if_neg y]
    · have z' : ¬ cm (bhF g (Vp A c (lnT A c) g ht) c) < 1000 := fun y => z ((nI_lt_i (b := 1000) (by omega) (by decide)).mpr y)
      unfold Wp nb
      unfold cm at z'
      split at z'
      · next y => rw [if_pos y]; rfl
      · omega
  · intro i hi ih
    rw [nI_succ i] at ih
    refine vX12_neededBy_5 ⟨fun z => absurd z (nI_next e66 (by omega) hi), fun _ => ?_⟩
    rw [sr10 g (by omega) i (by omega)]
    cases hb : g.testBit i with
    | false =>
      rw [bhF, hb] at ih
      exact ⟨fun z => absurd rfl z, fun _ => ih⟩
    | true =>
      refine ⟨fun _ => ⟨_, sp_alikeIn hc hg hi hh e66 eA, fun r6 S5 q => ?_⟩, fun z => absurd z (by decide)⟩
      obtain ⟨q1, q2⟩ := q
      subst q1 q2
      have hsl := smk_lt (A := A ht) (c := c) (g := g) (j := i)
      rw [nI_eq_i (by omega) (by omega)]
      have eb : bhF g (Vp A c (lnT A c) g ht) (i + 1) = max (bhF g (Vp A c (lnT A c) g ht) i) (Vp A c (lnT A c) g ht i) := by
        rw [bhF, hb]
        rfl
      rw [eb] at ih
      refine ⟨fun z => ⟨vp_in_nI (by omega) (by decide), ?_⟩, fun z => ⟨?_, rfl⟩⟩
      · have eV : Vp A c (lnT A c) g ht i = lnT A c (smk (A ht) c g i) := by rw [Vp, if_neg z]
        rw [eV] at ih
        have hne : 1 ≤ smk (A ht) c g i := by
          have hbt : (smk (A ht) c g i).testBit i = true := by
            rw [smk_bit, hb]
            simp [hi]
          apply Classical.byContradiction
          intro y
          rw [show smk (A ht) c g i = 0 by omega, Nat.zero_testBit] at hbt
          cases hbt
        have hlt : smk (A ht) c g i < g := by
          have hle : smk (A ht) c g i ≤ g := by
            apply Nat.le_of_testBit
            intro k hk
            rw [smk_bit] at hk
            cases hy : g.testBit k with
            | true => rfl
            | false =>
              rw [hy] at hk
              simp at hk
          omega
        rw [nI_ix (by omega), hT _ hne hlt]
        have b1 := bh_b (g := g) hVb i
        have b2 := lnT_b (A := A) (c := c) (g := smk (A ht) c g i)
        have c1 := cm_b (a := bhF g (Vp A c (lnT A c) g ht) i) (by omega)
        have c2 := cm_b (a := lnT A c (smk (A ht) c g i)) (by omega)
        rw [nI_le_i (by omega) (by omega), cm_le (by omega) (by omega)]
        refine ⟨fun y => ?_, fun y => ⟨vp_in_nI (by omega) (by decide), ?_⟩⟩
        · rw [Nat.max_eq_left y] at ih
          exact ih
        · rw [Nat.max_eq_right (by omega)] at ih
          exact ih
      · have h1 := V_le (V := Vp A c (lnT A c) g ht) hb c hi
        have eV : Vp A c (lnT A c) g ht i = 99 := by rw [Vp, if_pos z]
        have h2 := bh_b (g := g) hVb c
        unfold Wp nb
        rw [if_pos (by omega)]
        rfl
theorem sp_mCourse {w k : Int32} {m c' : Nat} (hM : MX S n) (hR : RR S c') (hm : S.1 412 34 = nI m) (hm5 : m ≤ 5) : Ex G mX12_course 6 [.ref 412, .int w, .int k] S (fun r S1 => r = (if w = 0 ∨ w = 1 then crR (fun h j => LF S (cdF (fitP S c' k) (2 ^ m) j) 0 0 (nI h) 0) (fb_ct (fitP S c' k) (2 ^ m)) w else -1) ∧ FJ Lt Jt S S1) := by
  have hp5 := pow5 hm5
  refine eX12_course (vX12_course_0 ⟨_, sp_isIn, fun r3 S2 q => ?_⟩)
  obtain ⟨q1, q2⟩ := q
  subst q2
  rw [q1, bI_0, decide_eq_false_iff_not, in2]
  refine ⟨fun z => ?_, fun z => ⟨by rw [if_neg z], FJ.rf⟩⟩
  rw [if_pos (Classical.not_not.mp z)]
  refine ⟨_, sp_layFits hM hR hm hm5, fun r9 S8 q => ?_⟩
  generalize fitP S2 c' k = p at q ⊢
  obtain ⟨hT, hF⟩ := q
  have hle : fb_ct p (2 ^ m) ≤ 32 := Nat.le_trans (fb_ct_le _ _) hp5
  have e440 : ∀ j, j < fb_ct p (2 ^ m) → S8.1 440 j = cdF p (2 ^ m) j := fun j hj => by
    obtain ⟨d, h1, h2, h3, h4⟩ := hT.kth hj
    rw [h4, ← h3, cd_at h1 h2]
  have e66 := hT.1
  obtain ⟨A, hA⟩ : ∃ A : Nat → Nat → Int32, A = fun h j => LF S2 (cdF p (2 ^ m) j) 0 0 (nI h) 0 := ⟨_, rfl⟩
  have hA' : ∀ h j, LF S2 (cdF p (2 ^ m) j) 0 0 (nI h) 0 = A h j := fun h j => by rw [hA]
  rw [← hA]
  generalize cdF p (2 ^ m) = cd at *
  clear hT
  generalize fb_ct p (2 ^ m) = c at *
  rw [e66, show (0 : Int32) = nI 0 from rfl, nI_eq_i (by omega) (by decide)]
  refine ⟨fun hc0 => ⟨fun y => ?_, fun y => ⟨?_, hF⟩⟩, fun hc0 => ⟨by rw [crR, if_pos hc0], hF⟩⟩
  · have hc : c ≤ 10 := (nI_le_i (b := 10) (by omega) (by decide)).mp y
    have h2c := pow10 hc
    have hal := all_lt c
    obtain ⟨Q, hQ⟩ : ∃ Q : Int32 → ovS → Prop, Q = (fun r S1 => r = crR A c w ∧ FJ Lt Jt S2 S1) := ⟨_, rfl⟩
    rw [← hQ]
    have key3 : ∀ k s : Nat, ∀ S' : ovS, s + k = 2 ^ c → 1 ≤ s → FJ Lt Jt S2 S' → S'.1 412 66 = nI c → (∀ h, h < 10 → ∀ j, j < c → S'.1 444 (10 * h + j) = A h j) → (∀ q, 1 ≤ q → q < s → S'.1 442 q = nI (cm (lnT A c q)) ∧ S'.1 443 q = (if pcN c q ≤ 1 then -1 else bgF (Wp A c (lnT A c) q) 10)) → RM G mX12_course 6 Q 108 [some (.ref 412), some (.int w), none, some (.int (nI (2 ^ c - 1))), some (.int (nI s)), none, none] [] S' := by
      intro k
      induction k with
      | zero =>
        intro s S' hs h1 hF' h66 h44 hT
        have es : s = 2 ^ c := by omega
        have h2 := hT (2 ^ c - 1) (by have := Nat.pow_le_pow_right (show 0 < 2 by decide) (show 1 ≤ c by omega); omega) (by omega)
        have hb := lnT_b (A := A) (c := c) (g := 2 ^ c - 1)
        have hcb := cm_b (a := lnT A c (2 ^ c - 1)) (by omega)
        have hin : vp_in (nI (2 ^ c - 1)) 1024 := vp_in_nI (by omega) (by decide)
        refine vX12_course_108 ⟨fun _ => ⟨hin, ?_⟩, fun x => absurd ((nI_lt_i (by omega) (by omega)).mpr (by omega)) x⟩
        rw [nI_ix (by omega), h2.1, h2.2, all_pc, show (1000 : Int32) = nI 1000 from rfl, nI_lt_i (by omega) (by decide)]
        have e99 : cm (lnT A c (2 ^ c - 1)) < 1000 ↔ ¬ lnT A c (2 ^ c - 1) = 99 := by
          unfold cm
          split <;> omega
        rw [e99]
        refine ⟨fun x => ⟨fun v => ⟨hin, ?_⟩, fun v => ⟨hin, ?_⟩⟩, fun x => ?_⟩
        · rw [hQ]
          exact ⟨by rw [crR, if_neg hc0, if_pos hc, if_neg x, if_neg v], hF'⟩
        · rw [hQ]
          refine ⟨?_, hF'⟩
          rw [crR, if_neg hc0, if_pos hc, if_neg x, if_pos v, cm, if_neg x]
        · rw [hQ]
          exact ⟨by rw [crR, if_neg hc0, if_pos hc, if_pos (Classical.not_not.mp x)], hF'⟩
      | succ k ih =>
        intro s S' hs h1 hF' h66 h44 hT
        have hsl : s < 2 ^ c := by omega
        have hin : vp_in (nI s) 1024 := vp_in_nI (by omega) (by decide)
        have hix : (nI s).toNatClampNeg = s := nI_ix (by omega)
        have hpc : ((nI s &&& (nI s - 1)) = 0 ↔ pcN c s ≤ 1) := by
          have h3 := (one10 s (by omega)).resolve_left (by omega)
          have h4 := bc_pc (c := 10) (g := s) (by omega) (by omega)
          rw [bc_pc hc hsl] at h4
          have b1 : pcN c s ≤ c := fb_ct_le _ _
          have b2 : pcN 10 s ≤ 10 := fb_ct_le _ _
          rw [(nI_eq_i (by omega) (by omega)).mp h4]
          exact h3
        have next := fun S3 a b d e => ih (s + 1) S3 (by omega) (by omega) a b d e
        rw [nI_succ s] at next
        refine vX12_course_108 ⟨fun x => absurd ((nI_lt_i (by omega) (by omega)).mp x) (by omega), fun _ => ⟨fun x => ⟨hin, fun S5 e5 => ⟨hin, fun S6 e6 => ?_⟩⟩, fun x => ⟨hin, fun S5 e5 => ⟨hin, fun S6 e6 => ?_⟩⟩⟩⟩
        · rw [hpc] at x
          have es := lnT_s (A := A) hc hsl x
          rw [hix] at e5 e6
          have key4 : ∀ k i : Nat, ∀ S3 : ovS, i + k = 10 → FJ Lt Jt S2 S3 → S3.1 412 66 = nI c → (∀ h, h < 10 → ∀ j, j < c → S3.1 444 (10 * h + j) = A h j) → (∀ q, 1 ≤ q → q < s → S3.1 442 q = nI (cm (lnT A c q)) ∧ S3.1 443 q = (if pcN c q ≤ 1 then -1 else bgF (Wp A c (lnT A c) q) 10)) → S3.1 442 s = nI (cm (mnF (Wp A c (lnT A c) s) i)) → S3.1 443 s = bgF (Wp A c (lnT A c) s) i → RM G mX12_course 6 Q 149 [some (.ref 412), some (.int w), none, some (.int (nI (2 ^ c - 1))), some (.int (nI s)), some (.int (nI i)), none] [] S3 := by
            intro k
            induction k with
            | zero =>
              intro i S3 hi a1 a2 a3 a4 a5 a6
              have : i = 10 := by omega
              subst this
              refine vX12_course_149 ⟨fun _ => next S3 a1 a2 a3 (fun q h3 h4 => ?_), fun v => absurd (by decide) v⟩
              by_cases e : q = s
              · rw [e, if_neg x, es]
                exact ⟨a5, a6⟩
              · exact a4 q h3 (by omega)
            | succ k ihk =>
              intro i S3 hi a1 a2 a3 a4 a5 a6
              have go := ihk (i + 1)
              rw [nI_succ i] at go
              have hW := Wp_b (A := A) (c := c) (g := s) (h := i)
              have hmn := mn_b (f := 10) (W := Wp A c (lnT A c) s) (fun j => Wp_b) i
              have hmp := mn_pos (W := Wp A c (lnT A c) s) i
              have hcb := cm_b (a := mnF (Wp A c (lnT A c) s) i) hmn
              have hc1 : 1 ≤ cm (mnF (Wp A c (lnT A c) s) i) := by
                unfold cm
                split <;> omega
              have hnb : nb (Wp A c (lnT A c) s i) ≤ 1000 := by
                unfold nb
                split <;> omega
              have hiff : nb (Wp A c (lnT A c) s i) < cm (mnF (Wp A c (lnT A c) s) i) ↔ 1 + Wp A c (lnT A c) s i < mnF (Wp A c (lnT A c) s) i := by
                unfold nb cm
                split <;> split <;> omega
              refine vX12_course_149 ⟨fun v => absurd ((nI_lt_i (a := 9) (by decide) (by omega)).mp v) (by omega), fun _ => ⟨hin, ?_⟩⟩
              rw [hix, a5]
              refine ⟨fun v => absurd ((nI_le_i (b := 0) (by omega) (by decide)).mp v) (by omega), fun _ => ⟨_, sp_neededBy hc hsl (show i < 10 by omega) a2 a3 (fun q h3 h4 => (a4 q h3 h4).1), fun r5 S4 q => ⟨hin, ?_⟩⟩⟩
              obtain ⟨q1, q2⟩ := q
              subst q1 q2
              rw [a5, nI_lt_i (by omega) (by omega), hiff]
              refine ⟨fun v => ⟨hin, fun S9 e9 => ⟨hin, fun S10 e10 => ?_⟩⟩, fun v => ?_⟩
              · refine go S10 (by omega) ?_ ?_ ?_ ?_ ?_ ?_
                · rw [e10, e9]
                  exact (a1.st rfl rfl).st rfl rfl
                · rw [e10, e9, stI_row (by decide), stI_row (by decide)]
                  exact a2
                · rw [e10, e9, stI_row (by decide), stI_row (by decide)]
                  exact a3
                · intro q h3 h4
                  have hne : ¬ q = s := by omega
                  rw [e10, e9]
                  rw [stI_row (a := 442) (by decide), stI_self, stI_self, stI_row (a := 443) (by decide)]
                  simp only [upd, if_neg hne]
                  exact a4 q h3 h4
                · rw [e10, stI_row (by decide), e9, stI_self]
                  simp only [upd, if_true]
                  congr 1
                  rw [mnF]
                  unfold nb cm
                  split <;> split <;> omega
                · rw [e10, stI_self]
                  simp only [upd, if_true]
                  rw [bgF, if_pos v]
              · refine go S4 (by omega) a1 a2 a3 a4 ?_ ?_
                · rw [a5, mnF, Nat.min_eq_left (by omega)]
                · rw [a6, bgF, if_neg v]
          refine key4 10 0 S6 (by omega) ?_ ?_ ?_ ?_ ?_ ?_
          · rw [e6, e5]
            exact (hF'.st rfl rfl).st rfl rfl
          · rw [e6, e5, stI_row (by decide), stI_row (by decide)]
            exact h66
          · rw [e6, e5, stI_row (by decide), stI_row (by decide)]
            exact h44
          · intro q h3 h4
            have hne : ¬ q = s := by omega
            rw [e6, e5]
            rw [stI_row (a := 442) (by decide), stI_self, stI_self, stI_row (a := 443) (by decide)]
            simp only [upd, if_neg hne]
            exact hT q h3 h4
          · rw [e6, stI_row (by decide), e5, stI_self]
            simp only [upd, if_true]
            rfl
          · rw [e6, stI_self]
            simp only [upd, if_true]
            rfl
        · rw [hpc] at x
          rw [hix] at e5 e6
          have e2 : S6.1 442 s = 0 := by
            rw [e6, stI_row (by decide), e5, stI_self]
            simp [upd]
          refine vX12_course_149 ⟨fun v => absurd v (by decide), fun _ => ⟨hin, fun _ => ?_, fun v => absurd (by rw [hix, e2]; decide) v⟩⟩
          refine next S6 ?_ ?_ ?_ (fun q h3 h4 => ?_)
          · rw [e6, e5]
            exact (hF'.st rfl rfl).st rfl rfl
          · rw [e6, e5, stI_row (by decide), stI_row (by decide)]
            exact h66
          · rw [e6, e5, stI_row (by decide), stI_row (by decide)]
            exact h44
          · by_cases e : q = s
            · rw [e, e2, if_pos x, lnT_0 x]
              refine ⟨rfl, ?_⟩
              rw [e6, stI_self]
              simp [upd]
            · rw [e6, e5]
              rw [stI_row (a := 442) (by decide), stI_self, stI_self, stI_row (a := 443) (by decide)]
              simp only [upd, if_neg e]
              exact hT q h3 (by omega)
    have key1 : ∀ k h : Nat, ∀ S' : ovS, h + k = 10 → FJ Lt Jt S2 S' → S'.1 412 66 = nI c → S'.1 440 = S8.1 440 → (∀ h', h' < h → ∀ j, j < c → S'.1 444 (10 * h' + j) = A h' j) → RM G mX12_course 6 Q 39 [some (.ref 412), some (.int w), none, some (.int (nI h)), none, none, none] [] S' := by
      intro k
      induction k with
      | zero =>
        intro h S' hh hF' h66 h40 h44
        have : h = 10 := by omega
        subst this
        refine vX12_course_39 ⟨fun _ => ?_, fun x => absurd (by decide) x⟩
        rw [h66, all_I hc]
        exact key3 (2 ^ c - 1) 1 S' (by omega) (by omega) hF' h66 h44 (fun q h1 h2 => absurd h1 (by omega))
      | succ k ih =>
        intro h S' hh hF' h66 h40 h44
        refine vX12_course_39 ⟨fun x => absurd ((nI_lt_i (a := 9) (by decide) (by omega)).mp x) (by omega), fun _ => ?_⟩
        have e10 : ∀ i, (10 : Int32) * nI h + nI i = nI (10 * h + i) := fun i => by rw [show (10 : Int32) = nI 10 from rfl, pk_mul, nI_add]
        have key2 : ∀ k j : Nat, ∀ S3 : ovS, j + k = c → FJ Lt Jt S2 S3 → S3.1 412 66 = nI c → S3.1 440 = S8.1 440 → (∀ h', h' < h → ∀ j, j < c → S3.1 444 (10 * h' + j) = A h' j) → (∀ j', j' < j → S3.1 444 (10 * h + j') = A h j') → RM G mX12_course 6 Q 48 [some (.ref 412), some (.int w), none, some (.int (nI h)), some (.int (nI j)), none, none] [] S3 := by
          intro k
          induction k with
          | zero =>
            intro j S3 hj a1 a2 a3 a4 a5
            have : j = c := by omega
            subst this
            refine vX12_course_48 ⟨fun _ => ?_, fun x => absurd (by rw [a2]; exact Int32.le_refl _) x⟩
            have hg := ih (h + 1) S3 (by omega) a1 a2 a3 (fun h' hh' j' hj' => ?_)
            · rw [nI_succ h] at hg
              exact hg
            · by_cases e : h' = h
              · rw [e]
                exact a5 j' hj'
              · exact a4 h' (by omega) j' hj'
          | succ k ihk =>
            intro j S3 hj a1 a2 a3 a4 a5
            obtain ⟨fl, hfl⟩ := (hM.fj a1 rfl rfl).2.2.1
            refine vX12_course_48 ⟨fun x => absurd x (nI_next a2 (by omega) (by omega)), fun _ => ⟨vp_in_nI (by omega) (by decide), _, sp_mLoaf hfl, fun r4 S4 q => ?_⟩⟩
            obtain ⟨q1, q2⟩ := q
            rw [e10]
            refine ⟨vp_in_nI (by omega) (by decide), fun S7 e7 => ?_⟩
            rw [nI_ix (n := 10 * h + j) (by omega)] at e7
            have er : r4 = A h j := by
              rw [q1, nI_ix (n := j) (by omega), LF_sm (a1.sm rfl), a3, e440 j (by omega)]
              exact hA' h j
            have hg := ihk (j + 1) S7 (by omega) ?_ ?_ ?_ (fun h' hh' j' hj' => ?_) (fun j' hj' => ?_)
            · rw [nI_succ j] at hg
              exact hg
            · rw [e7]
              exact (a1.tr (FJ.of (L := Lt) (J := Jt) q2 rfl)).st rfl rfl
            · rw [e7, stI_row (by decide), q2.at 412 rfl]
              exact a2
            · rw [e7, stI_row (by decide), q2.at 440 rfl]
              exact a3
            · rw [e7, stI_self]
              have hne : ¬ 10 * h' + j' = 10 * h + j := by omega
              simp only [upd, if_neg hne]
              rw [q2.at 444 rfl]
              exact a4 h' hh' j' hj'
            · rw [e7, stI_self]
              by_cases e : j' = j
              · simp [upd, e, er]
              · have hne : ¬ 10 * h + j' = 10 * h + j := by omega
                simp only [upd, if_neg hne]
                rw [q2.at 444 rfl]
                exact a5 j' (by omega)
        exact key2 c 0 S' (by omega) hF' h66 h40 h44 (fun j' hj' => absurd hj' (by omega))
    exact key1 10 0 S8 (by omega) hF e66 rfl (fun h' hh' => absurd hh' (by omega))
  · have hc : ¬ c ≤ 10 := fun x => y ((nI_le_i (b := 10) (by omega) (by decide)).mpr x)
    rw [crR, if_neg hc0, if_neg hc]
theorem pb_course {w k : Int32} {m : Nat} (hI : IC S n m) (hL : Ly S n) : PB G mX11_course 43 [.ref 0, .int w, .int k] mX12_course 6 [.ref 412, .int w, .int k] S := by
  obtain ⟨c', hR⟩ := hI.2.2.2.2.2.2.2.1
  have hkl : ∀ {S1 : ovS}, Fr [23, 376, 384, 385, 386, 387] S S1 → (∀ j, j ≠ 14 → S1.1 376 j = S.1 376 j) → KL S S1 := fun h h6 => by
    refine ⟨⟨fun q hq => h.1 q ?_, fun j _ => by rw [h.at 412 rfl], h6 1 (by decide), h6 2 (by decide)⟩, by rw [h.at 369 rfl], by rw [h.at 412 rfl], h.at 370 rfl, h.at 431 rfl⟩
    cases hc : List.contains [23, 376, 384, 385, 386, 387] q with
    | false => rfl
    | true =>
      have h3 : q ∈ [23, 376, 384, 385, 386, 387] := by simpa using hc
      have h4 : ∀ q, q ∈ [23, 376, 384, 385, 386, 387] → SCr.contains q = true := by decide
      rw [h4 q h3] at hq
      cases hq
  refine PB.q (A := fun r => r = (if w = 0 ∨ w = 1 then crR (fun h j => LF S (cdF (fitP S c' k) (2 ^ m) j) 0 0 (nI h) 0) (fb_ct (fitP S c' k) (2 ^ m)) w else -1)) hI hL ?_ (fun r S1 hA h1 hK => ?_)
  · refine eX11_course (vX11_course_0 ⟨fun z => ⟨_, sp_bestCourse hI.fok hR.1 hI.2.1, fun r4 S3 q => ⟨?_, hkl q.2.1 q.2.2⟩⟩, fun z => ⟨fun y => ⟨?_, KL.rf⟩, fun y => ⟨_, sp_bestCourse hI.fok hR.1 hI.2.1, fun r4 S3 q => ⟨?_, hkl q.2.1 q.2.2⟩⟩⟩⟩)
    · rw [if_pos (Or.inl z)]
      exact q.1
    · rw [if_neg (fun x => x.elim z y)]
    · rw [if_pos (Or.inr y)]
      exact q.1
  · refine Ex.imp (sp_mCourse h1.1 (hR.kp hK.1) h1.2.2.1 h1.m5) (fun r2 S2 q => ⟨?_, KL.fj q.2 rfl rfl rfl rfl rfl⟩)
    rw [q.1, hA, fitP_kl hK.1]
    have eL : LF S1 = LF S := LF_sm hK.1.sm
    rw [eL]
end
