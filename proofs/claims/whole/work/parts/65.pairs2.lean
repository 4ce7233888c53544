/-! ===== pairs: the class ===== -/
def blF (F : Nat → Nat) (lo : Nat → Int32) (n d T : Nat) (a : Int32 × Option Nat) (t : Nat) : Int32 × Option Nat := fvR (stPr F lo n) a (T * (n + 1) ^ (d + 1)) (t * (n + 1) ^ d)
def LyP (S0 S : ovS) (n : Nat) (o : Option Nat) : Prop := match o with
  | none => S.1 369 4 = S0.1 369 4 ∧ ∀ i, i < 5 → S.1 370 i = S0.1 370 i
  | some v => S.1 369 4 = nI n ∧ ∀ i, i < 5 → S.1 370 i = nmv n v i
def PS (S0 S : ovS) (n : Nat) (p : Nat → Int32) (a : Int32 × Option Nat) : Prop := Fr [369, 370, 372] S0 S ∧ (∀ i, i < 5 → S.1 372 i = p i) ∧ S.1 369 7 = a.1 ∧ LyP S0 S n a.2
section
variable {G : ovG} {S S0 : ovS} {F : Nat → Nat} {lo : Nat → Int32} {n d T : Nat} {a : Int32 × Option Nat}
theorem bl_0 : blF F lo n d T a 0 = a := by
  unfold blF
  rw [Nat.zero_mul]
  rfl
theorem bl_s {t : Nat} : blF F lo n d T a (t + 1) = fvR (stPr F lo n) (blF F lo n d T a t) ((T * (n + 1) + t) * (n + 1) ^ d) ((n + 1) ^ d) := by
  unfold blF
  rw [Nat.add_mul t 1, Nat.one_mul, fvR_add]
  congr 1
  rw [Nat.add_mul, Nat.mul_assoc, ← Nat.pow_succ']
theorem bl_all : blF F lo n d T a (n + 1) = fvR (stPr F lo n) a (T * (n + 1) ^ (d + 1)) ((n + 1) ^ (d + 1)) := by
  unfold blF
  rw [← Nat.pow_succ']
theorem bl_sk {t0 t1 : Nat} (h01 : t0 ≤ t1) (h : ∀ t, t0 ≤ t → t < t1 → ∀ u, u < (n + 1) ^ d → okA F n (nmv n ((T * (n + 1) + t) * (n + 1) ^ d + u)) = false) : blF F lo n d T a t1 = blF F lo n d T a t0 := by
  obtain ⟨k, rfl⟩ : ∃ k, t1 = t0 + k := ⟨t1 - t0, by omega⟩
  clear h01
  induction k with
  | zero => rfl
  | succ k ih =>
    rw [← Nat.add_assoc, bl_s, skip _ (h (t0 + k) (by omega) (by omega))]
    exact ih (fun t h1 h2 => h t h1 (by omega))
theorem sp_pairFrom (hn : n ≤ 5) (h16 : S0.1 16 0 = nI n) (hF : ∀ i, i < 5 → S0.1 29 i = nI (F i)) (hF2 : ∀ i j, i < 5 → j < 5 → (F i).testBit j = (F j).testBit i) (hlo : ∀ i, i < n → S0.1 371 i = lo i) : ∀ (d h s T : Nat) (p : Nat → Int32) (a : Int32 × Option Nat) (S : ovS), s + d = n → d ≤ h → PX F n s T p → PS S0 S n p a → Ex G mX8_pairFrom (h + 10) [.ref 369, .int (nI s), .int (wtF lo p s)] S (fun _ S1 => PS S0 S1 n p (fvR (stPr F lo n) a (T * (n + 1) ^ d) ((n + 1) ^ d))) := by
  intro d
  induction d with
  | zero =>
    intro h s T p a S hs hd hX hP
    have hsn : s = n := by omega
    subst hsn
    have e16 : S.1 16 0 = nI s := by rw [hP.1.at 16 rfl]; exact h16
    have en : ∀ i, i < s → p i = nmv s T i := fun i hi => by
      simp only [nmv, if_pos hi]
      exact hX.1 i hi
    have en5 : ∀ i, i < 5 → p i = nmv s T i := fun i hi => by
      by_cases c : i < s
      · exact en i c
      · simp only [nmv, if_neg c]
        exact hX.2.2.2 i (by omega) hi
    have eok : okA F s (nmv s T) = true := by
      rw [← okP_cg hn (nmv_VN s T) en]
      exact hX.ok hn
    have ewt : wtF lo (nmv s T) s = wtF lo p s := wtF_cg s (fun j hj => (en j hj).symm)
    have ef : fvR (stPr F lo s) a (T * (s + 1) ^ 0) ((s + 1) ^ 0) = stPr F lo s a T := by
      rw [Nat.pow_zero, Nat.mul_one]
      rfl
    rw [ef]
    refine eX8_pairFrom (vX8_pairFrom_0 ⟨fun c => absurd c (nI_neg (by omega)), fun _ => ⟨fun c => absurd c (by rw [e16]; exact Int32.lt_irrefl), fun _ => ⟨fun c => ?_, fun c S17 e => ?_⟩⟩⟩)
    · unfold stPr
      rw [if_neg (fun z => z.2 (by rw [ewt, ← hP.2.2.1]; exact c))]
      exact hP
    · refine ⟨_, eX8_lay_b (vX8_lay_b_0 (Q := fun _ S2 => PS S0 S2 s p (stPr F lo s a T)) (fun S1 e1 S2 e2 => ?_)), fun r S19 q => q⟩
      unfold stPr
      rw [if_pos ⟨eok, fun z => c (by rw [ewt, ← hP.2.2.1] at z; exact z)⟩, ewt]
      have h16' : S17.1 16 0 = nI s := by rw [e, stI_row (by decide)]; exact e16
      rw [h16'] at e1
      subst e2 e1 e
      refine ⟨((hP.1.st rfl).st rfl).cp rfl, fun i hi => ?_, ?_, ?_, fun i hi => ?_⟩
      · rw [cpI_row (by decide), stI_row (by decide), stI_row (by decide)]
        exact hP.2.1 i hi
      · rw [cpI_row (by decide), stI_1, if_pos rfl, if_neg (by decide), stI_1, if_pos rfl, if_pos rfl]
      · rw [cpI_row (by decide), stI_1, if_pos rfl, if_pos rfl]
      · rw [cpI_self hi, stI_row (by decide), stI_row (by decide), ← en5 i hi]
        exact hP.2.1 i hi
  | succ d ih =>
    intro h s T p a S hs hd hX hP
    obtain ⟨h', rfl⟩ : ∃ h', h = h' + 1 := ⟨h - 1, by omega⟩
    have hsd : s + 1 + d = n := by omega
    have hin5 : ∀ j, j < 5 → vp_in (nI j) 5 := fun j hj => vp_in_nI hj (by decide)
    rw [← bl_all]
    refine eX8_pairFrom (vX8_pairFrom_0 ⟨fun c => absurd c (nI_neg (by omega)), fun _ => ⟨fun _ => ?_, fun c => absurd ((nI_lt_i (a := s) (b := n) (by omega) (by omega)).mpr (by omega)) (by rw [hP.1.at 16 rfl, h16] at c; exact c)⟩⟩)
    by_cases hp : p s = -1
    · have q0 := ih h' (s + 1) (T * (n + 1) + 0) p a S hsd (by omega) (hX.b hn (by omega) hp) hP
      have ew : wtF lo p (s + 1) = wtF lo p s := by
        rw [wtF, hp, if_pos]
        have : ∀ s, s < 5 → (-1 : Int32) ≤ nI s := by decide
        exact this s (by omega)
      rw [ew, nI_succ s] at q0
      refine ⟨_, q0, fun r12 S11 hP1 => ⟨hin5 s (by omega), ?_⟩⟩
      have eb : blF F lo n d T a (s + 2) = fvR (stPr F lo n) a ((T * (n + 1) + 0) * (n + 1) ^ d) ((n + 1) ^ d) := by
        rw [bl_sk (t0 := 1) (by omega) (fun t h1 h2 u hu => nokS hn hX hsd (by omega) hu hp h1 (by omega)), bl_s, bl_0]
      rw [← eb] at hP1
      rw [nI_ix (by omega), hP1.2.1 s (by omega)]
      refine ⟨fun _ => ?_, fun c => absurd hp c⟩
      have key : ∀ k o : Nat, ∀ S' : ovS, o + k = n → s < o → PS S0 S' n p (blF F lo n d T a (o + 1)) → RM G mX8_pairFrom (h' + 1 + 10) (fun _ S1 => PS S0 S1 n p (blF F lo n d T a (n + 1))) 60 [some (.ref 369), some (.int (nI s)), some (.int (wtF lo p s)), some (.int (nI o))] [] S' := by
        intro k
        induction k with
        | zero =>
          intro o S' ho hso hP'
          have : o = n := by omega
          subst this
          exact vX8_pairFrom_60 ⟨fun _ => hP', fun c => absurd (by rw [hP'.1.at 16 rfl, h16]; exact Int32.le_refl _) c⟩
        | succ k ihk =>
          intro o S' ho hso hP'
          have go := fun S2 hq => ihk (o + 1) S2 (by omega) (by omega) hq
          rw [nI_succ o] at go
          have es : blF F lo n d T a (o + 1 + 1) = fvR (stPr F lo n) (blF F lo n d T a (o + 1)) ((T * (n + 1) + (o + 1)) * (n + 1) ^ d) ((n + 1) ^ d) := bl_s
          refine vX8_pairFrom_60 ⟨fun c => absurd c (nI_next (by rw [hP'.1.at 16 rfl]; exact h16) (by omega) (by omega)), fun _ => ⟨hin5 o (by omega), ?_⟩⟩
          rw [nI_ix (n := o) (by omega), hP'.2.1 o (by omega), nI_ix (n := s) (by omega), hP'.1.at 29 rfl, hF s (by omega)]
          have hb := bit_iff (g := F s) (i := o) (by omega)
          refine ⟨fun c => ?_, fun c => ⟨hin5 s (by omega), fun c2 => ?_, fun c2 => ⟨hin5 s (by omega), fun S4 e4 => ⟨hin5 o (by omega), fun S5 e5 => ⟨hin5 s (by omega), hin5 o (by omega), ?_⟩⟩⟩⟩⟩
          · refine go S' ?_
            rw [es, skip _ (fun u hu => nokO hn hX hsd (by omega) hu hso (by omega) rfl (Or.inl c))]
            exact hP'
          · refine go S' ?_
            have hb2 : (F s).testBit o = true := by
              cases hc : (F s).testBit o with
              | true => rfl
              | false => exact absurd (hb.mpr hc) c2
            rw [es, skip _ (fun u hu => nokO hn hX hsd (by omega) hu hso (by omega) rfl (Or.inr hb2))]
            exact hP'
          · have hX' := hX.c hn hso (by omega) hp c (hb.mp c2)
            have us : upd (upd p s (nI o)) o (nI s) s = nI o := by simp [upd, show ¬ s = o by omega]
            have uo : upd (upd p s (nI o)) o (nI s) o = nI s := by simp [upd]
            have ux : ∀ k, k ≠ s → k ≠ o → upd (upd p s (nI o)) o (nI s) k = p k := fun k h1 h2 => by simp [upd, h1, h2]
            have hP5 : PS S0 S5 n (upd (upd p s (nI o)) o (nI s)) (blF F lo n d T a (o + 1)) := by
              subst e5 e4
              refine ⟨(hP'.1.st rfl).st rfl, fun i hi => ?_, ?_, ?_⟩
              · rw [stI_self, stI_self]
                simp only [upd]
                split
                · rfl
                · split
                  · rfl
                  · exact hP'.2.1 i hi
              · rw [stI_row (by decide), stI_row (by decide)]
                exact hP'.2.2.1
              · have := hP'.2.2.2
                revert this
                cases (blF F lo n d T a (o + 1)).2 <;> simp only [LyP] <;> rw [stI_row (by decide), stI_row (by decide), stI_row (by decide), stI_row (by decide)] <;> exact id
            generalize upd (upd p s (nI o)) o (nI s) = p' at hX' us uo ux hP5
            have q1 := ih h' (s + 1) (T * (n + 1) + (o + 1)) p' _ S5 hsd (by omega) hX' hP5
            have ew' : wtF lo p' (s + 1) = wtF lo p s + omin (lo s) (lo o) := by
              rw [wtF, us, if_neg (fun z => absurd ((nI_le_i (by omega) (by omega)).mp z) (by omega)), nI_ix (by omega)]
              rw [wtF_cg s (fun j hj => ux j (by omega) (by omega))]
            rw [ew', nI_succ s, ← es] at q1
            rw [hP5.1.at 371 rfl, hlo s (by omega), hlo o (by omega)]
            refine ⟨_, q1, fun r8 S7 hP7 => ⟨hin5 s (by omega), fun S11 e11 => ⟨hin5 o (by omega), fun S12 e12 => ?_⟩⟩⟩
            refine go S12 ?_
            subst e12 e11
            refine ⟨(hP7.1.st rfl).st rfl, fun i hi => ?_, ?_, ?_⟩
            · rw [stI_self, stI_self]
              simp only [upd]
              split
              · next z => rw [z, c]
              · split
                · next z => rw [z, hp]
                · next z1 z2 => rw [hP7.2.1 i hi]; exact ux i z2 z1
            · rw [stI_row (by decide), stI_row (by decide)]
              exact hP7.2.2.1
            · have := hP7.2.2.2
              revert this
              cases (blF F lo n d T a (o + 1 + 1)).2 <;> simp only [LyP] <;> rw [stI_row (by decide), stI_row (by decide), stI_row (by decide), stI_row (by decide)] <;> exact id
      have := key (n - (s + 1)) (s + 1) S11 (by omega) (by omega) hP1
      rw [nI_succ s] at this
      exact this
    · obtain ⟨i, hi, y1, y2⟩ := (hX.2.2.1 s (by omega) (by omega)).resolve_left hp
      have q0 := ih h' (s + 1) (T * (n + 1) + (i + 1)) p a S hsd (by omega) (hX.a hn (by omega) hF2 hi y1 y2) hP
      have ew : wtF lo p (s + 1) = wtF lo p s := by
        rw [wtF, y1, if_pos ((nI_le_i (by omega) (by omega)).mpr (by omega))]
      rw [ew, nI_succ s] at q0
      refine ⟨_, q0, fun r12 S11 hP1 => ⟨hin5 s (by omega), ?_⟩⟩
      have eb : blF F lo n d T a (n + 1) = fvR (stPr F lo n) a ((T * (n + 1) + (i + 1)) * (n + 1) ^ d) ((n + 1) ^ d) := by
        rw [bl_sk (t0 := i + 2) (by omega) (fun t h1 h2 u hu => nokA hn hX hsd h2 hu hi y1 y2 (by omega)), bl_s, bl_sk (t0 := 0) (by omega) (fun t h1 h2 u hu => nokA hn hX hsd (by omega) hu hi y1 y2 (by omega)), bl_0]
      rw [nI_ix (by omega), hP1.2.1 s (by omega), eb]
      exact ⟨fun c => absurd c hp, fun _ => hP1⟩
theorem sp_bestPairs (hX : CX S n) (hV : VN n (S.1 26)) (hF : ∀ i, i < 5 → S.1 29 i = nI (F i)) (hF2 : ∀ i j, i < 5 → j < 5 → (F i).testBit j = (F j).testBit i) : Ex G mX8_bestPairs 41 [.ref 369] S (fun r S1 => r = (fvF (stPr F (fun i => gLo S i (gSd (S.1 26))) n) (-1, none) ((n + 1) ^ n)).1 ∧ LyP S S1 n (fvF (stPr F (fun i => gLo S i (gSd (S.1 26))) n) (-1, none) ((n + 1) ^ n)).2 ∧ Fr [23, 364, 365, 366, 367, 368, 369, 370, 371, 372] S S1) := by
  have hn := hX.2.1
  refine eX8_bestPairs (vX8_bestPairs_0 ⟨_, sp_lookAtLoaves hX hV, fun r3 S2 q => ⟨_, sp_fill (n := 5) rfl rfl (by decide), fun r8 S7 e7 S11 e11 => ?_⟩⟩)
  obtain ⟨q1, q2⟩ := q
  have hFr : Fr [23, 364, 365, 366, 367, 368, 369, 370, 371, 372] S S11 := by
    subst e11 e7
    exact ((q1.mono rfl).se rfl).st rfl
  have hp := sp_pairFrom (G := G) (S0 := S11) (F := F) (lo := fun i => gLo S i (gSd (S.1 26))) hn (by rw [hFr.at 16 rfl]; exact hX.1) (fun i hi => by rw [hFr.at 29 rfl]; exact hF i hi) hF2 (fun i hi => by
    subst e11 e7
    rw [stI_row (by decide), seI_row (by decide)]
    exact q2 i hi) n 30 0 0 (fun _ => -1) (-1, none) S11 (by omega) (by omega) ⟨fun i hi => absurd hi (by omega), fun i hi => absurd hi (by omega), fun j _ _ => Or.inl rfl, fun j _ _ => rfl⟩ ⟨Fr.rf, fun i hi => ?_, ?_, rfl, fun _ _ => rfl⟩
  · refine ⟨_, hp, fun r14 S13 h => ?_⟩
    rw [Nat.zero_mul, fvR_0] at h
    refine ⟨h.2.2.1, ?_, hFr.tr (h.1.mono rfl)⟩
    have h4 := h.2.2.2
    have e4 : S11.1 369 4 = S.1 369 4 := by
      subst e11 e7
      rw [stI_1, if_pos rfl, if_neg (by decide), seI_row (by decide), q1.at 369 rfl]
    have e5 : S11.1 370 = S.1 370 := by
      subst e11 e7
      rw [stI_row (by decide), seI_row (by decide), q1.at 370 rfl]
    revert h4
    cases (fvF (stPr F (fun i => gLo S i (gSd (S.1 26))) n) (-1, none) ((n + 1) ^ n)).2 <;> simp only [LyP] <;> first | exact id | (rw [e4, e5]; exact id)
  · subst e11 e7
    rw [stI_row (by decide), seI_self]
    simp [fillR, hi]
  · subst e11
    rw [stI_1, if_pos rfl, if_pos rfl]
end
