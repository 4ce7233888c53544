/-! ===== the reference: a LOAF is the class's ===== -/
def sgn (c : Int32) : Int32 := if c = 6 then 124 else if c = 7 then 38 else if c = 9 then 60 else if c = 10 then 62 else if c = 11 then 61 else if c = 12 then 43 else if c = 13 then 45 else if c = 14 then 42 else if c = 15 then 47 else 37
theorem dn_fJ {k : Nat} (h1 : 6 ≤ k) (h2 : k ≤ 16) (h3 : k ≠ 8) (a b : Int32) : dnF (sgn (nI k)) a b = fJ (nI k) a b := by
  have : k = 6 ∨ k = 7 ∨ k = 9 ∨ k = 10 ∨ k = 11 ∨ k = 12 ∨ k = 13 ∨ k = 14 ∨ k = 15 ∨ k = 16 := by omega
  rcases this with rfl | rfl | rfl | rfl | rfl | rfl | rfl | rfl | rfl | rfl <;> rfl
/-- a step of the class's formula and one of the reference's -/
def stRel (c d m a : Int32) : Prop := (c = 0 ∧ m = 0 ∧ a = d) ∨ (c = 1 ∧ m = 1 ∧ a = d ∧ ∃ k, k < 5 ∧ d = nI k) ∨ (∃ k, 2 ≤ k ∧ k ≤ 5 ∧ c = nI k ∧ m = 1 ∧ a = nI (k + 3)) ∨ (c = 8 ∧ m = 2) ∨ (∃ k, 6 ≤ k ∧ k ≤ 16 ∧ k ≠ 8 ∧ c = nI k ∧ m = 3 ∧ a = sgn c)
def depF (s : Nat → Int32) : Nat → Nat
  | 0 => 0
  | i + 1 => if 5 < s i then (if s i = 8 then depF s i else depF s i - 1) else depF s i + 1
def WFd (s : Nat → Int32) (fl : Nat) : Prop := ∀ i, i < fl → (5 < s i → (s i = 8 → 1 ≤ depF s i) ∧ (¬ s i = 8 → 2 ≤ depF s i)) ∧ (¬ 5 < s i → depF s i < 30)
def FR (S : ovS) (fl : Nat) : Prop := S.1 20 1 = nI fl ∧ fl ≤ 300 ∧ S.1 412 18 = nI fl ∧ S.1 412 39 = bI (decide (¬ fl = 0)) ∧ (∀ i, i < fl → stRel (S.1 21 i) (S.1 22 i) (S.1 417 i) (S.1 418 i)) ∧ WFd (S.1 21) fl
theorem FR.ok {S : ovS} {fl : Nat} (h : FR S fl) : FOk S := by
  refine ⟨fl, h.1, h.2.1, ?_⟩
  rcases Nat.eq_zero_or_pos fl with q | q
  · exact Or.inl q
  · right
    intro c
    have h1 := (h.2.2.2.2.2 0 q).1 c
    by_cases e : S.1 21 0 = 8
    · have := h1.1 e
      simp [depF] at this
    · have := h1.2 e
      simp [depF] at this
theorem evL_dep {s t : Nat → Int32} {d st o h sd : Int32} {fl : Nat} (hw : WFd s fl) : ∀ i, i ≤ fl → (evL s t d st o h sd i).length = depF s i
  | 0, _ => rfl
  | i + 1, hi => by
    have ih := evL_dep (t := t) (d := d) (st := st) (o := o) (h := h) (sd := sd) hw i (by omega)
    have hw' := hw i (by omega)
    rw [evL, depF]
    by_cases c : 5 < s i
    · rw [if_pos c, if_pos c]
      by_cases c2 : s i = 8
      · rw [if_pos c2, if_pos c2]
        have h1 := (hw'.1 c).1 c2
        rw [← ih] at h1 ⊢
        cases hk : evL s t d st o h sd i with
        | nil => simp [hk] at h1
        | cons a r => simp
      · rw [if_neg c2, if_neg c2]
        have h1 := (hw'.1 c).2 c2
        rw [← ih] at h1 ⊢
        match hk : evL s t d st o h sd i with
        | [] => rw [hk] at h1; exact absurd h1 (by simp)
        | [a] => rw [hk] at h1; exact absurd h1 (by simp)
        | b :: a :: r => simp
    · rw [if_neg c, if_neg c]
      have h1 := hw'.2 c
      rw [← ih] at h1
      rw [if_neg (by omega), List.length_cons, ih]
theorem i5 {k : Nat} (h : k ≤ 16) : (5 < nI k ↔ 5 < k) := nI_lt_i (a := 5) (by decide) (by omega)
theorem clL_a {v : Int32} (h0 : 0 ≤ v) (h1 : v ≤ 99) : clL v = v := by
  have e0 := Int32.le_iff_toInt_le.mp h0
  have e1 := Int32.le_iff_toInt_le.mp h1
  simp only [Int32.toInt_zero] at e0
  unfold clL omax omin
  by_cases c : v < 99
  · rw [if_pos c]
    by_cases c2 : 0 < v
    · rw [if_pos c2]
    · rw [if_neg c2]
      have : ¬ (0 : Int32).toInt < v.toInt := fun z => c2 (Int32.lt_iff_toInt_lt.mpr z)
      rw [Int32.toInt_zero] at this
      apply Int32.toInt_inj.mp
      rw [Int32.toInt_zero]
      omega
  · rw [if_neg c]
    have : ¬ v.toInt < (99 : Int32).toInt := fun z => c (Int32.lt_iff_toInt_lt.mpr z)
    have e : v = 99 := by
      apply Int32.toInt_inj.mp
      omega
    rw [e]
    decide
theorem clL_b {v : Int32} (h1 : ¬ v ≤ 99) : clL v = 99 := by
  unfold clL omax omin
  have c : ¬ v < 99 := fun c => h1 (Int32.le_of_lt c)
  rw [if_neg c]
  decide
theorem clL_c {v : Int32} (h0 : ¬ 0 ≤ v) : clL v = 0 := by
  have e0 : ¬ (0 : Int32).toInt ≤ v.toInt := fun z => h0 (Int32.le_iff_toInt_le.mpr z)
  rw [Int32.toInt_zero] at e0
  have hlt : v < 99 := by
    apply Int32.lt_iff_toInt_lt.mpr
    have : (99 : Int32).toInt = 99 := by decide
    omega
  unfold clL omax omin
  rw [if_pos hlt, if_neg]
  intro c
  have := Int32.lt_iff_toInt_lt.mp c
  rw [Int32.toInt_zero] at this
  omega
section
variable {G : ovG} {S : ovS}
theorem sp_mLoaf {fl : Nat} {d st o h sd : Int32} (hR : FR S fl) : Ex G mX12_loafBy 3 [.ref 412, .int d, .int st, .int o, .int h, .int sd] S (fun r S1 => r = LF S d st o h sd ∧ Fr [420, 421] S S1) := by
  obtain ⟨r1, r2, r3, r4, r5, r6⟩ := hR
  have hLF : LF S d st o h sd = LFl fl (S.1 21) (S.1 22) d st o h sd := by rw [LF, r1, nI_ix (by omega)]
  rw [hLF]
  obtain ⟨Q, hQ⟩ : ∃ Q : Int32 → ovS → Prop, Q = (fun r S1 => r = LFl fl (S.1 21) (S.1 22) d st o h sd ∧ Fr [420, 421] S S1) := ⟨_, rfl⟩
  rw [← hQ]
  refine eX12_loafBy (vX12_loafBy_0 ?_)
  rw [r4, bI_0]
  refine ⟨fun c => ?_, fun c => ?_⟩
  · have hf0 : fl ≠ 0 := fun e => c (by simp [e])
    have h5 : ¬ 5 < S.1 21 0 := by
      obtain ⟨f, f1, f2, f3⟩ := FR.ok ⟨r1, r2, r3, r4, r5, r6⟩
      have : f = fl := (nI_eq_i (by omega) (by omega)).mp (f1.symm.trans r1)
      subst this
      exact f3.resolve_left hf0
    have K77 : ∀ k i : Nat, ∀ S' : ovS, i + k = fl → Fr [420, 421] S S' → SK (S'.1 420) (evL (S.1 21) (S.1 22) d st o h sd i) → (∀ j, j < 5 → S'.1 421 j = (d >>> (nI j &&& 31)) &&& 1) → S'.1 421 5 = st → S'.1 421 6 = o → S'.1 421 7 = h → S'.1 421 8 = sd → RM G mX12_loafBy 3 Q 77 [some (.ref 412), none, none, none, none, none, some (.int (nI (evL (S.1 21) (S.1 22) d st o h sd i).length)), some (.int (nI i))] [] S' := by
      intro k
      induction k with
      | zero =>
        intro i S' hi hF hK a0 a5 a6 a7 a8
        have hi' : i = fl := by omega
        subst hi'
        obtain ⟨m, rfl⟩ : ∃ m, i = m + 1 := ⟨i - 1, by omega⟩
        have hbot := hK.bot (evL_ne _ _ _ _ _ _ _ h5 m)
        refine vX12_loafBy_77 ⟨fun _ => ?_, fun z => absurd (by rw [hF.at 412 rfl, r3]; exact Int32.le_refl _) z⟩
        rw [hbot, hQ]
        simp only [LFl, if_neg hf0]
        exact ⟨fun z => ⟨fun y => ⟨(clL_a z y).symm, hF⟩, fun y => ⟨(clL_b y).symm, hF⟩⟩, fun z => ⟨(clL_c z).symm, hF⟩⟩
      | succ k ih =>
        intro i S' hi hF hK a0 a5 a6 a7 a8
        have hlt : i < fl := by omega
        have hdep := evL_dep (t := S.1 22) (d := d) (st := st) (o := o) (h := h) (sd := sd) r6 i (by omega)
        have hw := r6 i hlt
        have hix : (nI i).toNatClampNeg = i := nI_ix (by omega)
        have hii : vp_in (nI i) 320 := vp_in_nI (by omega) (by decide)
        have e17 := hF.at 417 rfl
        have e18 := hF.at 418 rfl
        have hlen := evL_len (S.1 21) (S.1 22) d st o h sd i
        obtain ⟨l, hl⟩ : ∃ l, evL (S.1 21) (S.1 22) d st o h sd i = l := ⟨_, rfl⟩
        have ih' := ih (i + 1)
        rw [nI_succ] at ih'
        simp only [evL, hl] at ih'
        rw [hl] at hK hdep hlen ⊢
        rw [← hdep] at hw
        have push : ∀ (v : Int32), ¬ 5 < S.1 21 i → fU (S.1 21 i) (S.1 22 i) d st o h sd = v → RM G mX12_loafBy 3 Q 77 [some (.ref 412), none, none, none, none, none, some (.int (nI l.length + 1)), some (.int (nI i + 1))] [] (stI S' 420 l.length v) := by
          intro v c1 hv
          simp only [if_neg c1, if_neg (show ¬ 31 ≤ l.length by have := hw.2 c1; omega), List.length_cons] at ih'
          rw [nI_succ l.length] at ih'
          refine ih' (stI S' 420 l.length v) (by omega) (hF.st rfl) ?_ ?_ ?_ ?_ ?_ ?_
          · rw [stI_self]
            refine ⟨?_, SK_up hK (Nat.le_refl _)⟩
            simp [upd, hv]
          · intro j hj
            rw [stI_row (by decide)]
            exact a0 j hj
          · rw [stI_row (by decide)]; exact a5
          · rw [stI_row (by decide)]; exact a6
          · rw [stI_row (by decide)]; exact a7
          · rw [stI_row (by decide)]; exact a8
        have hlx : (nI l.length).toNatClampNeg = l.length := nI_ix (by omega)
        have hli : vp_in (nI l.length) 64 := vp_in_nI (by omega) (by decide)
        have ask : ∀ (a : Nat) (v : Int32), S.1 417 i = 1 → S.1 418 i = nI a → a < 9 → S'.1 421 a = v → ¬ 5 < S.1 21 i → fU (S.1 21 i) (S.1 22 i) d st o h sd = v → RM G mX12_loafBy 3 Q 107 [some (.ref 412), none, none, none, none, none, some (.int (nI l.length)), some (.int (nI i))] [] S' := by
          intro a v m1 m2 ha hv c1 hu
          refine vX12_loafBy_107 ⟨hii, ?_⟩
          rw [hix, e17, e18, m1, m2, nI_ix (n := a) (by omega), hlx, hv]
          exact ⟨fun _ => ⟨hii, vp_in_nI ha (by decide), hli, fun S2 e2 => by subst e2; exact push v c1 hu⟩, fun z => absurd z (by decide)⟩
        refine vX12_loafBy_77 ⟨fun z => ?_, fun _ => ⟨hii, ?_⟩⟩
        · rw [hF.at 412 rfl, r3, nI_le_i (by omega) (by omega)] at z
          omega
        · rw [hix, e17, e18]
          rcases r5 i hlt with ⟨b1, b2, b3⟩ | ⟨b1, b2, b3, q, hq, b4⟩ | ⟨q, q1, q2, b1, b2, b3⟩ | ⟨b1, b2⟩ | ⟨q, q1, q2, q3, b1, b2, b3⟩
          · rw [b2]
            have c1 : ¬ 5 < S.1 21 i := by rw [b1]; decide
            refine ⟨fun _ => vX12_loafBy_107 ⟨hii, ?_⟩, fun z => absurd rfl z⟩
            rw [hix, e17, e18, b2, hlx]
            exact ⟨fun z => absurd rfl z, fun _ => ⟨hii, hli, fun S3 e3 => by subst e3; exact push _ c1 (by rw [b1, b3]; rfl)⟩⟩
          · rw [b2]
            have c1 : ¬ 5 < S.1 21 i := by rw [b1]; decide
            exact ⟨fun z => absurd z (by decide), fun _ => ⟨hii, fun z => absurd rfl z, fun _ => ask q _ b2 (b3.trans b4) (by omega) (a0 q hq) c1 (by rw [b1, b4]; rfl)⟩⟩
          · rw [b2]
            have c1 : ¬ 5 < S.1 21 i := by rw [b1, i5 (by omega)]; omega
            refine ⟨fun z => absurd z (by decide), fun _ => ⟨hii, fun z => absurd rfl z, fun _ => ?_⟩⟩
            have hq : q = 2 ∨ q = 3 ∨ q = 4 ∨ q = 5 := by omega
            rcases hq with rfl | rfl | rfl | rfl
            · exact ask 5 st b2 b3 (by decide) a5 c1 (by rw [b1]; rfl)
            · exact ask 6 o b2 b3 (by decide) a6 c1 (by rw [b1]; rfl)
            · exact ask 7 h b2 b3 (by decide) a7 c1 (by rw [b1]; rfl)
            · exact ask 8 sd b2 b3 (by decide) a8 c1 (by rw [b1]; rfl)
          · rw [b2]
            have c1 : 5 < S.1 21 i := by rw [b1]; decide
            have hl1 := (hw.1 c1).1 b1
            simp only [if_pos c1, if_pos b1] at ih'
            refine ⟨fun z => absurd z (by decide), fun _ => ⟨hii, fun _ => ⟨hii, fun z => absurd rfl z, fun _ => ?_⟩, fun z => absurd z (by decide)⟩⟩
            obtain ⟨a, r, rfl⟩ : ∃ a r, l = a :: r := by
              cases l with
              | nil => exact absurd hl1 (by simp)
              | cons a r => exact ⟨a, r, rfl⟩
            · skip
              simp only [List.length_cons] at hlen ⊢
              have x3 : (nI r.length).toNatClampNeg = r.length := nI_ix (by omega)
              have hri : vp_in (nI r.length) 64 := vp_in_nI (by omega) (by decide)
              rw [nI2m2, x3]
              have ha : S'.1 420 r.length = a := hK.1
              have fin : ∀ v, (if a = 0 then 1 else 0) = v → RM G mX12_loafBy 3 Q 77 [some (.ref 412), none, none, none, none, none, some (.int (nI (r.length + 1))), some (.int (nI i + 1))] [] (stI S' 420 r.length v) := by
                intro v hv
                refine ih' _ (by omega) (hF.st rfl) ?_ (fun j hj => by rw [stI_row (by decide)]; exact a0 j hj) (by rw [stI_row (by decide)]; exact a5) (by rw [stI_row (by decide)]; exact a6) (by rw [stI_row (by decide)]; exact a7) (by rw [stI_row (by decide)]; exact a8)
                rw [stI_self]
                refine ⟨?_, SK_up hK.2 (Nat.le_refl _)⟩
                simp [upd, hv]
              rw [ha]
              refine ⟨hri, fun c4 => ⟨_, tr0, fun r16 S15 q => ⟨hri, fun S19 e19 => ?_⟩⟩, fun c4 => ⟨_, tr1, fun r16 S15 q => ⟨hri, fun S19 e19 => ?_⟩⟩⟩
              · obtain ⟨q1, q2⟩ := q
                subst q2 e19
                exact fin r16 (by rw [if_neg c4, q1])
              · obtain ⟨q1, q2⟩ := q
                subst q2 e19
                exact fin r16 (by rw [if_pos c4, q1])
          · rw [b2]
            have c1 : 5 < S.1 21 i := by rw [b1, i5 q2]; omega
            have c2 : ¬ S.1 21 i = 8 := by
              rw [b1]
              intro z
              exact q3 ((nI_eq_i (b := 8) (by omega) (by decide)).mp z)
            have hl1 := (hw.1 c1).2 c2
            simp only [if_pos c1, if_neg c2] at ih'
            refine ⟨fun z => absurd z (by decide), fun _ => ⟨hii, fun _ => ⟨hii, fun _ => ⟨hii, ?_⟩, fun z => absurd z (by decide)⟩, fun z => absurd z (by decide)⟩⟩
            obtain ⟨b, a, r, rfl⟩ : ∃ b a r, l = b :: a :: r := by
              cases l with
              | nil => exact absurd hl1 (by simp)
              | cons b l2 =>
                cases l2 with
                | nil => exact absurd hl1 (by simp)
                | cons a r => exact ⟨b, a, r, rfl⟩
            · skip
              simp only [List.length_cons] at hlen ⊢
              have x1 : nI (r.length + 1 + 1) + (-1) = nI (r.length + 1) := nI2m1 _
              have x2 : (nI (r.length + 1)).toNatClampNeg = r.length + 1 := nI_ix (by omega)
              have x3 : (nI r.length).toNatClampNeg = r.length := nI_ix (by omega)
              have hri : vp_in (nI r.length) 64 := vp_in_nI (by omega) (by decide)
              rw [x1, nI2m2, x2, x3]
              have hb : S'.1 420 (r.length + 1) = b := hK.1
              have ha : S'.1 420 r.length = a := hK.2.1
              rw [hb, ha]
              refine ⟨hri, vp_in_nI (by omega) (by decide), _, sp_done, fun r9 S8 q => ⟨hri, fun S12 e12 => ?_⟩⟩
              obtain ⟨d1, d2⟩ := q
              subst d2 e12
              have hv : r9 = fJ (S.1 21 i) a b := by rw [d1, b3, b1]; exact dn_fJ q1 q2 q3 a b
              refine ih' _ (by omega) (hF.st rfl) ?_ (fun j hj => by rw [stI_row (by decide)]; exact a0 j hj) (by rw [stI_row (by decide)]; exact a5) (by rw [stI_row (by decide)]; exact a6) (by rw [stI_row (by decide)]; exact a7) (by rw [stI_row (by decide)]; exact a8)
              rw [stI_self]
              refine ⟨?_, SK_up hK.2.2 (Nat.le_refl _)⟩
              simp [upd, hv]
    have K13 : ∀ k i : Nat, ∀ S' : ovS, i + k = 5 → Fr [420, 421] S S' → (∀ j, j < i → S'.1 421 j = (d >>> (nI j &&& 31)) &&& 1) → RM G mX12_loafBy 3 Q 13 [some (.ref 412), some (.int d), some (.int st), some (.int o), some (.int h), some (.int sd), some (.int (nI i)), none] [] S' := by
      intro k
      induction k with
      | zero =>
        intro i S' hi hF a0
        have : i = 5 := by omega
        subst this
        refine vX12_loafBy_13 ⟨fun _ S2 e2 S3 e3 S4 e4 S5 e5 => ?_, fun z => absurd (by decide) z⟩
        subst e5 e4 e3 e2
        refine K77 fl 0 _ (by omega) ((((hF.st rfl).st rfl).st rfl).st rfl) trivial (fun j hj => ?_) ?_ ?_ ?_ ?_
        · have h5 : ¬ j = 5 := by omega
          have h6 : ¬ j = 6 := by omega
          have h7 : ¬ j = 7 := by omega
          have h8 : ¬ j = 8 := by omega
          simp only [stI_1, if_true, h5, h6, h7, h8, if_false]
          exact a0 j hj
        · simp [stI_1]
        · simp [stI_1]
        · simp [stI_1]
        · simp [stI_1]
      | succ k ih =>
        intro i S' hi hF a0
        refine vX12_loafBy_13 ⟨fun z => absurd ((nI_le_i (a := 5) (by decide) (by omega)).mp z) (by omega), fun _ => ⟨vp_in_nI (by omega) (by decide), fun S6 e6 => ?_⟩⟩
        subst e6
        rw [nI_ix (by omega)]
        have hh := ih (i + 1) (stI S' 421 i (d >>> (nI i &&& 31) &&& 1)) (by omega) (hF.st rfl) (fun j hj => ?_)
        · rw [nI_succ i] at hh
          exact hh
        · rw [stI_self]
          by_cases e : j = i
          · simp [upd, e]
          · simp only [upd, if_neg e]
            exact a0 j (by omega)
    exact K13 5 0 S rfl Fr.rf (fun j hj => absurd hj (by omega))
  · have hf0 : fl = 0 := by simpa using c
    rw [hQ]
    exact ⟨by rw [LFl, if_pos hf0], Fr.rf⟩
end
