/-! ===== odds: ways by loaf, the common divisor ===== -/
def cL (L : Nat → Nat) (v k : Nat) : Nat := fb_ct (fun h => decide (L h = v)) k
def wS (L : Nat → Nat → Nat) (w : Nat → Nat) (N v : Nat) : Nat := fb_sm (fun o => w o * cL (L o) v 10) N
def LN (S : ovS) (st o h : Nat) : Nat := (LF S 0 (nI st) (nI o) (nI h) 0).toNatClampNeg
theorem LN_s (S : ovS) (st o h : Nat) : LN S st o h < 100 ∧ LF S 0 (nI st) (nI o) (nI h) 0 = nI (LN S st o h) := by
  obtain ⟨j, hj, e⟩ := LF_rng S 0 (nI st) (nI o) (nI h) 0
  unfold LN
  rw [e, nI_ix (by omega)]
  exact ⟨hj, rfl⟩
def mn (j : Nat) : Nat := if j < 99 then j + 1 else 99
theorem mn_le (j : Nat) : mn j ≤ 99 := by
  unfold mn
  split <;> omega
def wN (S : ovS) (st l0 : Nat) : Nat → Nat × (Nat → Nat)
  | 0 => (st, fun v => if v = l0 then 1 else 0)
  | k + 1 => (mn (wN S st l0 k).1, wS (LN S (mn (wN S st l0 k).1)) (wN S st l0 k).2 100)
theorem sm_swap (f : Nat → Nat → Nat) (M : Nat) : ∀ N, fb_sm (fun v => fb_sm (fun o => f o v) N) M = fb_sm (fun o => fb_sm (fun v => f o v) M) N
  | 0 => by
    show fb_sm (fun _ => 0) M = 0
    rw [fb_sm_const, Nat.mul_zero]
  | N + 1 => by
    show fb_sm (fun v => fb_sm (fun o => f o v) N + f N v) M = _
    rw [fb_sm_add, sm_swap f M N]
    rfl
theorem sm_one (a : Nat) : ∀ M, fb_sm (fun v => if decide (a = v) then 1 else 0) M = if a < M then 1 else 0
  | 0 => by simp [fb_sm]
  | M + 1 => by
    rw [fb_sm_succ, sm_one a M]
    by_cases h : a = M
    · rw [if_neg (by omega), if_pos (by simpa using h), if_pos (by omega)]
    · by_cases h2 : a < M
      · rw [if_pos h2, if_neg (by simpa using h), if_pos (by omega)]
      · rw [if_neg h2, if_neg (by simpa using h), if_neg (by omega)]
theorem sm_cL {L : Nat → Nat} {M : Nat} : ∀ k, (∀ h, h < k → L h < M) → fb_sm (fun v => cL L v k) M = k
  | 0, _ => by
    show fb_sm (fun _ => 0) M = 0
    rw [fb_sm_const, Nat.mul_zero]
  | k + 1, h => by
    show fb_sm (fun v => cL L v k + (if decide (L k = v) then 1 else 0)) M = k + 1
    rw [fb_sm_add, sm_cL k (fun j hj => h j (by omega)), sm_one, if_pos (h k (by omega))]
theorem sm_mul (c : Nat) (f : Nat → Nat) : ∀ N, fb_sm (fun o => c * f o) N = c * fb_sm f N
  | 0 => rfl
  | N + 1 => by rw [fb_sm_succ, fb_sm_succ, sm_mul c f N, Nat.mul_add]
theorem wS_tot {L : Nat → Nat → Nat} {w : Nat → Nat} (hL : ∀ o h, L o h < 100) : fb_sm (wS L w 100) 100 = 10 * fb_sm w 100 := by
  have e : fb_sm (wS L w 100) 100 = fb_sm (fun v => fb_sm (fun o => w o * cL (L o) v 10) 100) 100 := rfl
  rw [e, sm_swap (fun o v => w o * cL (L o) v 10) 100 100, ← sm_mul]
  refine fb_sm_cong (fun o _ => ?_)
  show fb_sm (fun v => w o * cL (L o) v 10) 100 = _
  rw [sm_mul, sm_cL 10 (fun h _ => hL o h), Nat.mul_comm]
theorem wN_tot {S : ovS} {st l0 : Nat} (h : l0 < 100) : ∀ k, fb_sm (wN S st l0 k).2 100 = 10 ^ k
  | 0 => by
    have := sm_one l0 100
    rw [if_pos h] at this
    rw [Nat.pow_zero, ← this]
    refine fb_sm_cong (fun v _ => ?_)
    show (if v = l0 then 1 else 0) = _
    by_cases e : v = l0
    · rw [if_pos e, if_pos (by simp [e])]
    · rw [if_neg e, if_neg (by simpa using fun z => e z.symm)]
  | k + 1 => by
    show fb_sm (wS (LN S (mn (wN S st l0 k).1)) (wN S st l0 k).2 100) 100 = _
    rw [wS_tot (fun o h => (LN_s _ _ _ _).1), wN_tot h k, Nat.pow_succ, Nat.mul_comm]
theorem wN_le {S : ovS} {st l0 v : Nat} (h : l0 < 100) (k : Nat) (hv : v < 100) : (wN S st l0 k).2 v ≤ 10 ^ k := by
  have := fb_sm_part (wN S st l0 k).2 hv
  rw [wN_tot h] at this
  omega
theorem wN_st {S : ovS} {st l0 : Nat} (h : st ≤ 99) : ∀ k, (wN S st l0 k).1 ≤ 99
  | 0 => h
  | k + 1 => mn_le _
def hiN (w : Nat → Nat) (least : Int32) (N : Nat) : Nat := fb_sm (fun v => if nI v < least then 0 else w v) N
theorem hiN_le {w : Nat → Nat} {least : Int32} {N : Nat} : hiN w least N ≤ fb_sm w N := fb_sm_le (fun k _ => by show (if nI k < least then 0 else w k) ≤ w k; split <;> omega)
theorem p10 {k : Nat} (h : k ≤ 6) : 10 ^ k ≤ 1000000 := Nat.pow_le_pow_right (n := 10) (by decide) h
def odG (w : Nat → Nat) (k : Nat) (least part : Int32) : Int32 := if part = 0 then nI (hiN w least 100) / nI (Nat.gcd (10 ^ k) (hiN w least 100)) else nI (10 ^ k) / nI (Nat.gcd (10 ^ k) (hiN w least 100))
def eu : Nat → Nat → Nat → Nat
  | 0, a, _ => a
  | k + 1, a, b => if b = 0 then a else eu k b (a % b)
theorem eu_gcd : ∀ k a b : Nat, b < 2 ^ k → eu (2 * k) a b = Nat.gcd a b
  | 0, a, b, h => by
    have : b = 0 := by simpa using h
    rw [this, Nat.gcd_zero_right]
    rfl
  | k + 1, a, b, h => by
    rw [show 2 * (k + 1) = 2 * k + 1 + 1 by omega, eu]
    by_cases hb : b = 0
    · rw [if_pos hb, hb, Nat.gcd_zero_right]
    · rw [if_neg hb, eu]
      by_cases hr : a % b = 0
      · rw [if_pos hr, Nat.gcd_comm, Nat.gcd_rec, hr, Nat.gcd_zero_left]
      · have h1 : a % b < b := Nat.mod_lt _ (by omega)
        have h2 : b % (a % b) < a % b := Nat.mod_lt _ (by omega)
        have h3 := Nat.div_add_mod b (a % b)
        have h4 : 1 ≤ b / (a % b) := Nat.div_pos (Nat.le_of_lt h1) (by omega)
        have h5 : a % b ≤ a % b * (b / (a % b)) := Nat.le_mul_of_pos_right _ h4
        rw [if_neg hr, eu_gcd k (a % b) (b % (a % b)) (by rw [Nat.pow_succ] at h; omega), Nat.gcd_comm a b, Nat.gcd_rec b a, Nat.gcd_rec (a % b) b, Nat.gcd_comm]
theorem orem_n {a b : Nat} (ha : a < 2147483648) (hb : b < 2147483648) (h0 : b ≠ 0) : orem (nI a) (nI b) = nI (a % b) := pk_rem ha (by omega) hb
section
variable {G : ovG} {S : ovS} {n m : Nat}
theorem sp_comDiv {a b : Nat} (ha : a < 2147483648) (hb : b < 2147483648) : Ex G mX4_commonDivisor 1 [.int (nI b), .int (nI a)] S (fun r S1 => r = nI (Nat.gcd a b) ∧ S1 = S) := by
  have key : ∀ d i a' b' : Nat, i + d = 64 → a' < 2147483648 → b' < 2147483648 → eu d a' b' = Nat.gcd a b → RM G mX4_commonDivisor 1 (fun r S1 => r = nI (Nat.gcd a b) ∧ S1 = S) 7 [none, none, some (.int (nI a')), some (.int (nI b')), some (.int (nI i)), none] [] S := by
    intro d
    induction d with
    | zero =>
      intro i a' b' hi h1 h2 he
      have : i = 64 := by omega
      subst this
      refine vX4_commonDivisor_7 ⟨fun _ => ⟨by rw [← he]; rfl, rfl⟩, fun c => absurd (by decide) c⟩
    | succ d ih =>
      intro i a' b' hi h1 h2 he
      rw [eu] at he
      refine vX4_commonDivisor_7 ⟨fun c => absurd ((nI_le_i (a := 64) (by decide) (by omega)).mp c) (by omega), fun _ => ?_⟩
      rw [show (0 : Int32) = nI 0 from rfl, nI_eq_i h2 (by decide)]
      refine ⟨fun c => ⟨?_, rfl⟩, fun c => ⟨c, ?_⟩⟩
      · rw [if_pos c] at he
        rw [he]
      · rw [if_neg c] at he
        have hm : a' % b' < b' := Nat.mod_lt _ (by omega)
        have hh := ih (i + 1) b' (a' % b') (by omega) h2 (by omega) he
        rw [orem_n h1 h2 c]
        rw [nI_succ i] at hh
        exact hh
  exact eX4_commonDivisor (vX4_commonDivisor_0 (key 64 0 a b (by omega) ha hb (eu_gcd 32 a b (by omega))))
theorem sp_mCommon {a b : Nat} (ha : a < 2147483648) (hb : b < 2147483648) : Ex G mX12_common 1 [.int (nI a), .int (nI b)] S (fun r S1 => r = nI (Nat.gcd a b) ∧ S1 = S) := by
  have key : ∀ N a' b' : Nat, b' < N → a' < 2147483648 → b' < 2147483648 → Nat.gcd a' b' = Nat.gcd a b → RM G mX12_common 1 (fun r S1 => r = nI (Nat.gcd a b) ∧ S1 = S) 4 [none, none, some (.int (nI a')), some (.int (nI b')), none] [] S := by
    intro N
    induction N with
    | zero => intro a' b' h; omega
    | succ N ih =>
      intro a' b' hN h1 h2 he
      refine vX12_common_4 ?_
      rw [show (0 : Int32) = nI 0 from rfl, nI_le_i h2 (by decide), nI_eq_i h2 (by decide)]
      refine ⟨fun c => ⟨?_, rfl⟩, fun c => ⟨by omega, ?_⟩⟩
      · have : b' = 0 := by omega
        rw [this, Nat.gcd_zero_right] at he
        rw [he]
      · have hm : a' % b' < b' := Nat.mod_lt _ (by omega)
        rw [orem_n h1 h2 (by omega)]
        refine ih b' (a' % b') (by omega) h2 (by omega) ?_
        rw [← he, Nat.gcd_comm a' b', Nat.gcd_rec b' a', Nat.gcd_comm]
  exact eX12_common (vX12_common_0 (key (b + 1) a b (by omega) ha hb rfl))
theorem LN_fr {S1 : ovS} (h : LF S1 = LF S) : LN S1 = LN S := by
  funext a b c
  unfold LN
  rw [h]
theorem FOk.fr {L : List Nat} {S1 : ovS} (hf : FOk S) (hF : Fr L S S1) (h : (L.contains 20 || L.contains 21) = false) : FOk S1 := by
  rw [Bool.or_eq_false_iff] at h
  obtain ⟨fl, f1, f2, f3⟩ := hf
  exact ⟨fl, by rw [hF.at 20 h.1]; exact f1, f2, by rw [hF.at 21 h.2]; exact f3⟩
theorem sp_spread {st : Nat} {w : Nat → Nat} (hf : FOk S) (hst : S.1 373 3 = nI st) (hw : ∀ v, v < 100 → S.1 374 v = nI (w v) ∧ w v < 2147483648) : Ex G mX4_spreadWays 3 [.ref 373] S (fun _ S1 => Fr [23, 374, 375] S S1 ∧ ∀ v, v < 100 → S1.1 374 v = nI (wS (LN S st) w 100 v)) := by
  obtain ⟨Q, hQ⟩ : ∃ Q : Int32 → ovS → Prop, Q = (fun _ S1 => Fr [23, 374, 375] S S1 ∧ ∀ v, v < 100 → S1.1 374 v = nI (wS (LN S st) w 100 v)) := ⟨_, rfl⟩
  rw [← hQ]
  have key : ∀ d o : Nat, ∀ S' : ovS, o + d = 100 → Fr [23, 375] S S' → (∀ v, v < 100 → S'.1 375 v = nI (wS (LN S st) w o v)) → RM G mX4_spreadWays 3 Q 10 [some (.ref 373), some (.int (nI o)), none, none] [] S' := by
    intro d
    induction d with
    | zero =>
      intro o S' ho hF h
      have : o = 100 := by omega
      subst this
      refine vX4_spreadWays_10 ⟨fun _ S2 e2 => ?_, fun c => absurd (by decide) c⟩
      rw [hQ]
      subst e2
      refine ⟨(hF.mono rfl).cp rfl, fun v hv => ?_⟩
      rw [cpI_self hv]
      exact h v hv
    | succ d ih =>
      intro o S' ho hF h
      refine vX4_spreadWays_10 ⟨fun c => absurd ((nI_le_i (a := 100) (by decide) (by omega)).mp c) (by omega), fun _ => ?_⟩
      have inner : ∀ e k : Nat, ∀ S'' : ovS, k + e = 10 → Fr [23, 375] S S'' → (∀ v, v < 100 → S''.1 375 v = nI (wS (LN S st) w o v + w o * cL (LN S st o) v k)) → RM G mX4_spreadWays 3 Q 18 [some (.ref 373), some (.int (nI o)), some (.int (nI k)), none] [] S'' := by
        intro e
        induction e with
        | zero =>
          intro k S'' hk hF2 h2
          have : k = 10 := by omega
          subst this
          have hh := ih (o + 1) S'' (by omega) hF2 (fun v hv => h2 v hv)
          rw [nI_succ o] at hh
          exact vX4_spreadWays_18 ⟨fun _ => hh, fun c => absurd (by decide) c⟩
        | succ e ih2 =>
          intro k S'' hk hF2 h2
          have e374 : S''.1 374 o = nI (w o) := by rw [hF2.at 374 rfl]; exact (hw o (by omega)).1
          refine vX4_spreadWays_18 ⟨fun c => absurd ((nI_le_i (a := 10) (by decide) (by omega)).mp c) (by omega), fun _ => ⟨vp_in_nI (by omega) (by decide), ?_⟩⟩
          rw [nI_ix (n := o) (by omega), e374, show (0 : Int32) = nI 0 from rfl, nI_le_i (hw o (by omega)).2 (by decide), hF2.at 373 rfl, hst]
          refine ⟨fun c => ?_, fun c => ⟨_, sp_LF (hf.fr hF2 rfl), fun r5 S4 q => ?_⟩⟩
          · have hw0 : w o = 0 := by omega
            have hh := ih (o + 1) S'' (by omega) hF2 (fun v hv => by
              rw [h2 v hv, wS, wS, fb_sm_succ, hw0, Nat.zero_mul, Nat.zero_mul])
            rw [nI_succ o] at hh
            exact hh
          · obtain ⟨q1, q2⟩ := q
            rw [LF_sm' (hF2.at 20 rfl) (hF2.at 21 rfl) (hF2.at 22 rfl), show nI 0 = (0 : Int32) from rfl, (LN_s S st o k).2] at q1
            have hl := (LN_s S st o k).1
            have i100 : vp_in r5 100 := by rw [q1]; exact vp_in_nI hl (by decide)
            have ix5 : r5.toNatClampNeg = LN S st o k := by rw [q1]; exact nI_ix (by omega)
            refine ⟨fun c2 => ?_, fun _ => ⟨fun c2 => ?_, fun _ => ⟨i100, vp_in_nI (by omega) (by decide), i100, fun S10 e10 => ?_⟩⟩⟩
            · rw [q1] at c2
              exact absurd c2 (nI_neg (by omega))
            · rw [q1] at c2
              exact absurd ((nI_le_i (a := 100) (by decide) (by omega)).mp c2) (by omega)
            · rw [ix5, q2.at 375 rfl, h2 _ hl, q2.at 374 rfl, e374, nI_add] at e10
              have hh := ih2 (k + 1) S10 (by omega) (by rw [e10]; exact (hF2.tr (q2.mono rfl)).st rfl) (fun v hv => ?_)
              · rw [nI_succ k] at hh
                exact hh
              · have ec : cL (LN S st o) v (k + 1) = cL (LN S st o) v k + (if decide (LN S st o k = v) then 1 else 0) := rfl
                rw [e10, stI_1, if_pos rfl, ec]
                by_cases ev : v = LN S st o k
                · rw [if_pos ev, if_pos (by simp [ev]), ev, Nat.mul_add, Nat.mul_one, Nat.add_assoc]
                · rw [if_neg ev, if_neg (by simpa using fun z => ev z.symm), Nat.add_zero, q2.at 375 rfl]
                  exact h2 v hv
      refine inner 10 0 S' (by omega) hF (fun v hv => ?_)
      rw [h v hv]
      congr 1
  refine eX4_spreadWays (vX4_spreadWays_0 ⟨_, sp_fill (n := 100) ov_c375 (by decide +kernel) (by decide), fun r3 S2 q => ?_⟩)
  refine key 100 0 S2 (by omega) (by rw [q]; exact Fr.rf.se rfl) (fun v hv => ?_)
  rw [q, seI_self]
  simp only [fillR, if_pos hv]
  rfl
theorem omax_g {g : Nat} (h0 : 0 < g) (h : g < 2147483648) : omax 1 (nI g) = nI g := by
  unfold omax
  by_cases c : (1 : Int32) < nI g
  · rw [if_pos c]
  · rw [if_neg c]
    have : ¬ 1 < g := fun z => c ((nI_lt_i (a := 1) (by decide) h).mpr z)
    have : g = 1 := by omega
    rw [this]
    rfl
theorem sp_oddsB {s st l0 k : Nat} {least part : Int32} (hf : FOk S) (hs : s < 5) (hk : k ≤ 6) (h27 : S.1 27 s = nI st) (hst : st ≤ 99) (hl : gLo S s (gSd (S.1 26)) = nI l0) (hl0 : l0 < 100) : Ex G mX4_oddsBehind 6 [.ref 373, .int (nI s), .int (nI k), .int least, .int part] S (fun r S1 => r = odG (wN S st l0 k).2 k least part ∧ Fr [23, 373, 374, 375] S S1) := by
  obtain ⟨Q, hQ⟩ : ∃ Q : Int32 → ovS → Prop, Q = (fun r S1 => r = odG (wN S st l0 k).2 k least part ∧ Fr [23, 373, 374, 375] S S1) := ⟨_, rfl⟩
  rw [← hQ]
  have h10 := p10 hk
  have sums : ∀ d j : Nat, ∀ S' : ovS, j + d = 100 → Fr [23, 373, 374, 375] S S' → (∀ v, v < 100 → S'.1 374 v = nI ((wN S st l0 k).2 v)) → RM G mX4_oddsBehind 6 Q 89 [some (.ref 373), none, none, some (.int least), some (.int part), some (.int (nI (10 ^ k))), some (.int (nI (hiN (wN S st l0 k).2 least j))), some (.int (nI j))] [] S' := by
    intro d
    induction d with
    | zero =>
      intro j S' hj hF h
      have : j = 100 := by omega
      subst this
      have hh : hiN (wN S st l0 k).2 least 100 ≤ 10 ^ k := by rw [← wN_tot (S := S) (st := st) hl0 k]; exact hiN_le
      have hg : 0 < Nat.gcd (10 ^ k) (hiN (wN S st l0 k).2 least 100) := Nat.gcd_pos_of_pos_left _ (Nat.pow_pos (by decide))
      have hg2 : Nat.gcd (10 ^ k) (hiN (wN S st l0 k).2 least 100) ≤ 10 ^ k := Nat.gcd_le_left _ (Nat.pow_pos (by decide))
      refine vX4_oddsBehind_89 ⟨fun _ => ⟨_, sp_comDiv (by omega) (by omega), fun r4 S3 q => ?_⟩, fun c => absurd (by decide) c⟩
      obtain ⟨q1, q2⟩ := q
      subst q2
      rw [q1, omax_g hg (by omega), hQ]
      have hne : ¬ nI (Nat.gcd (10 ^ k) (hiN (wN S st l0 k).2 least 100)) = 0 := nI_ne0 hg (by omega)
      exact ⟨fun c => ⟨hne, by rw [odG, if_neg c], hF⟩, fun c => ⟨hne, by rw [odG, if_pos c], hF⟩⟩
    | succ d ih =>
      intro j S' hj hF h
      have hh := ih (j + 1) S' (by omega) hF h
      have es : hiN (wN S st l0 k).2 least (j + 1) = hiN (wN S st l0 k).2 least j + (if nI j < least then 0 else (wN S st l0 k).2 j) := rfl
      rw [nI_succ j, es] at hh
      refine vX4_oddsBehind_89 ⟨fun c => absurd ((nI_le_i (a := 100) (by decide) (by omega)).mp c) (by omega), fun _ => ⟨fun c => ?_, fun c => ⟨vp_in_nI (by omega) (by decide), ?_⟩⟩⟩
      · rw [if_pos c] at hh
        exact hh
      · rw [if_neg c] at hh
        rw [nI_ix (n := j) (by omega), h j (by omega), nI_add]
        exact hh
  have key : ∀ d i : Nat, ∀ S' : ovS, i + d = k → Fr [23, 373, 374, 375] S S' → S'.1 373 3 = nI (wN S st l0 i).1 → (∀ v, v < 100 → S'.1 374 v = nI ((wN S st l0 i).2 v)) → RM G mX4_oddsBehind 6 Q 45 [some (.ref 373), none, some (.int (nI k)), some (.int least), some (.int part), some (.int (nI (10 ^ i))), some (.int (nI i)), none] [] S' := by
    intro d
    induction d with
    | zero =>
      intro i S' hi hF h1 h2
      have : i = k := by omega
      subst this
      exact vX4_oddsBehind_45 ⟨fun _ => sums 100 0 S' (by omega) hF h2, fun c => absurd (Int32.le_refl _) c⟩
    | succ d ih =>
      intro i S' hi hF h1 h2
      refine vX4_oddsBehind_45 ⟨fun c => absurd ((nI_le_i (by omega) (by omega)).mp c) (by omega), fun _ S2 e2 => ?_⟩
      rw [h1, omin_r _ (by have := wN_st (S := S) (l0 := l0) hst i; omega)] at e2
      have hF2 : Fr [23, 373, 374, 375] S S2 := by rw [e2]; exact hF.st rfl
      have f3 : S2.1 373 3 = nI (mn (wN S st l0 i).1) := by rw [e2, stI_1]; rfl
      have hb : 10 ^ i ≤ 1000000 := p10 (by omega)
      refine ⟨_, sp_spread (st := mn (wN S st l0 i).1) (w := (wN S st l0 i).2) (hf.fr hF2 rfl) f3 (fun v hv => ⟨by rw [e2, stI_row (by decide)]; exact h2 v hv, by have := wN_le (S := S) (st := st) hl0 i hv; omega⟩), fun r5 S4 q => ?_⟩
      obtain ⟨q1, q2⟩ := q
      rw [LN_fr (LF_sm' (hF2.at 20 rfl) (hF2.at 21 rfl) (hF2.at 22 rfl))] at q2
      have hh := ih (i + 1) S4 (by omega) (hF2.tr (q1.mono rfl)) (by rw [q1.at 373 rfl]; exact f3) q2
      rw [nI_succ i, Nat.pow_succ] at hh
      rw [show (10 : Int32) = nI 10 from rfl, pk_mul]
      exact hh
  refine eX4_oddsBehind (vX4_oddsBehind_0 ⟨_, sp_start hf hs, fun r3 S2 q => ⟨_, sp_fill (n := 100) ov_c374 (by decide +kernel) (by decide), fun r8 S7 q7 => ?_⟩⟩)
  obtain ⟨q1, q2⟩ := q
  have a1 : S2.1 373 3 = nI st := by rw [← h27]; exact congrArg (fun t => t.1) q2
  have a2 : S2.1 373 2 = nI l0 := by rw [← hl]; exact congrArg (fun t => t.2.2) q2
  have b2 : S7.1 373 = S2.1 373 := by rw [q7, seI_row (by decide)]
  rw [b2, a2, nI_ix (n := l0) (by omega)]
  refine ⟨fun c => absurd c (nI_neg (by omega)), fun _ => ⟨fun c => absurd ((nI_le_i (a := 100) (by decide) (by omega)).mp c) (by omega), fun _ => ⟨vp_in_nI hl0 (by decide), fun S13 e13 => ?_⟩⟩⟩
  refine key k 0 S13 (by omega) (by rw [e13, q7]; exact ((q1.mono rfl).se rfl).st rfl) (by rw [e13, stI_row (by decide), b2]; exact a1) (fun v hv => ?_)
  rw [e13, stI_1, if_pos rfl, q7, seI_self]
  show (if v = l0 then 1 else fillR (S2.1 374) 100 0 v) = nI (if v = l0 then 1 else 0)
  by_cases ev : v = l0
  · rw [if_pos ev, if_pos ev]
    rfl
  · rw [if_neg ev, if_neg ev, fillR, if_pos hv]
    rfl
end
