/-! ===== the Reports ===== -/
/-- REPORT j is known at k and has another LOAF -/
def rpF (S : ovS) (d k : Int32) : Nat → Bool := fun j => decide (¬ k < S.1 381 j) && (decide (S.1 382 j = -1) || decide (k < S.1 382 j)) && decide (¬ LF S d (S.1 377 j) (S.1 378 j) (S.1 379 j) 0 = S.1 380 j)
def CR (S : ovS) (c : Nat) : Prop := S.1 376 1 = nI c ∧ c ≤ 30
def fitP (S : ovS) (c : Nat) (k : Int32) : Nat → Bool := fun d => !anyN c (rpF S (nI d) k)
theorem rpF_fr {S S1 : ovS} (hF : Fr [23] S S1) : rpF S1 = rpF S := by
  have e := LF_fr hF rfl
  funext d k j
  simp only [rpF, e, hF.at 377 rfl, hF.at 378 rfl, hF.at 379 rfl, hF.at 380 rfl, hF.at 381 rfl, hF.at 382 rfl]
section
variable {G : ovG} {S : ovS} {c : Nat}
theorem sp_fitsAll {d k : Int32} (hf : FOk S) (hc : CR S c) : Ex G mX6_fitsAll 3 [.ref 376, .int d, .int k] S (fun r S1 => r = bI (!anyN c (rpF S d k)) ∧ Fr [23] S S1) := by
  have hc30 := hc.2
  have key : ∀ e i : Nat, ∀ S' : ovS, i + e = c → anyN i (rpF S d k) = false → Fr [23] S S' → RM G mX6_fitsAll 3 (fun r S1 => r = bI (!anyN c (rpF S d k)) ∧ Fr [23] S S1) 2 [some (.ref 376), some (.int d), some (.int k), some (.int (nI i)), none] [] S' := by
    intro e
    induction e with
    | zero =>
      intro i S' hi hq hF
      have : i = c := by omega
      subst this
      exact vX6_fitsAll_2 ⟨fun _ => ⟨by rw [hq]; rfl, hF⟩, fun z => absurd (by rw [hF.at 376 rfl, hc.1]; exact Int32.le_refl _) z⟩
    | succ e ih =>
      intro i S' hi hq hF
      have hii : vp_in (nI i) 30 := vp_in_nI (by omega) (by decide)
      have hix : (nI i).toNatClampNeg = i := nI_ix (by omega)
      have ih' := fun S3 => ih (i + 1) S3 (by omega)
      rw [nI_succ] at ih'
      have h34 : (decide (S.1 382 i = -1) || decide (k < S.1 382 i)) = true → RM G mX6_fitsAll 3 (fun r S1 => r = bI (!anyN c (rpF S d k)) ∧ Fr [23] S S1) 34 [some (.ref 376), some (.int d), some (.int k), some (.int (nI i)), none] [] S' := by
        intro hu
        refine vX6_fitsAll_34 ⟨hii, ?_⟩
        rw [hix, hF.at 381 rfl, hF.at 377 rfl, hF.at 378 rfl, hF.at 379 rfl]
        refine ⟨fun z => ih' S' (by simp [anyN, hq, rpF, z]) hF, fun z => ⟨fun w => absurd rfl w, fun _ => ⟨hii, hii, hii, _, sp_LF (FOk_fr hF rfl hf), fun r5 S4 q => ⟨hii, ?_⟩⟩⟩⟩
        rw [q.2.at 380 rfl, hF.at 380 rfl, q.1, LF_fr hF rfl]
        refine ⟨fun w => ih' S4 (by simp [anyN, hq, rpF, w]) (hF.tr q.2), fun w => ⟨?_, hF.tr q.2⟩⟩
        have : anyN c (rpF S d k) = true := anyN_iff.mpr ⟨i, by omega, by
          simp only [rpF, hu]
          simp [z, w]⟩
        rw [this]
        rfl
      refine vX6_fitsAll_2 ⟨fun z => absurd z (nI_next (by rw [hF.at 376 rfl]; exact hc.1) (by omega) (by omega)), fun _ => ⟨hii, ?_⟩⟩
      rw [hix, hF.at 382 rfl, hF.at 381 rfl]
      refine ⟨fun z => h34 (by simp [z]), fun z => ⟨hii, fun w => h34 (by simp [w]), fun w => ⟨hii, fun y => ?_, fun y => ⟨fun _ => ?_, fun x => absurd x (by decide)⟩⟩⟩⟩
      · exact ih' S' (by simp [anyN, hq, rpF, y]) hF
      · exact ih' S' (by simp [anyN, hq, rpF, z, w]) hF
  exact eX6_fitsAll (vX6_fitsAll_0 (key c 0 S (by omega) rfl Fr.rf))
theorem sp_fitting {k : Int32} {m : Nat} (hf : FOk S) (hc : CR S c) (hm : CD S m) : Ex G mX6_fittingSets 4 [.ref 376, .int k] S (fun r S1 => r = nI (mk (fitP S c k) (2 ^ m)) ∧ Fr [23] S S1) := by
  have hp := pow5 hm.2
  have hm5 := hm.2
  have key : ∀ e i : Nat, ∀ S' : ovS, i + e = 2 ^ m → Fr [23] S S' → RM G mX6_fittingSets 4 (fun r S1 => r = nI (mk (fitP S c k) (2 ^ m)) ∧ Fr [23] S S1) 4 [some (.ref 376), some (.int k), some (.int (nI (mk (fitP S c k) i))), some (.int (nI i))] [] S' := by
    intro e
    induction e with
    | zero =>
      intro i S' hi hF
      have : i = 2 ^ m := by omega
      subst this
      exact vX6_fittingSets_4 ⟨fun _ => ⟨rfl, hF⟩, fun z => absurd (by rw [hF.at 16 rfl, hm.1, sh1 m (by omega)]; exact Int32.le_refl _) z⟩
    | succ e ih =>
      intro i S' hi hF
      refine vX6_fittingSets_4 ⟨fun z => ?_, fun _ => ⟨_, sp_fitsAll (FOk_fr hF rfl hf) ⟨by rw [hF.at 376 rfl]; exact hc.1, hc.2⟩, fun r4 S3 q => ?_⟩⟩
      · rw [hF.at 16 rfl, hm.1, sh1 m (by omega), nI_le_i (by omega) (by omega)] at z
        omega
      · have h := ih (i + 1) S3 (by omega) (hF.tr q.2)
        rw [nI_succ i] at h
        rw [q.1, bI_0, rpF_fr hF]
        refine ⟨fun z => ?_, fun z => ?_⟩
        · rw [mk_f (i := i) z] at h
          exact h
        · rw [← mk_t (i := i) (by omega) (by cases hh : fitP S c k i with | true => rfl | false => exact absurd hh z)] at h
          exact h
  exact eX6_fittingSets (vX6_fittingSets_0 (key (2 ^ m) 0 S (Nat.zero_add _) Fr.rf))
theorem nI_z {x : Nat} (h : x < 2 ^ 32) : nI x = 0 ↔ x = 0 := by
  constructor
  · intro e
    have h1 := pk_tn h
    rw [e] at h1
    exact h1.symm
  · rintro rfl
    rfl
theorem mk_z {p : Nat → Bool} {n : Nat} : mk p n = 0 ↔ anyN n p = false := by
  constructor
  · intro h
    cases hh : anyN n p with
    | false => rfl
    | true =>
      obtain ⟨i, h1, h2⟩ := anyN_iff.mp hh
      have := mk_bit p i n
      rw [h, h2] at this
      simp [h1] at this
  · intro h
    apply Nat.eq_of_testBit_eq
    intro j
    rw [mk_bit, Nat.zero_testBit]
    by_cases hj : j < n
    · cases hp : p j with
      | false => simp
      | true => rw [anyN_iff.mpr ⟨j, hj, hp⟩] at h; cases h
    · simp [hj]
theorem mk_and {p q : Nat → Bool} {n : Nat} : mk p n &&& mk q n = mk (fun i => p i && q i) n := by
  apply Nat.eq_of_testBit_eq
  intro j
  rw [Nat.testBit_and, mk_bit, mk_bit, mk_bit]
  by_cases hj : j < n <;> simp [hj]
theorem mk_lt32 {p : Nat → Bool} {n : Nat} (h : n ≤ 32) : mk p n < 2 ^ 32 := Nat.lt_of_lt_of_le (mk_lt p n) (Nat.pow_le_pow_right (by decide) h)
theorem m1_nI : (-1 : Int32) = nI (2 ^ 32 - 1) := by decide
theorem mk_not {p q : Nat → Bool} {n : Nat} (h : n ≤ 32) : mk p n &&& (mk q n ^^^ (2 ^ 32 - 1)) = mk (fun i => p i && !(q i)) n := by
  apply Nat.eq_of_testBit_eq
  intro j
  rw [Nat.testBit_and, Nat.testBit_xor, mk_bit, mk_bit, mk_bit, Nat.testBit_two_pow_sub_one]
  by_cases hj : j < n
  · have : j < 32 := by omega
    simp [hj, this]
  · simp [hj]
/-- is a DEED sure, by the sets that FIT -/
def suF (p : Nat → Bool) (N d : Nat) : Int32 := if anyN N p = false then -1 else if anyN N (fun i => p i && i.testBit d) = false then 0 else if anyN N (fun i => p i && !(i.testBit d)) = false then 1 else -2
theorem sp_sure {k : Int32} {m d : Nat} (hf : FOk S) (hc : CR S c) (hm : CD S m) (hd : d < 5) : Ex G mX6_sureOf 5 [.ref 376, .int (nI d), .int k] S (fun r S1 => r = suF (fitP S c k) (2 ^ m) d ∧ Fr [23] S S1) := by
  have hp := pow5 hm.2
  have hm5 := hm.2
  refine eX6_sureOf (vX6_sureOf_0 ⟨_, sp_fitting hf hc hm, fun r3 S2 q2 => ?_⟩)
  obtain ⟨p, hp0⟩ : ∃ p, p = fitP S c k := ⟨_, rfl⟩
  rw [← hp0] at q2 ⊢
  rw [q2.1]
  have h16 : (1 : Int32) <<< (S2.1 16 1 &&& 31) = nI (2 ^ m) := by rw [q2.2.at 16 rfl, hm.1, sh1 m (by omega)]
  have hN : 2 ^ m ≤ 32 := hp
  refine loopUp (n := 2 ^ m) (P := fun i => RM G mX6_sureOf 5 (fun r S1 => r = suF p (2 ^ m) d ∧ Fr [23] S S1) 12 [some (.ref 376), some (.int (nI d)), none, some (.int (nI (mk p (2 ^ m)))), some (.int (nI (mk (fun i => i.testBit d) i))), some (.int (nI i))] [] S2) ?_ ?_ 0 (Nat.zero_le _)
  · refine vX6_sureOf_12 ⟨fun _ => ?_, fun z => absurd (by rw [h16]; exact Int32.le_refl _) z⟩
    rw [m1_nI, fb_xorI, fa_and, fa_and, mk_and, mk_not hN, nI_z (mk_lt32 hN), nI_z (mk_lt32 hN), nI_z (mk_lt32 hN), mk_z, mk_z, mk_z]
    refine ⟨fun z => ⟨fun y => ⟨fun x => ⟨?_, q2.2⟩, fun x => ⟨?_, q2.2⟩⟩, fun y => ⟨?_, q2.2⟩⟩, fun z => ⟨?_, q2.2⟩⟩
    · rw [suF, if_neg z, if_neg y, if_neg x]
    · rw [suF, if_neg z, if_neg y, if_pos x]
    · rw [suF, if_neg z, if_pos y]
    · rw [suF, if_pos z]
      decide
  · intro i hi ih
    rw [nI_succ i] at ih
    refine vX6_sureOf_12 ⟨fun z => ?_, fun _ => ⟨fun z => ?_, fun z => ?_⟩⟩
    · rw [h16, nI_le_i (by omega) (by omega)] at z
      omega
    · rw [mk_f (p := fun i => i.testBit d) (i := i) ((bit_iff (g := i) (i := d) (by omega)).mp z)] at ih
      exact ih
    · rw [← mk_t (p := fun i => i.testBit d) (i := i) (by omega) (by cases hh : i.testBit d with | true => rfl | false => exact absurd ((bit_iff (g := i) (i := d) (by omega)).mpr hh) z)] at ih
      exact ih
theorem bit32 {g i : Nat} (hg : g < 2 ^ 32) (hi : i < 32) : (nI g &&& (1 <<< (nI i &&& 31))) = 0 ↔ g.testBit i = false := by
  rw [sh1 i hi, fa_and, nI_z (Nat.lt_of_le_of_lt Nat.and_le_left hg)]
  exact fb_bit_nat g i
/-- how many are left at the most behind a LOAF: a row of tallies, the most -/
def stTl (p : Nat → Bool) (L : Nat → Int32) (a : (Nat → Int32) × Int32) (d : Nat) : (Nat → Int32) × Int32 := if p d then (upd a.1 (L d).toNatClampNeg (a.1 (L d).toNatClampNeg + 1), omax a.2 (a.1 (L d).toNatClampNeg + 1)) else a
theorem clL_rng (x : Int32) : ∃ j, j < 100 ∧ clL x = nI j := by
  unfold clL omax omin
  by_cases h1 : x < 99
  · rw [if_pos h1]
    by_cases h2 : 0 < x
    · rw [if_pos h2]
      obtain ⟨j, hj, e⟩ := nI_of2 (x := x) (M := 99) (n := 99) (by decide) (fun h => Int32.lt_irrefl (Int32.lt_trans h h2)) (Int32.le_of_lt h1)
      exact ⟨j, by omega, e⟩
    · rw [if_neg h2]
      exact ⟨0, by decide, rfl⟩
  · rw [if_neg h1]
    exact ⟨99, by decide, by decide⟩
theorem LF_rng (S : ovS) (d st o h sd : Int32) : ∃ j, j < 100 ∧ LF S d st o h sd = nI j := by
  unfold LF LFl
  split
  · exact ⟨10, by decide, rfl⟩
  · exact clL_rng _
def tlF (S : ovS) (st o h : Int32) : Nat → Int32 := fun d => LF S (nI d) st o h 0
theorem sp_mostLeft {m : Nat} {p : Nat → Bool} {st o h : Int32} (hf : FOk S) (hm : CD S m) : Ex G mX6_mostLeft 3 [.ref 376, .int (nI (mk p (2 ^ m))), .int st, .int o, .int h] S (fun r S1 => r = (fvF (stTl p (tlF S st o h)) (fun _ => 0, 0) (2 ^ m)).2 ∧ Fr [23, 383] S S1) := by
  have hp := pow5 hm.2
  have hm5 := hm.2
  have key : ∀ e i : Nat, ∀ S' : ovS, i + e = 2 ^ m → Fr [23, 383] S S' → (∀ j, j < 100 → S'.1 383 j = (fvF (stTl p (tlF S st o h)) (fun _ => 0, 0) i).1 j) → RM G mX6_mostLeft 3 (fun r S1 => r = (fvF (stTl p (tlF S st o h)) (fun _ => 0, 0) (2 ^ m)).2 ∧ Fr [23, 383] S S1) 14 [some (.ref 376), some (.int (nI (mk p (2 ^ m)))), some (.int st), some (.int o), some (.int h), some (.int (fvF (stTl p (tlF S st o h)) (fun _ => 0, 0) i).2), some (.int (nI i)), none] [] S' := by
    intro e
    induction e with
    | zero =>
      intro i S' hi hF hT
      have : i = 2 ^ m := by omega
      subst this
      exact vX6_mostLeft_14 ⟨fun _ => ⟨rfl, hF⟩, fun z => absurd (by rw [hF.at 16 rfl, hm.1, sh1 m (by omega)]; exact Int32.le_refl _) z⟩
    | succ e ih =>
      intro i S' hi hF hT
      have step : fvF (stTl p (tlF S st o h)) (fun _ => 0, 0) (i + 1) = stTl p (tlF S st o h) (fvF (stTl p (tlF S st o h)) (fun _ => 0, 0) i) i := rfl
      refine vX6_mostLeft_14 ⟨fun z => ?_, fun _ => ?_⟩
      · rw [hF.at 16 rfl, hm.1, sh1 m (by omega), nI_le_i (by omega) (by omega)] at z
        omega
      · have hb : (mk p (2 ^ m)).testBit i = p i := by
          rw [mk_bit]
          simp [show i < 2 ^ m by omega]
        rw [bit32 (mk_lt32 hp) (by omega), hb]
        refine ⟨fun z => ?_, fun z => ⟨_, sp_LF (FOk_fr hF rfl hf), fun r5 S4 q => ?_⟩⟩
        · have hs : fvF (stTl p (tlF S st o h)) (fun _ => 0, 0) (i + 1) = fvF (stTl p (tlF S st o h)) (fun _ => 0, 0) i := by rw [step, stTl, if_neg (by rw [z]; decide)]
          have hh := ih (i + 1) S' (by omega) hF (by rw [hs]; exact hT)
          rw [hs, nI_succ i] at hh
          exact hh
        · have hpi : p i = true := by
            cases hh : p i with
            | true => rfl
            | false => exact absurd hh z
          rw [LF_fr hF rfl] at q
          obtain ⟨j, hj, e2⟩ := LF_rng S (nI i) st o h 0
          have hr : r5 = nI j := q.1.trans e2
          have hji : vp_in (nI j) 100 := vp_in_nI hj (by decide)
          have hjx : (nI j).toNatClampNeg = j := nI_ix (by omega)
          rw [hr, hjx]
          refine ⟨fun w => absurd w (nI_pos (by omega)), fun _ => ⟨fun w => absurd ((nI_le_i (a := 100) (by decide) (by omega)).mp w) (by omega), fun _ => ⟨hji, hji, fun S10 e10 => ⟨hji, ?_⟩⟩⟩⟩
          subst e10
          have hTl : (tlF S st o h i).toNatClampNeg = j := by rw [tlF, e2, hjx]
          have h4 : S4.1 383 j = (fvF (stTl p (tlF S st o h)) (fun _ => 0, 0) i).1 j := by rw [q.2.at 383 rfl]; exact hT j hj
          have hs : fvF (stTl p (tlF S st o h)) (fun _ => 0, 0) (i + 1) = (upd (fvF (stTl p (tlF S st o h)) (fun _ => 0, 0) i).1 j ((fvF (stTl p (tlF S st o h)) (fun _ => 0, 0) i).1 j + 1), omax (fvF (stTl p (tlF S st o h)) (fun _ => 0, 0) i).2 ((fvF (stTl p (tlF S st o h)) (fun _ => 0, 0) i).1 j + 1)) := by rw [step, stTl, if_pos hpi, hTl]
          have hh := ih (i + 1) (stI S4 383 j (S4.1 383 j + 1)) (by omega) ((hF.tr (q.2.mono rfl)).st rfl) (fun a ha => by
            rw [hs, stI_self, h4]
            by_cases ea : a = j
            · simp [upd, ea]
            · simp only [upd, if_neg ea, q.2.at 383 rfl]
              exact hT a ha)
          rw [hs, nI_succ i] at hh
          have e5 : (stI S4 383 j (S4.1 383 j + 1)).1 383 j = (fvF (stTl p (tlF S st o h)) (fun _ => 0, 0) i).1 j + 1 := by
            rw [stI_self, h4]
            simp [upd]
          rw [e5]
          exact hh
  refine eX6_mostLeft (vX6_mostLeft_0 ⟨_, sp_fill ov_c383 ov_n383 (by decide), fun r3 S2 e2 => ?_⟩)
  subst e2
  refine key (2 ^ m) 0 _ (Nat.zero_add _) (Fr.rf.se rfl) (fun j hj => ?_)
  rw [seI_self]
  simp [fillR, hj, fvF]
def stAs (p : Nat → Bool) (N : Nat) (L : Int32 → Nat → Int32) (a : Int32 × Int32) (h : Nat) : Int32 × Int32 := if a.1 = -1 ∨ ¬ a.2 ≤ (fvF (stTl p (L (nI h))) (fun _ => 0, 0) N).2 then (nI h, (fvF (stTl p (L (nI h))) (fun _ => 0, 0) N).2) else a
theorem tlF_fr {L : List Nat} {S1 : ovS} (hF : Fr L S S1) (hc : ([20, 21, 22].all fun k => !(L.contains k)) = true) : tlF S1 = tlF S := by
  have e := LF_fr hF hc
  funext st o h d
  simp only [tlF, e]
theorem sp_ask {k st o w : Int32} {m : Nat} (hf : FOk S) (hc : CR S c) (hm : CD S m) : Ex G mX6_bestAsked 5 [.ref 376, .int st, .int o, .int w, .int k] S (fun r S1 => r = (if anyN (2 ^ m) (fitP S c k) = false then -1 else if w = 0 then (fvF (stAs (fitP S c k) (2 ^ m) (tlF S st o)) (-1, -1) 10).1 else (fvF (stAs (fitP S c k) (2 ^ m) (tlF S st o)) (-1, -1) 10).2) ∧ Fr [23, 383] S S1) := by
  have hp := pow5 hm.2
  have hm5 := hm.2
  refine eX6_bestAsked (vX6_bestAsked_0 ⟨_, sp_fitting hf hc hm, fun r3 S2 q2 => ?_⟩)
  obtain ⟨p, hp0⟩ : ∃ p, p = fitP S c k := ⟨_, rfl⟩
  rw [← hp0] at q2 ⊢
  rw [q2.1, nI_z (mk_lt32 hp), mk_z]
  refine ⟨fun z => ?_, fun z => ⟨by rw [if_pos z], q2.2.mono rfl⟩⟩
  rw [if_neg z]
  have key : ∀ e i : Nat, ∀ S' : ovS, i + e = 10 → Fr [23, 383] S S' → RM G mX6_bestAsked 5 (fun r S1 => r = (if w = 0 then (fvF (stAs p (2 ^ m) (tlF S st o)) (-1, -1) 10).1 else (fvF (stAs p (2 ^ m) (tlF S st o)) (-1, -1) 10).2) ∧ Fr [23, 383] S S1) 24 [some (.ref 376), some (.int st), some (.int o), some (.int w), none, some (.int (nI (mk p (2 ^ m)))), some (.int (fvF (stAs p (2 ^ m) (tlF S st o)) (-1, -1) i).1), some (.int (fvF (stAs p (2 ^ m) (tlF S st o)) (-1, -1) i).2), some (.int (nI i)), none] [] S' := by
    intro e
    induction e with
    | zero =>
      intro i S' hi hF
      have : i = 10 := by omega
      subst this
      exact vX6_bestAsked_24 ⟨fun _ => ⟨fun y => ⟨by rw [if_neg y], hF⟩, fun y => ⟨by rw [if_pos y], hF⟩⟩, fun y => absurd (by decide) y⟩
    | succ e ih =>
      intro i S' hi hF
      have step : fvF (stAs p (2 ^ m) (tlF S st o)) (-1, -1) (i + 1) = stAs p (2 ^ m) (tlF S st o) (fvF (stAs p (2 ^ m) (tlF S st o)) (-1, -1) i) i := rfl
      refine vX6_bestAsked_24 ⟨fun y => absurd ((nI_le_i (a := 10) (by decide) (by omega)).mp y) (by omega), fun _ => ⟨_, sp_mostLeft (FOk_fr hF rfl hf) ⟨by rw [hF.at 16 rfl]; exact hm.1, hm5⟩, fun r5 S4 q => ?_⟩⟩
      rw [tlF_fr hF rfl] at q
      have hh := ih (i + 1) S4 (by omega) (hF.tr q.2)
      rw [nI_succ i] at hh
      rw [q.1]
      refine ⟨fun y => ?_, fun y => ⟨fun x => ?_, fun x => ?_⟩⟩
      · have hs : fvF (stAs p (2 ^ m) (tlF S st o)) (-1, -1) (i + 1) = (nI i, (fvF (stTl p (tlF S st o (nI i))) (fun _ => 0, 0) (2 ^ m)).2) := by rw [step, stAs, if_pos (Or.inl y)]
        rw [hs] at hh
        exact hh
      · have hs : fvF (stAs p (2 ^ m) (tlF S st o)) (-1, -1) (i + 1) = fvF (stAs p (2 ^ m) (tlF S st o)) (-1, -1) i := by
          rw [step, stAs, if_neg]
          rintro (v | v)
          · exact y v
          · exact v x
        rw [hs] at hh
        exact hh
      · have hs : fvF (stAs p (2 ^ m) (tlF S st o)) (-1, -1) (i + 1) = (nI i, (fvF (stTl p (tlF S st o (nI i))) (fun _ => 0, 0) (2 ^ m)).2) := by rw [step, stAs, if_pos (Or.inr x)]
        rw [hs] at hh
        exact hh
  exact key 10 0 S2 rfl (q2.2.mono rfl)
end
