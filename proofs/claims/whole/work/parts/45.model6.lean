/-! ===== the reference: searches through all sayings ===== -/
def LyM (S0 S : ovS) (n : Nat) (o : Option Nat) : Prop := match o with
  | none => S.1 412 48 = S0.1 412 48 ∧ S.1 431 = S0.1 431
  | some v => S.1 412 48 = nI n ∧ ∀ i, i < n → S.1 431 i = nmv n v i
theorem LyM.fr {S0 S S1 : ovS} {n : Nat} {o : Option Nat} (h : LyM S0 S n o) (hF : Fr M5 S S1) : LyM S0 S1 n o := by
  cases o <;> simp only [LyM, hF.at 412 rfl, hF.at 431 rfl] <;> exact h
theorem FM.M5 {S0 S S1 : ovS} (h : FM S0 S) (hF : Fr M5 S S1) : FM S0 S1 := h.tr (FM.of hF rfl)
theorem fmL0 {S : ovS} {v : Int32} : FM S (stI S 412 48 v) := by
  refine ⟨fun k hk => ?_, fun j hj => ?_, rfl⟩
  · have h1 : k ≠ 412 := fun e => by subst e; cases hk
    rw [stI_row h1]
  · rw [stI_1, if_pos rfl, if_neg hj]
theorem fe_inv {S : ovS} {n : Nat} {x : Int32} (hn : n ≤ 5) : ∀ v, (fvF (stFe S n x) (-1, none) v).1 = -1 ∨ ∃ c, c ≤ 5 ∧ (fvF (stFe S n x) (-1, none) v).1 = nI c
  | 0 => Or.inl rfl
  | v + 1 => by
    rw [fvF, stFe]
    split
    · exact Or.inr ⟨_, Nat.le_trans (fb_ct_le _ _) hn, rfl⟩
    · exact fe_inv hn v
theorem nI_neg {c : Nat} (h : c < 2147483648) : ¬ nI c < 0 := fun z => absurd ((nI_lt_i (b := 0) h (by decide)).mp z) (by omega)
theorem un_and {S : ovS} {nm : Nat → Int32} {n g : Nat} (hn : n ≤ 5) (hg : g < 2 ^ n) : (nI g &&& (nI (mk (fdF S nm) n) ^^^ (-1))) = 0 ↔ anyN n (unF S nm (nI g)) = false := by
  have eg : g = mk (fun i => g.testBit i) n := by
    apply Nat.eq_of_testBit_eq
    intro j
    rw [mk_bit]
    rcases Nat.lt_or_ge j n with q | q
    · simp [q]
    · rw [Nat.testBit_lt_two_pow (Nat.lt_of_lt_of_le hg (Nat.pow_le_pow_right (by decide) q))]
      simp [Nat.not_lt.mpr q]
  have e2 : unF S nm (nI g) = fun s => decide (¬ (nI g &&& (1 <<< (nI s &&& 31))) = 0) && !(fdF S nm s) := by
    funext s
    simp only [unF, fdF, decide_not]
  have e3 : anyN n (unF S nm (nI g)) = anyN n (fun i => g.testBit i && !(fdF S nm i)) := by
    rw [e2, Bool.eq_iff_iff, anyN_iff, anyN_iff]
    have : ∀ i, i < n → ((decide (¬ (nI g &&& (1 <<< (nI i &&& 31))) = 0) && !(fdF S nm i)) = (g.testBit i && !(fdF S nm i))) := by
      intro i hi
      congr 1
      have hb := bit_iff (g := g) (i := i) (by omega)
      cases hc : g.testBit i with
      | true =>
        rw [hc] at hb
        exact decide_eq_true (fun z => absurd (hb.mp z) (by decide))
      | false => exact decide_eq_false (fun z => z (hb.mpr hc))
    constructor
    · rintro ⟨i, h1, h2⟩
      exact ⟨i, h1, by rw [← this i h1]; exact h2⟩
    · rintro ⟨i, h1, h2⟩
      exact ⟨i, h1, by rw [this i h1]; exact h2⟩
  rw [e3]
  have h32 : n ≤ 32 := by omega
  have h1 : nI g &&& (nI (mk (fdF S nm) n) ^^^ (-1)) = nI (mk (fun i => g.testBit i && !(fdF S nm i)) n) := by
    rw [m1_nI, fb_xorI, fa_and]
    congr 1
    rw [← mk_not h32, ← eg]
  rw [h1, nI_z (mk_lt32 h32), mk_z]
section
variable {G : ovG} {S : ovS} {n : Nat}
theorem sp_isIn {v a b : Int32} : Ex G mX12_isIn 1 [.int v, .int a, .int b] S (fun r S1 => r = bI (decide (¬ v < a ∧ ¬ b < v)) ∧ S1 = S) := by
  refine eX12_isIn (vX12_isIn_0 ⟨fun c => ⟨?_, rfl⟩, fun c => ⟨fun d => ⟨?_, rfl⟩, fun d => ⟨?_, rfl⟩⟩⟩) <;> simp [*, bI]
theorem fdF_fm {S0 S : ovS} (h : FM S0 S) : fdF S = fdF S0 := by
  funext nm s
  unfold fdF
  rw [gG_fm h, h.at 17 rfl]
theorem bsN_fm {S0 S : ovS} (h : FM S0 S) : bsN S = bsN S0 := by
  funext n nm s
  unfold bsN
  rw [gG_fm h]
theorem lvF_fm {S0 S : ovS} (h : FM S0 S) : lvF S = lvF S0 := by
  funext n nm s
  unfold lvF
  rw [bsN_fm h]
theorem sp_mRichest (hM : MX S n) : Ex G mX12_richest 7 [.ref 412] S (fun r S1 => r = (fvF (stRi S n) (-1, none) ((n + 1) ^ n)).1 ∧ LyM S S1 n (fvF (stRi S n) (-1, none) ((n + 1) ^ n)).2 ∧ FM S S1) := by
  have hn := hM.n5
  have hw := ways_lt hn
  obtain ⟨Q, hQ⟩ : ∃ Q : Int32 → ovS → Prop, Q = (fun r S1 => r = (fvF (stRi S n) (-1, none) ((n + 1) ^ n)).1 ∧ LyM S S1 n (fvF (stRi S n) (-1, none) ((n + 1) ^ n)).2 ∧ FM S S1) := ⟨_, rfl⟩
  rw [← hQ]
  refine eX12_richest (vX12_richest_0 ⟨_, sp_sayingsOf hM, fun r3 S2 q => ?_⟩)
  obtain ⟨q1, q2⟩ := q
  subst q1 q2
  have key : ∀ k v : Nat, ∀ S' : ovS, v + k = (n + 1) ^ n → LyM S2 S' n (fvF (stRi S2 n) (-1, none) v).2 → FM S2 S' → RM G mX12_richest 7 Q 9 [some (.ref 412), some (.int (fvF (stRi S2 n) (-1, none) v).1), some (.int (nI ((n + 1) ^ n))), some (.int (nI v))] [] S' := by
    intro k
    induction k with
    | zero =>
      intro v S' hv hL hF
      have : v = (n + 1) ^ n := by omega
      subst this
      exact vX12_richest_9 ⟨fun _ => by rw [hQ]; exact ⟨rfl, hL, hF⟩, fun c => absurd (Int32.le_refl _) c⟩
    | succ k ih =>
      intro v S' hv hL hF
      have ih' := ih (v + 1)
      have hs : fvF (stRi S2 n) (-1, none) (v + 1) = stRi S2 n (fvF (stRi S2 n) (-1, none) v) v := rfl
      rw [hs, nI_succ v] at ih'
      generalize fvF (stRi S2 n) (-1, none) v = a at hL ih' ⊢
      refine vX12_richest_9 ⟨fun c => absurd ((nI_le_i (by omega) (by omega)).mp c) (by omega), fun _ => ⟨_, sp_laySayings (by omega) (hM.fm hF), fun r4 S3 q => ?_⟩⟩
      obtain ⟨p1, p2, p3⟩ := q
      have hF3 := hF.M5 p3
      rw [gG_fm hF] at p2
      refine ⟨_, sp_allGet (hM.fm hF3) p2, fun r9 S8 q => ?_⟩
      obtain ⟨q1, q2⟩ := q
      subst q1 q2
      refine ⟨fun c => ⟨_, sp_allGet (hM.fm hF3) p2, fun r15 S14 q => ?_⟩, fun c => ?_⟩
      · obtain ⟨q1, q2⟩ := q
        subst q1 q2
        refine ⟨_, sp_putSayings (hM.fm hF3) p1, fun r20 S19 q => ?_⟩
        rw [stRi, if_neg (Int32.not_le.mpr c)] at ih'
        exact ih' S19 (by omega) ⟨q.2.1, q.1⟩ (hF3.tr q.2.2.1)
      · rw [stRi, if_pos (Int32.not_lt.mp c)] at ih'
        exact ih' S8 (by omega) (hL.fr p3) hF3
  exact key ((n + 1) ^ n) 0 S2 (by omega) ⟨rfl, rfl⟩ FM.rf
theorem sp_mSteady (hM : MX S n) : Ex G mX12_steady 9 [.ref 412] S (fun r S1 => r = (fvF (stSt S n) (0, none) ((n + 1) ^ n)).1 ∧ LyM (stI S 412 48 0) S1 n (fvF (stSt S n) (0, none) ((n + 1) ^ n)).2 ∧ FM S S1) := by
  have hn := hM.n5
  have hw := ways_lt hn
  obtain ⟨Q, hQ⟩ : ∃ Q : Int32 → ovS → Prop, Q = (fun r S1 => r = (fvF (stSt S n) (0, none) ((n + 1) ^ n)).1 ∧ LyM (stI S 412 48 0) S1 n (fvF (stSt S n) (0, none) ((n + 1) ^ n)).2 ∧ FM S S1) := ⟨_, rfl⟩
  rw [← hQ]
  refine eX12_steady (vX12_steady_0 (fun S1 e1 => ?_))
  have hF1 : FM S S1 := by subst e1; exact fmL0
  refine ⟨_, sp_sayingsOf (hM.fm hF1), fun r3 S2 q => ?_⟩
  obtain ⟨q1, q2⟩ := q
  subst q1 q2
  rw [← e1] at hQ
  have key : ∀ k v : Nat, ∀ S' : ovS, v + k = (n + 1) ^ n → LyM S2 S' n (fvF (stSt S n) (0, none) v).2 → FM S S' → RM G mX12_steady 9 Q 14 [some (.ref 412), some (.int (fvF (stSt S n) (0, none) v).1), some (.int (nI ((n + 1) ^ n))), some (.int (nI v))] [] S' := by
    intro k
    induction k with
    | zero =>
      intro v S' hv hL hF
      have : v = (n + 1) ^ n := by omega
      subst this
      exact vX12_steady_14 ⟨fun _ => by rw [hQ]; exact ⟨rfl, hL, hF⟩, fun c => absurd (Int32.le_refl _) c⟩
    | succ k ih =>
      intro v S' hv hL hF
      have ih' := ih (v + 1)
      have hs : fvF (stSt S n) (0, none) (v + 1) = stSt S n (fvF (stSt S n) (0, none) v) v := rfl
      rw [hs, nI_succ v] at ih'
      generalize fvF (stSt S n) (0, none) v = a at hL ih' ⊢
      refine vX12_steady_14 ⟨fun c => absurd ((nI_le_i (by omega) (by omega)).mp c) (by omega), fun _ => ⟨_, sp_laySayings (by omega) (hM.fm hF), fun r4 S3 q => ?_⟩⟩
      obtain ⟨p1, p2, p3⟩ := q
      have hF3 := hF.M5 p3
      refine ⟨_, sp_isSteadyHere (hM.fm hF3) (nmv_VN n v) p1, fun r9 S8 q => ?_⟩
      obtain ⟨q1, q2, q3⟩ := q
      have hF8 := hF3.M5 q3
      rw [lvF_fm hF3] at q1
      subst q1
      refine ⟨fun c => ?_, fun c => ?_⟩
      · rw [bI_0, Bool.not_eq_false] at c
        have c' : ¬ anyN n (lvF S n (nmv n v)) = true := by simpa using c
        rw [stSt, if_neg c'] at ih'
        refine ⟨fun d => ?_, fun d => ⟨_, sp_putSayings (hM.fm hF8) q2, fun r20 S19 q => ?_⟩⟩
        · rw [if_neg d] at ih'
          exact ih' S8 (by omega) ((hL.fr p3).fr q3) hF8
        · rw [if_pos d] at ih'
          exact ih' S19 (by omega) ⟨q.2.1, q.1⟩ (hF8.tr q.2.2.1)
      · rw [bI_0] at c
        have c' : anyN n (lvF S n (nmv n v)) = true := by simpa using c
        rw [stSt, if_pos c'] at ih'
        exact ih' S8 (by omega) ((hL.fr p3).fr q3) hF8
  exact key ((n + 1) ^ n) 0 S2 (by omega) ⟨rfl, rfl⟩ hF1
theorem sp_mFeeds {x : Int32} (hM : MX S n) : Ex G mX12_feeds 7 [.ref 412, .int x] S (fun r S1 => if x < 0 ∨ ¬ x < nI (2 ^ n) then r = -1 ∧ S1 = stI S 412 48 0 else r = (fvF (stFe S n x) (-1, none) ((n + 1) ^ n)).1 ∧ LyM (stI S 412 48 0) S1 n (fvF (stFe S n x) (-1, none) ((n + 1) ^ n)).2 ∧ FM S S1) := by
  have hn := hM.n5
  have hw := ways_lt hn
  have hp := pow5 hn
  have hp1 : 0 < 2 ^ n := Nat.two_pow_pos n
  obtain ⟨Q, hQ⟩ : ∃ Q : Int32 → ovS → Prop, Q = (fun r S1 => if x < 0 ∨ ¬ x < nI (2 ^ n) then r = -1 ∧ S1 = stI S 412 48 0 else r = (fvF (stFe S n x) (-1, none) ((n + 1) ^ n)).1 ∧ LyM (stI S 412 48 0) S1 n (fvF (stFe S n x) (-1, none) ((n + 1) ^ n)).2 ∧ FM S S1) := ⟨_, rfl⟩
  rw [← hQ]
  refine eX12_feeds (vX12_feeds_0 (fun S1 e1 => ?_))
  have hF1 : FM S S1 := by subst e1; exact fmL0
  rw [← e1] at hQ
  refine ⟨_, sp_isIn, fun r4 S3 q => ?_⟩
  obtain ⟨q1, q2⟩ := q
  subst q2
  have e35 : (1 : Int32) <<< (S3.1 412 35 &&& 31) - 1 = nI (2 ^ n - 1) := by
    rw [(hM.fm hF1).2.1, sh1 n (by omega)]
    exact pk_sub (b := 1) (by omega)
  rw [e35] at q1
  have hc : (¬ x < 0 ∧ ¬ nI (2 ^ n - 1) < x) ↔ ¬ (x < 0 ∨ ¬ x < nI (2 ^ n)) := by
    rw [not_or, Classical.not_not]
    refine and_congr_right (fun h0 => ?_)
    rcases pk_ix x (n := 2 ^ n) (by omega) with z | z | ⟨j, hj, z⟩
    · exact absurd z h0
    · have h2 : nI (2 ^ n - 1) < x := Int32.lt_of_lt_of_le ((nI_lt_i (by omega) (by omega)).mpr (by omega)) z
      exact ⟨fun q => absurd h2 q, fun q => absurd z (Int32.not_le.mpr q)⟩
    · subst z
      rw [nI_lt_i (by omega) (by omega), nI_lt_i (by omega) (by omega)]
      omega
  refine ⟨fun c => ?_, fun c => ?_⟩
  · rw [q1, bI_0, decide_eq_false_iff_not, Classical.not_not, hc] at c
    simp only [if_neg c] at hQ
    have hx : ∃ g, g < 2 ^ n ∧ x = nI g := by
      rw [not_or, Classical.not_not] at c
      rcases pk_ix x (n := 2 ^ n) (by omega) with z | z | z
      · exact absurd z c.1
      · exact absurd z (Int32.not_le.mpr c.2)
      · exact z
    obtain ⟨g, hg, hx⟩ := hx
    refine ⟨_, sp_sayingsOf (hM.fm hF1), fun r3 S2 q => ?_⟩
    obtain ⟨q1, q2⟩ := q
    subst q1 q2
    have key : ∀ k v : Nat, ∀ S' : ovS, v + k = (n + 1) ^ n → LyM S2 S' n (fvF (stFe S n x) (-1, none) v).2 → FM S S' → RM G mX12_feeds 7 Q 33 [some (.ref 412), some (.int x), some (.int (fvF (stFe S n x) (-1, none) v).1), some (.int (nI ((n + 1) ^ n))), some (.int (nI v))] [] S' := by
      intro k
      induction k with
      | zero =>
        intro v S' hv hL hF
        have : v = (n + 1) ^ n := by omega
        subst this
        exact vX12_feeds_33 ⟨fun _ => by rw [hQ]; exact ⟨rfl, hL, hF⟩, fun c => absurd (Int32.le_refl _) c⟩
      | succ k ih =>
        intro v S' hv hL hF
        have ih' := ih (v + 1)
        have hs : fvF (stFe S n x) (-1, none) (v + 1) = stFe S n x (fvF (stFe S n x) (-1, none) v) v := rfl
        have hin := fe_inv (S := S) (x := x) hn v
        rw [hs, nI_succ v] at ih'
        generalize fvF (stFe S n x) (-1, none) v = a at hL ih' hin ⊢
        refine vX12_feeds_33 ⟨fun c => absurd ((nI_le_i (by omega) (by omega)).mp c) (by omega), fun _ => ⟨_, sp_laySayings (by omega) (hM.fm hF), fun r4 S3 q => ?_⟩⟩
        obtain ⟨p1, p2, p3⟩ := q
        have hF3 := hF.M5 p3
        have hM3 := hM.fm hF3
        rw [gG_fm hF, ← gG_fm hF3] at p2
        refine ⟨_, sp_fedSet hM3 p2, fun r9 S8 q => ?_⟩
        obtain ⟨q1, q2⟩ := q
        subst q2
        rw [fdF_fm hF3] at q1
        have hL3 := hL.fr p3
        have hu : (x &&& (r9 ^^^ (-1))) = 0 ↔ anyN n (unF S (nmv n v) x) = false := by
          rw [q1, hx]
          exact un_and hn hg
        rw [hu]
        refine ⟨fun d => ?_, fun d => ?_⟩
        · rw [stFe, if_neg (fun z => d z.2)] at ih'
          exact ih' S8 (by omega) hL3 hF3
        · rcases hin with ha | ⟨c5, hc5, ha⟩
          · rw [stFe, if_pos ⟨Or.inl ha, d⟩] at ih'
            refine ⟨fun _ => ⟨_, sp_shames hM3 (nmv_VN n v) p1, fun r16 S15 q => ?_⟩, fun z => absurd (by rw [ha]; decide) z⟩
            obtain ⟨q1, q2⟩ := q
            subst q1 q2
            refine ⟨_, sp_putSayings hM3 p1, fun r20 S19 q => ?_⟩
            exact ih' S19 (by omega) ⟨q.2.1, q.1⟩ (hF3.tr q.2.2.1)
          · have hne : ¬ a.1 = -1 := by rw [ha]; exact fun z => nI_neg (c := c5) (by omega) (by rw [z]; decide)
            refine ⟨fun z => absurd z (by rw [ha]; exact nI_neg (by omega)), fun _ => ⟨_, sp_shames hM3 (nmv_VN n v) p1, fun r16 S15 q => ?_⟩⟩
            obtain ⟨q1, q2⟩ := q
            subst q1 q2
            refine ⟨fun e => ⟨_, sp_shames hM3 (nmv_VN n v) p1, fun r16 S15 q => ?_⟩, fun e => ?_⟩
            · obtain ⟨q1, q2⟩ := q
              subst q1 q2
              rw [stFe, if_pos ⟨Or.inr (Int32.not_le.mpr e), d⟩] at ih'
              refine ⟨_, sp_putSayings hM3 p1, fun r20 S19 q => ?_⟩
              exact ih' S19 (by omega) ⟨q.2.1, q.1⟩ (hF3.tr q.2.2.1)
            · rw [stFe, if_neg (fun z => z.1.elim hne (fun y => y (Int32.not_lt.mp e)))] at ih'
              exact ih' _ (by omega) hL3 hF3
    exact key ((n + 1) ^ n) 0 S2 (by omega) ⟨rfl, rfl⟩ hF1
  · rw [q1, bI_0, decide_eq_false_iff_not, hc, Classical.not_not] at c
    rw [hQ]
    exact (if_pos c).mpr ⟨rfl, rfl⟩
theorem sp_mRest (hM : MX S n) : Ex G mX12_rest 9 [.ref 412] S (fun r S1 => FM S S1 ∧ ((∃ k, k ≤ 50 ∧ rests S n (S.1 26) k ∧ r = nI k ∧ S1.1 412 48 = nI n ∧ (∀ i, i < n → S1.1 431 i = (rdF S n (rsF S n (S.1 26) k) n).1 i)) ∨ ((∀ q, q ≤ 50 → (rdF S n (rsF S n (S.1 26) q) n).2 = true) ∧ r = -1 ∧ S1.1 412 48 = 0))) := by
  have hn := hM.n5
  have hV := hM.2.2.2.2.2.1
  obtain ⟨Q, hQ⟩ : ∃ Q : Int32 → ovS → Prop, Q = (fun r S1 => FM S S1 ∧ ((∃ k, k ≤ 50 ∧ rests S n (S.1 26) k ∧ r = nI k ∧ S1.1 412 48 = nI n ∧ (∀ i, i < n → S1.1 431 i = (rdF S n (rsF S n (S.1 26) k) n).1 i)) ∨ ((∀ q, q ≤ 50 → (rdF S n (rsF S n (S.1 26) q) n).2 = true) ∧ r = -1 ∧ S1.1 412 48 = 0))) := ⟨_, rfl⟩
  rw [← hQ]
  refine eX12_rest (vX12_rest_0 (fun S1 e1 => ?_))
  have hF1 : FM S S1 := by subst e1; exact fmL0
  have h0 : S1.1 412 48 = 0 := by rw [e1, stI_1]; rfl
  refine ⟨_, sp_mLoad' (hM.fm hF1), fun r4 S3 q => ?_⟩
  obtain ⟨p1, p2⟩ := q
  rw [hF1.at 26 rfl] at p1
  have key : ∀ k r : Nat, ∀ S' : ovS, r + k = 51 → (∀ q, q < r → (rdF S n (rsF S n (S.1 26) q) n).2 = true) → SY S' n (rsF S n (S.1 26) r) → S'.1 412 48 = 0 → FM S S' → RM G mX12_rest 9 Q 11 [some (.ref 412), some (.int (nI r))] [] S' := by
    intro k
    induction k with
    | zero =>
      intro r S' hr h1 h2 h3 h4
      have : r = 51 := by omega
      subst this
      exact vX12_rest_11 ⟨fun _ => by rw [hQ]; exact ⟨h4, Or.inr ⟨fun q hq => h1 q (by omega), rfl, h3⟩⟩, fun c => absurd (by decide) c⟩
    | succ k ih =>
      intro r S' hr h1 h2 h3 h4
      have hrd : rdF S' n = rdF S n := by
        funext nm i
        induction i with
        | zero => rfl
        | succ i ih => rw [rdF, rdF, ih, bsN_fm h4]
      refine vX12_rest_11 ⟨fun c => absurd ((nI_lt_i (a := 50) (by decide) (by omega)).mp c) (by omega), fun _ => ⟨_, sp_goRound (hM.fm h4) (rsF_VN hV hn r) h2, fun r4 S3 q => ?_⟩⟩
      obtain ⟨q1, q2, q3⟩ := q
      rw [hrd] at q1 q2
      rw [q1, bI_0]
      refine ⟨fun c => ⟨_, sp_putSayings (hM.fm (h4.M5 q3)) q2, fun r10 S9 q => ?_⟩, fun c => ?_⟩
      · rw [hQ]
        exact ⟨(h4.M5 q3).tr q.2.2.1, Or.inl ⟨r, by omega, ⟨c, h1⟩, rfl, q.2.1, q.1⟩⟩
      · rw [Bool.not_eq_false] at c
        have hh := ih (r + 1) S3 (by omega) (fun q hq => ?_) q2 (by rw [q3.at 412 rfl]; exact h3) (h4.M5 q3)
        · rw [nI_succ r] at hh
          exact hh
        · by_cases e : q = r
          · subst e; exact c
          · exact h1 q (by omega)
  exact key 51 0 S3 (by omega) (fun q hq => absurd hq (by omega)) p1 (by rw [p2.at 412 rfl]; exact h0) (hF1.M5 p2)
theorem sp_mIsSteady (hM : MX S n) : Ex G mX12_isSteady 9 [.ref 412] S (fun r S1 => r = bI (!anyN n (lvF S n (S.1 26))) ∧ Fr M5 S S1) := by
  refine eX12_isSteady (vX12_isSteady_0 ⟨_, sp_mLoad' hM, fun r3 S2 q => ?_⟩)
  have hF := FM.of q.2 rfl
  refine ⟨_, sp_isSteadyHere (hM.fm hF) hM.2.2.2.2.2.1 q.1, fun r8 S7 q2 => ?_⟩
  rw [lvF_fm hF] at q2
  refine ⟨?_, q2.1, q.2.tr q2.2.2⟩
  rw [q2.1]
  have b01 : ∀ b : Bool, bI b = 0 ∨ bI b = 1 := by decide
  exact b01 _
theorem sp_mStone (hM : MX S n) : Ex G mX12_stone 3 [.ref 412] S (fun r S1 => r = bI (gSt S (S.1 26)) ∧ Fr M5 S S1) := by
  refine eX12_stone (vX12_stone_0 ⟨_, sp_mLoad' hM, fun r3 S2 q => ?_⟩)
  have hF := FM.of q.2 rfl
  refine ⟨_, sp_isStone (hM.fm hF) hM.2.2.2.2.2.1 q.1, fun r8 S7 q2 => ?_⟩
  have e : gSt S2 = gSt S := by
    funext nm
    simp only [gSt, hF.at 29 rfl]
  rw [e] at q2
  refine ⟨?_, q2.1, by rw [q2.2]; exact q.2⟩
  rw [q2.1]
  have b01 : ∀ b : Bool, bI b = 0 ∨ bI b = 1 := by decide
  exact b01 _
theorem sp_mFed (hM : MX S n) : Ex G mX12_fed 7 [.ref 412] S (fun r S1 => r = nI (mk (fdF S (S.1 26)) n) ∧ Fr M5 S S1) := by
  refine eX12_fed (vX12_fed_0 ⟨_, sp_layNow hM, fun r3 S2 q => ?_⟩)
  obtain ⟨q1, q2, q3, q4⟩ := q
  have hF := FM.of q4 rfl
  rw [← gG_fm hF] at q3
  refine ⟨_, sp_fedSet (hM.fm hF) q3, fun r8 S7 q => ?_⟩
  obtain ⟨p1, p2⟩ := q
  subst p2
  rw [fdF_fm hF] at p1
  exact ⟨p1, q4⟩
end
