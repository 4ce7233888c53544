/-! ===== about ===== -/
theorem fd_sum {F : Nat → Nat} {n : Nat} (hn : n ≤ 5) (h1 : ∀ i, i < 5 → F i < 2 ^ n) (h2 : ∀ i j, i < 5 → j < 5 → (F i).testBit j = (F j).testBit i) (h3 : ∀ i, i < 5 → (F i).testBit i = false) : fb_sm (fun a => fb_ct (fun b => (F a).testBit b) 5) 5 = 2 * fb_sm (fun a => fb_ct (fun b => (F a).testBit b) a) n := by
  have e : fb_sm (fun a => fb_ct (fun b => (F a).testBit b) a) 5 = fb_sm (fun a => fb_ct (fun b => (F a).testBit b) a) n := by
    obtain ⟨d, hd⟩ : ∃ d, n + d = 5 := ⟨5 - n, by omega⟩
    rw [← hd, fb_sm_split]
    have z : fb_sm (fun k => (fun a => fb_ct (fun b => (F a).testBit b) a) (n + k)) d = fb_sm (fun _ => 0) d := by
      refine fb_sm_cong (fun k hk => ?_)
      show fb_ct (fun b => (F (n + k)).testBit b) (n + k) = 0
      refine fb_ct_zero.mpr (fun b hb => ?_)
      rw [h2 _ _ (by omega) (by omega)]
      exact Nat.testBit_lt_two_pow (Nat.lt_of_lt_of_le (h1 b (by omega)) (Nat.pow_le_pow_right (by decide) (by omega)))
    rw [z, fb_sm_const, Nat.mul_zero, Nat.add_zero]
  rw [← e]
  simp only [fb_sm, fb_ct]
  simp only [h3 0 (by decide), h3 1 (by decide), h3 2 (by decide), h3 3 (by decide), h3 4 (by decide), h2 0 1 (by decide) (by decide), h2 0 2 (by decide) (by decide), h2 0 3 (by decide) (by decide), h2 0 4 (by decide) (by decide), h2 1 2 (by decide) (by decide), h2 1 3 (by decide) (by decide), h2 1 4 (by decide) (by decide), h2 2 3 (by decide) (by decide), h2 2 4 (by decide) (by decide), h2 3 4 (by decide) (by decide), Bool.false_eq_true, if_false]
  omega
section
variable {G : ovG} {S : ovS} {n m : Nat}
theorem sp_countFeuds {F : Nat → Nat} (hn : n ≤ 5) (h1 : ∀ i, i < 5 → S.1 29 i = nI (F i) ∧ F i < 2 ^ n) (h2 : ∀ i j, i < 5 → j < 5 → (F i).testBit j = (F j).testBit i) (h3 : ∀ i, i < 5 → (F i).testBit i = false) : Ex G mX9_countFeuds 2 [.ref 24] S (fun r S1 => r = nI (fb_sm (fun a => fb_ct (fun b => (F a).testBit b) a) n) ∧ S1 = S) := by
  refine eX9_countFeuds (vX9_countFeuds_0 (loopUp (n := 5) (P := fun i => RM G mX9_countFeuds 2 _ 4 [some (.ref 24), some (.int (nI (fb_sm (fun a => fb_ct (fun b => (F a).testBit b) 5) i))), some (.int (nI i))] [] S) ?_ ?_ 0 (by decide)))
  · refine vX9_countFeuds_4 ⟨fun _ => ⟨?_, rfl⟩, fun c => absurd (by decide) c⟩
    have b5 : fb_sm (fun a => fb_ct (fun b => (F a).testBit b) 5) 5 ≤ 5 * 5 := fb_sm_bound (fun k _ => fb_ct_le _ _)
    rw [show (2 : Int32) = nI 2 from rfl, pk_div (by omega) (by decide) (by decide), fd_sum hn (fun i hi => (h1 i hi).2) h2 h3]
    congr 1
    omega
  · intro i hi ih
    refine vX9_countFeuds_4 ⟨fun c => absurd ((nI_le_i (a := 5) (by decide) (by omega)).mp c) (by omega), fun _ => ⟨vp_in_nI hi (by decide), _, sp_bitCount, fun r4 S3 q => ?_⟩⟩
    obtain ⟨q1, q2⟩ := q
    subst q2
    rw [nI_ix (by omega), (h1 i hi).1, bc5 _ (pow5l hn (h1 i hi).2)] at q1
    rw [q1, nI_add]
    rw [nI_succ i, fb_sm_succ] at ih
    exact ih
theorem sp_feudsNow {F : Nat → Nat} (hM : MX S n) (h1 : ∀ i, i < 5 → S.1 29 i = nI (F i) ∧ F i < 2 ^ n) : Ex G mX12_feudsNow 2 [.ref 412] S (fun r S1 => r = nI (fb_sm (fun a => fb_ct (fun b => (F a).testBit b) a) n) ∧ S1 = S) := by
  have hn := hM.n5
  refine eX12_feudsNow (vX12_feudsNow_0 (loopUp (n := n) (P := fun i => RM G mX12_feudsNow 2 _ 4 [some (.ref 412), some (.int (nI (fb_sm (fun a => fb_ct (fun b => (F a).testBit b) a) i))), some (.int (nI i)), none] [] S) ?_ ?_ 0 (by omega)))
  · exact vX12_feudsNow_4 ⟨fun _ => ⟨rfl, rfl⟩, fun c => absurd hM.ge c⟩
  · intro i hi ih
    refine vX12_feudsNow_4 ⟨fun c => absurd c (hM.le hi), fun _ => ?_⟩
    have hh := loopUp (n := i) (P := fun j => RM G mX12_feudsNow 2 (fun r S1 => r = nI (fb_sm (fun a => fb_ct (fun b => (F a).testBit b) a) n) ∧ S1 = S) 14 [some (.ref 412), some (.int (nI (fb_sm (fun a => fb_ct (fun b => (F a).testBit b) a) i + fb_ct (fun b => (F i).testBit b) j))), some (.int (nI i)), some (.int (nI j))] [] S) ?_ ?_ 0 (by omega)
    · exact hh
    · rw [nI_succ i, fb_sm_succ] at ih
      exact vX12_feudsNow_14 ⟨fun _ => ih, fun c => absurd (Int32.le_refl _) c⟩
    · intro j hj ih2
      rw [nI_succ j, fb_ct_succ] at ih2
      refine vX12_feudsNow_14 ⟨fun c => absurd ((nI_le_i (by omega) (by omega)).mp c) (by omega), fun _ => ⟨_, sp_isFeud hM h1 (by omega) (by omega), fun r4 S3 q => ⟨_, sp_truth, fun r9 S8 p => ?_⟩⟩⟩
      obtain ⟨q1, q2⟩ := q
      obtain ⟨p1, p2⟩ := p
      subst q2 p2
      have er : r9 = nI (if (F i).testBit j = true then 1 else 0) := by
        rw [p1, q1]
        cases (F i).testBit j <;> rfl
      rw [er, nI_add, Nat.add_assoc]
      exact ih2
def abR (S : ovS) (T : Nat) (x : Int32) : Int32 := if x = 0 then S.1 16 0 else if x = 1 then S.1 16 1 else if x = 2 then nI T else if x = 3 then S.1 24 7 else if x = 4 then S.1 24 8 else if x = 5 then S.1 24 9 else if x = 6 then nI (gSd (S.1 26)) else if x = 7 then S.1 32 0 else if x = 8 then S.1 32 1 else if x = 9 then S.1 376 1 else if x = 10 then S.1 376 2 else if x = 11 then S.1 0 1 else if x = 12 then S.1 20 0 else if x = 13 then S.1 369 4 else -1
theorem pb_about {x : Int32} (hI : IC S n m) (hL : Ly S n) : PB G mX11_about 3 [.ref 0, .int x] mX12_about 3 [.ref 412, .int x] S := by
  have hn := hI.n5
  obtain ⟨F, hF1, hF2, hF3⟩ := hI.1.2.2.2.2.1
  obtain ⟨T, hT⟩ : ∃ T, T = fb_sm (fun a => fb_ct (fun b => (F a).testBit b) a) n := ⟨_, rfl⟩
  refine PB.q (A := fun r => r = abR S T x) hI hL ?_ (fun r S1 hA h1 hK => ?_)
  · refine eX11_about (vX11_about_0 ⟨fun c => ⟨by subst c; rfl, KL.rf⟩, fun c => ⟨by subst c; rfl, KL.rf⟩, fun c => ⟨_, sp_countFeuds hn hF1 hF2 hF3, fun r5 S4 q => ⟨by subst c; rw [q.1, ← hT]; rfl, by rw [q.2]; exact KL.rf⟩⟩, fun c => ⟨by subst c; rfl, KL.rf⟩, fun c => ⟨by subst c; rfl, KL.rf⟩, fun c => ⟨by subst c; rfl, KL.rf⟩, fun c => ⟨_, sp_sayers, fun r14 S13 q => ⟨_, sp_bitCount, fun r19 S18 p => ⟨?_, by rw [p.2, q.2]; exact KL.rf⟩⟩⟩, fun c => ⟨by subst c; rfl, KL.rf⟩, fun c => ⟨by subst c; rfl, KL.rf⟩, fun c => ⟨by subst c; rfl, KL.rf⟩, fun c => ⟨by subst c; rfl, KL.rf⟩, fun c => ⟨by subst c; rfl, KL.rf⟩, fun c => ⟨by subst c; rfl, KL.rf⟩, fun c => ⟨by subst c; rfl, KL.rf⟩, fun c0 c1 c2 c3 c4 c5 c6 c7 c8 c9 c10 c11 c12 c13 => ⟨?_, KL.rf⟩⟩)
    · subst c
      rw [p.1, q.1, bc_mk (by decide)]
      rfl
    · simp only [abR, if_neg c0, if_neg c1, if_neg c2, if_neg c3, if_neg c4, if_neg c5, if_neg c6, if_neg c7, if_neg c8, if_neg c9, if_neg c10, if_neg c11, if_neg c12, if_neg c13]
  · have eA : r = abR S1 T x := by
      rw [hA]
      unfold abR
      rw [hK.1.at 16 rfl, hK.1.at 24 rfl, hK.1.at 26 rfl, hK.1.at 32 rfl, hK.1.2.2.1, hK.1.2.2.2, hK.1.at 0 rfl, hK.1.at 20 rfl, hK.2.1]
    have hF1' : ∀ i, i < 5 → S1.1 29 i = nI (F i) ∧ F i < 2 ^ n := by rw [hK.1.at 29 rfl]; exact hF1
    obtain ⟨lc, _, l1, l2, _⟩ := hL.kl hK
    rw [eA]
    obtain ⟨hM, hD, h34, hU, hW, ⟨a, u, v, g1, g2, g3, g4, g5, g6, g7, _⟩, hB, ⟨c, hR⟩, ⟨t, _, t1, t2, _⟩, hf1, hf2⟩ := h1
    have nw := hM.2.2.2.1
    refine eX12_about (vX12_about_0 ⟨_, sp_mLoad' hM, fun r3 S2 q => ?_⟩)
    have k2 : KL S1 S2 := KL.fr q.2 rfl rfl rfl
    have e4 := q.2.at 412 rfl
    have e6 := q.2.at 426 rfl
    have hM2 : MX S2 n := hM.fm (FM.of q.2 rfl)
    rw [e4, e6]
    refine ⟨fun c => ⟨by subst c; rw [hM.2.1, ← hM.1.1]; rfl, k2⟩, fun c => ⟨by subst c; rw [h34, ← hD.1]; rfl, k2⟩, fun c => ⟨_, sp_feudsNow hM2 (by rw [q.2.at 29 rfl]; exact hF1'), fun r10 S9 p => ⟨by subst c; rw [p.1, ← hT]; rfl, by rw [p.2]; exact k2⟩⟩, fun c => ⟨by subst c; rw [nw.2.2.2.2.2.2.2.1]; rfl, k2⟩, fun c => ⟨by subst c; rw [nw.2.2.2.2.2.2.2.2.1]; rfl, k2⟩, fun c => ⟨by subst c; rw [nw.2.2.2.2.2.2.2.2.2]; rfl, k2⟩, fun c => ⟨_, sp_saidMany hM2 hM.2.2.2.2.2.1 q.1, fun r19 S18 p => ⟨by subst c; rw [p.1]; rfl, by rw [p.2]; exact k2⟩⟩, fun c => ⟨by subst c; rw [g6, ← g4]; rfl, k2⟩, fun c => ⟨by subst c; rw [g7, ← g5]; rfl, k2⟩, fun d => ⟨by subst d; rw [hR.2.1, ← hR.1.1]; rfl, k2⟩, fun d => ⟨by subst d; rw [hR.2.2.2.1]; rfl, k2⟩, fun d => ⟨by subst d; rw [t2, ← t1]; rfl, k2⟩, fun d => ⟨by subst d; rw [← hU]; rfl, k2⟩, fun d => ⟨by subst d; rw [l2, ← l1]; rfl, k2⟩, fun c0 c1 c2 c3 c4 c5 c6 c7 c8 c9 c10 c11 c12 c13 => ⟨?_, k2⟩⟩
    simp only [abR, if_neg c0, if_neg c1, if_neg c2, if_neg c3, if_neg c4, if_neg c5, if_neg c6, if_neg c7, if_neg c8, if_neg c9, if_neg c10, if_neg c11, if_neg c12, if_neg c13]
/-! ===== bread ===== -/
theorem sp_endWeekOf {s : Nat} {lf f : Int32} (hs : s < 5) (hf : f = 0 ∨ f = 1) : Ex G mX9_endWeekOf 2 [.ref 24, .int (nI s), .int lf, .int f] S (fun _ S1 => Fr [27, 28, 30, 31] S S1 ∧ (∀ j, S1.1 28 j = if j = s then lf else S.1 28 j) ∧ (∀ j, S1.1 27 j = if j = s then omin 99 (S.1 27 s + 1) else S.1 27 j) ∧ (∀ j, S1.1 30 j = if j = s then S.1 30 s + f else S.1 30 j) ∧ (∀ j, S1.1 31 j = if j = s then S.1 31 s + bI (shF (S.1 26) s) else S.1 31 j)) := by
  obtain ⟨Q, hQ⟩ : ∃ Q : Int32 → ovS → Prop, Q = (fun _ S1 => Fr [27, 28, 30, 31] S S1 ∧ (∀ j, S1.1 28 j = if j = s then lf else S.1 28 j) ∧ (∀ j, S1.1 27 j = if j = s then omin 99 (S.1 27 s + 1) else S.1 27 j) ∧ (∀ j, S1.1 30 j = if j = s then S.1 30 s + f else S.1 30 j) ∧ (∀ j, S1.1 31 j = if j = s then S.1 31 s + bI (shF (S.1 26) s) else S.1 31 j)) := ⟨_, rfl⟩
  rw [← hQ]
  have i5 : vp_in (nI s) 5 := vp_in_nI hs (by decide)
  have ix : (nI s).toNatClampNeg = s := nI_ix (by omega)
  have fin : ∀ S' : ovS, Fr [30, 31] S S' → (∀ j, S'.1 30 j = if j = s then S.1 30 s + f else S.1 30 j) → (∀ j, S'.1 31 j = if j = s then S.1 31 s + bI (shF (S.1 26) s) else S.1 31 j) → RM G mX9_endWeekOf 2 Q 54 [some (.ref 24), some (.int (nI s)), some (.int lf), none] [] S' := by
    intro S' hF h30 h31
    refine vX9_endWeekOf_54 ⟨i5, fun S1 e1 => ⟨i5, i5, fun S2 e2 => ?_⟩⟩
    rw [ix] at e1 e2
    rw [hQ]
    subst e2 e1
    refine ⟨(((hF.mono rfl).st rfl).st rfl), fun j => ?_, fun j => ?_, fun j => ?_, fun j => ?_⟩
    · rw [stI_row (by decide), stI_1, if_pos rfl, hF.at 28 rfl]
    · rw [stI_1, if_pos rfl, stI_row (by decide), hF.at 27 rfl]
    · rw [stI_row (by decide), stI_row (by decide)]
      exact h30 j
    · rw [stI_row (by decide), stI_row (by decide)]
      exact h31 j
  have same : ∀ (g : Nat → Int32) (b : Bool), b = false → ∀ j, g j = if j = s then g s + bI b else g j := by
    intro g b hb j
    subst hb
    by_cases e : j = s
    · rw [if_pos e, e]
      exact (Int32.add_zero _).symm
    · rw [if_neg e]
  refine eX9_endWeekOf (vX9_endWeekOf_0 ⟨fun c => absurd c (nI_neg (by omega)), fun _ => ⟨fun _ => ?_, fun c => absurd ((nI_lt_i (b := 5) (by omega) (by decide)).mpr hs) c⟩⟩)
  rw [ix]
  refine ⟨fun c => ⟨i5, fun d => ?_, fun d => ⟨i5, fun e => ?_, fun e => ⟨i5, i5, fun S6 e6 => ?_⟩⟩⟩, fun c => ⟨i5, i5, fun S7 e7 => ⟨i5, ?_⟩⟩⟩
  · subst c
    refine fin S Fr.rf (same (S.1 30) false rfl) (same (S.1 31) _ ?_)
    simp [shF, d]
  · subst c
    refine fin S Fr.rf (same (S.1 30) false rfl) (same (S.1 31) _ ?_)
    simp [shF, e]
  · subst c e6
    refine fin _ (Fr.rf.st rfl) (fun j => ?_) (fun j => ?_)
    · rw [stI_row (by decide)]
      exact same (S.1 30) false rfl j
    · rw [stI_1, if_pos rfl, show shF (S.1 26) s = true by simp [shF, d, e]]
      rfl
  · have f1 : f = 1 := hf.resolve_left c
    rw [e7, stI_row (by decide)]
    have h30 : ∀ j, (stI S 30 s (S.1 30 s + 1)).1 30 j = if j = s then S.1 30 s + f else S.1 30 j := by
      intro j
      rw [stI_1, if_pos rfl, f1]
    refine ⟨fun d => ?_, fun d => ⟨i5, fun e => ?_, fun e => ⟨i5, i5, fun S10 e10 => ?_⟩⟩⟩
    · refine fin _ (Fr.rf.st rfl) h30 (fun j => ?_)
      rw [stI_row (by decide)]
      exact same (S.1 31) _ (by simp [shF, d]) j
    · refine fin _ (Fr.rf.st rfl) h30 (fun j => ?_)
      rw [stI_row (by decide)]
      exact same (S.1 31) _ (by simp [shF, e]) j
    · subst e10
      refine fin _ ((Fr.rf.st rfl).st rfl) (fun j => ?_) (fun j => ?_)
      · rw [stI_row (by decide)]
        exact h30 j
      · rw [stI_1, if_pos rfl, stI_row (by decide), show shF (S.1 26) s = true by simp [shF, d, e]]
        rfl
theorem sp_beginWeek : Ex G mX9_beginWeek 2 [.ref 24] S (fun _ S1 => Fr [24, 25, 26] S S1 ∧ (∀ j, j < 5 → S1.1 25 j = 0) ∧ (∀ j, j < 5 → S1.1 26 j = -1) ∧ S1.1 24 8 = orem (S.1 24 8 * 137 + 71) 1000 ∧ S1.1 24 7 = orem (orem (S.1 24 8 * 137 + 71) 1000) 10 ∧ S1.1 24 9 = S.1 24 9 + 1) := by
  refine eX9_beginWeek (vX9_beginWeek_0 ⟨_, sp_fill (n := 5) ov_c25 (by decide +kernel) (by decide), fun r3 S2 q2 => ⟨_, sp_fill (n := 5) ov_c26 (by decide +kernel) (by decide), fun r8 S7 q7 => ⟨_, sp_seedBehind, fun r13 S12 q => ?_⟩⟩⟩)
  obtain ⟨p1, p2⟩ := q
  subst p2
  intro S16 e16
  refine ⟨_, sp_heatOf, fun r19 S18 q => ?_⟩
  obtain ⟨p3, p4⟩ := q
  subst p4
  intro S22 e22 S23 e23
  have e24 : S12.1 24 = S.1 24 := by rw [q7, seI_row (by decide), q2, seI_row (by decide)]
  rw [e24] at p1
  have s8 : S18.1 24 8 = r13 := by rw [e16, stI_1]; rfl
  rw [s8] at p3
  have f18 : ∀ k, k ≠ 24 → S23.1 k = S12.1 k := fun k hk => by rw [e23, stI_row hk, e22, stI_row hk, e16, stI_row hk]
  refine ⟨⟨fun k hk => ?_, ?_⟩, fun j hj => ?_, fun j hj => ?_, ?_, ?_, ?_⟩
  · have n1 : k ≠ 24 := fun z => by subst z; cases hk
    have n2 : k ≠ 25 := fun z => by subst z; cases hk
    have n3 : k ≠ 26 := fun z => by subst z; cases hk
    rw [f18 k n1, q7, seI_row n3, q2, seI_row n2]
  · rw [e23, e22, e16, q7, q2]
    rfl
  · rw [f18 25 (by decide), q7, seI_row (by decide), q2, seI_self]
    simp [fillR, hj]
  · rw [f18 26 (by decide), q7, seI_self]
    simp [fillR, hj]
  · rw [e23, stI_1, if_pos rfl, if_neg (by decide), e22, stI_1, if_pos rfl, if_neg (by decide), s8, p1]
  · rw [e23, stI_1, if_pos rfl, if_neg (by decide), e22, stI_1, if_pos rfl, if_pos rfl, p3, p1]
  · rw [e23, stI_1, if_pos rfl, if_pos rfl, e22, stI_1, if_pos rfl, if_neg (by decide), e16, stI_1, if_pos rfl, if_neg (by decide), e24]
abbrev L6b : List Nat := [23, 27, 28, 30, 31, 364, 365, 366, 367, 368]
/-- the week that is over, as the class leaves it behind SOULS ahead of i -/
def wkC (S S' : ovS) (i : Nat) : Prop := (∀ j, j < 5 → S'.1 27 j = if j < i then omin 99 (S.1 27 j + 1) else S.1 27 j) ∧ (∀ j, j < 5 → S'.1 28 j = if j < i then gLo S j (gSd (S.1 26)) else S.1 28 j) ∧ (∀ j, j < 5 → S'.1 30 j = if j < i then S.1 30 j + bI (fdF S (S.1 26) j) else S.1 30 j) ∧ (∀ j, j < 5 → S'.1 31 j = if j < i then S.1 31 j + bI (shF (S.1 26) j) else S.1 31 j)
def wkE (S S' : ovS) : Prop := (∀ j, j < 5 → S'.1 25 j = 0) ∧ (∀ j, j < 5 → S'.1 26 j = -1) ∧ S'.1 24 8 = orem (S.1 24 8 * 137 + 71) 1000 ∧ S'.1 24 7 = orem (orem (S.1 24 8 * 137 + 71) 1000) 10 ∧ S'.1 24 9 = S.1 24 9 + 1
theorem sp_cBread {a u : Nat} (hI : IC S n m) (hw : S.1 24 9 < 999) (g3 : S.1 32 2 = nI a) (g1 : a < 41) (g4 : S.1 32 0 = nI u) (hu : u ≤ 40) : Ex G mX11_bread 8 [.ref 0] S (fun r S15 => r = nI (mk (fdF S (S.1 26)) n) ∧ ∃ S13 : ovS, Fr [23, 24, 25, 26, 27, 28, 30, 31, 364, 365, 366, 367, 368] S S13 ∧ wkC S S13 n ∧ wkE S S13 ∧ stEq S15 (34 + 8 * ((a + 1) % 41)) S13 24 ∧ FrS [32] (34 + 8 * ((a + 1) % 41)) S13 S15 ∧ S15.1 32 2 = nI ((a + 1) % 41) ∧ S15.1 32 0 = nI (if u < 40 then u + 1 else 40) ∧ S15.1 32 1 = 0) := by
  have hn := hI.n5
  obtain ⟨Q, hQ⟩ : ∃ Q : Int32 → ovS → Prop, Q = (fun r S15 => r = nI (mk (fdF S (S.1 26)) n) ∧ ∃ S13 : ovS, Fr [23, 24, 25, 26, 27, 28, 30, 31, 364, 365, 366, 367, 368] S S13 ∧ wkC S S13 n ∧ wkE S S13 ∧ stEq S15 (34 + 8 * ((a + 1) % 41)) S13 24 ∧ FrS [32] (34 + 8 * ((a + 1) % 41)) S13 S15 ∧ S15.1 32 2 = nI ((a + 1) % 41) ∧ S15.1 32 0 = nI (if u < 40 then u + 1 else 40) ∧ S15.1 32 1 = 0) := ⟨_, rfl⟩
  rw [← hQ]
  have hlt : mk (fdF S (S.1 26)) n < 32 := Nat.lt_of_lt_of_le (mk_lt _ _) (pow5 hn)
  have key : ∀ d i : Nat, ∀ S' : ovS, i + d = n → Fr L6b S S' → wkC S S' i → RM G mX11_bread 8 Q 36 [some (.ref 0), some (.int (nI (mk (fdF S (S.1 26)) n))), some (.int (nI (gSd (S.1 26)))), some (.int (nI i)), none] [] S' := by
    intro d
    induction d with
    | zero =>
      intro i S' hi hF hC
      have : i = n := by omega
      subst this
      have e16 : S'.1 16 0 = nI i := by rw [hF.at 16 rfl]; exact hI.cx.1
      refine vX11_bread_36 ⟨fun _ => ⟨_, sp_beginWeek, fun r4 S3 q => ?_⟩, fun c => absurd (by rw [e16]; exact Int32.le_refl _) c⟩
      obtain ⟨b1, b2, b3, b4, b5, b6⟩ := q
      have k3 : ∀ k, k ≠ 24 → k ≠ 25 → k ≠ 26 → S3.1 k = S'.1 k := fun k h1 h2 h3 => b1.1 k (by simp [h1, h2, h3])
      refine ⟨_, sp_keep (a := a) (u := u) (by rw [k3 32 (by decide) (by decide) (by decide), hF.at 32 rfl]; exact g3) g1 (by rw [k3 32 (by decide) (by decide) (by decide), hF.at 32 rfl]; exact g4) hu, fun r9 S8 q => ?_⟩
      rw [hQ]
      rw [hF.at 24 rfl] at b4 b5 b6
      refine ⟨rfl, S3, (hF.mono rfl).tr (b1.mono rfl), ?_, ⟨b2, b3, b4, b5, b6⟩, q⟩
      obtain ⟨c1, c2, c3, c4⟩ := hC
      refine ⟨fun j hj => ?_, fun j hj => ?_, fun j hj => ?_, fun j hj => ?_⟩
      · rw [k3 27 (by decide) (by decide) (by decide)]; exact c1 j hj
      · rw [k3 28 (by decide) (by decide) (by decide)]; exact c2 j hj
      · rw [k3 30 (by decide) (by decide) (by decide)]; exact c3 j hj
      · rw [k3 31 (by decide) (by decide) (by decide)]; exact c4 j hj
    | succ d ih =>
      intro i S' hi hF hC
      have hi' : i < n := by omega
      have e16 : S'.1 16 0 = nI n := by rw [hF.at 16 rfl]; exact hI.cx.1
      have hfk : FOk S' := by
        obtain ⟨fl, f1, f2, f3⟩ := hI.fok
        exact ⟨fl, by rw [hF.at 20 rfl]; exact f1, f2, by rw [hF.at 21 rfl]; exact f3⟩
      have eLF : LF S' = LF S := LF_sm' (hF.at 20 rfl) (hF.at 21 rfl) (hF.at 22 rfl)
      refine vX11_bread_36 ⟨fun c => absurd c (nI_next e16 (by omega) hi'), fun _ => ⟨vp_in_nI (by omega) (by decide), _, sp_oLoafBy hfk (by omega), fun r14 S13 q => ?_⟩⟩
      obtain ⟨q1, q2⟩ := q
      rw [nI_ix (n := i) (by omega), hF.at 25 rfl, hF.at 24 rfl, hC.1 i (by omega), if_neg (by omega), hC.2.1 i (by omega), if_neg (by omega), eLF] at q1
      have q1' : r14 = gLo S i (gSd (S.1 26)) := q1
      have hF13 : Fr L6b S S13 := hF.tr (q2.mono rfl)
      have e26 : S13.1 26 = S.1 26 := hF13.at 26 rfl
      have nxt : ∀ f, f = bI (fdF S (S.1 26) i) → ∀ S19, (Fr [27, 28, 30, 31] S13 S19 ∧ (∀ j, S19.1 28 j = if j = i then r14 else S13.1 28 j) ∧ (∀ j, S19.1 27 j = if j = i then omin 99 (S13.1 27 i + 1) else S13.1 27 j) ∧ (∀ j, S19.1 30 j = if j = i then S13.1 30 i + f else S13.1 30 j) ∧ (∀ j, S19.1 31 j = if j = i then S13.1 31 i + bI (shF (S13.1 26) i) else S13.1 31 j)) → RM G mX11_bread 8 Q 36 [some (.ref 0), some (.int (nI (mk (fdF S (S.1 26)) n))), some (.int (nI (gSd (S.1 26)))), some (.int (nI i + 1)), none] [] S19 := by
        intro f hf S19 q
        obtain ⟨w1, w2, w3, w4, w5⟩ := q
        obtain ⟨c1, c2, c3, c4⟩ := hC
        have hh := ih (i + 1) S19 (by omega) (hF13.tr (w1.mono rfl)) ⟨fun j hj => ?_, fun j hj => ?_, fun j hj => ?_, fun j hj => ?_⟩
        · rw [nI_succ i] at hh
          exact hh
        · rw [w3, q2.at 27 rfl]
          by_cases e : j = i
          · rw [if_pos e, if_pos (by omega), c1 i (by omega), if_neg (by omega), e]
          · rw [if_neg e, c1 j hj]
            by_cases e2 : j < i
            · rw [if_pos e2, if_pos (by omega)]
            · rw [if_neg e2, if_neg (by omega)]
        · rw [w2, q2.at 28 rfl]
          by_cases e : j = i
          · rw [if_pos e, if_pos (by omega), e, q1']
          · rw [if_neg e, c2 j hj]
            by_cases e2 : j < i
            · rw [if_pos e2, if_pos (by omega)]
            · rw [if_neg e2, if_neg (by omega)]
        · rw [w4, q2.at 30 rfl]
          by_cases e : j = i
          · rw [if_pos e, if_pos (by omega), c3 i (by omega), if_neg (by omega), e, hf]
          · rw [if_neg e, c3 j hj]
            by_cases e2 : j < i
            · rw [if_pos e2, if_pos (by omega)]
            · rw [if_neg e2, if_neg (by omega)]
        · rw [w5, q2.at 31 rfl, e26]
          by_cases e : j = i
          · rw [if_pos e, if_pos (by omega), c4 i (by omega), if_neg (by omega), e]
          · rw [if_neg e, c4 j hj]
            by_cases e2 : j < i
            · rw [if_pos e2, if_pos (by omega)]
            · rw [if_neg e2, if_neg (by omega)]
      have hb : (mk (fdF S (S.1 26)) n).testBit i = fdF S (S.1 26) i := by rw [mk_bit, decide_eq_true hi', Bool.true_and]
      rw [bit_iff (by omega), hb]
      refine ⟨fun c => ⟨_, sp_endWeekOf (by omega) (Or.inl rfl), fun r20 S19 q => nxt 0 (by rw [c]; rfl) S19 q⟩, fun c => ⟨_, sp_endWeekOf (by omega) (Or.inr rfl), fun r20 S19 q => nxt 1 (by rw [Bool.not_eq_false] at c; rw [c]; rfl) S19 q⟩⟩
  refine eX11_bread (vX11_bread_0 ⟨fun _ => ⟨_, sp_fedNow hI.cx hI.vn, fun r4 S3 q => ⟨_, sp_sayers, fun r9 S8 p => ⟨_, sp_bitCount, fun r14 S13 o => ?_⟩⟩⟩, fun c => absurd hw c⟩)
  obtain ⟨q1, q2⟩ := q
  obtain ⟨p1, p2⟩ := p
  obtain ⟨o1, o2⟩ := o
  subst p2 o2
  rw [p1, q2.at 26 rfl, bc_mk (by decide)] at o1
  have h0 : wkC S S13 0 := ⟨fun j hj => by rw [q2.at 27 rfl]; simp, fun j hj => by rw [q2.at 28 rfl]; simp, fun j hj => by rw [q2.at 30 rfl]; simp, fun j hj => by rw [q2.at 31 rfl]; simp⟩
  have hh := key n 0 S13 (by omega) (q2.mono rfl) h0
  rw [q1, o1]
  exact hh
end
