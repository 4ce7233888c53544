/-! ===== feud, undo, redo, image, back ===== -/
section
variable {G : ovG} {S : ovS} {n m : Nat}
theorem FD.flip {f : Nat → Int32} {s o : Nat} (hn : n ≤ 5) (h : FD n f) (hs : s < n) (ho : o < n) (hne : s ≠ o) : FD n (upd (upd f s (f s ^^^ (1 <<< (nI o &&& 31)))) o (upd f s (f s ^^^ (1 <<< (nI o &&& 31))) o ^^^ (1 <<< (nI s &&& 31)))) := by
  obtain ⟨F, h1, h2, h3⟩ := h
  refine ⟨fun i => if i = o then F o ^^^ 2 ^ s else if i = s then F s ^^^ 2 ^ o else F i, fun i hi => ?_, fun i j hi hj => ?_, fun i hi => ?_⟩
  · have p1 : 2 ^ s < 2 ^ n := Nat.pow_lt_pow_right (by decide) hs
    have p2 : 2 ^ o < 2 ^ n := Nat.pow_lt_pow_right (by decide) ho
    simp only [upd]
    by_cases e1 : i = o
    · subst e1
      rw [if_pos rfl, if_pos rfl, if_neg (fun z => hne z.symm)]
      refine ⟨?_, Nat.xor_lt_two_pow (h1 i hi).2 p1⟩
      rw [(h1 i hi).1, sh1 s (by omega), fb_xorI]
    · rw [if_neg e1, if_neg e1]
      by_cases e2 : i = s
      · subst e2
        rw [if_pos rfl, if_pos rfl]
        refine ⟨?_, Nat.xor_lt_two_pow (h1 i hi).2 p2⟩
        rw [(h1 i hi).1, sh1 o (by omega), fb_xorI]
      · rw [if_neg e2, if_neg e2]
        exact h1 i hi
  · have q1 := h2 i j hi hj
    have hne' : o ≠ s := fun z => hne z.symm
    by_cases a1 : i = o
    · by_cases b1 : j = o
      · subst a1 b1; rfl
      · by_cases b2 : j = s
        · subst a1 b2
          simp [hne, Nat.testBit_xor, Nat.testBit_two_pow, q1]
        · subst a1
          simp only [if_true, if_neg b1, if_neg b2, Nat.testBit_xor, Nat.testBit_two_pow, q1]
          simp [fun z => b2 (Eq.symm z), show ¬ s = j from fun z => b2 z.symm]
    · by_cases a2 : i = s
      · by_cases b1 : j = o
        · subst a2 b1
          simp [hne, Nat.testBit_xor, Nat.testBit_two_pow, q1]
        · by_cases b2 : j = s
          · subst a2 b2; rfl
          · subst a2
            simp only [if_neg a1, if_true, if_neg b1, if_neg b2, Nat.testBit_xor, Nat.testBit_two_pow, q1]
            simp [show ¬ o = j from fun z => b1 z.symm]
      · by_cases b1 : j = o
        · subst b1
          simp only [if_neg a1, if_neg a2, if_true, Nat.testBit_xor, Nat.testBit_two_pow, q1]
          simp [show ¬ s = i from fun z => a2 z.symm]
        · by_cases b2 : j = s
          · subst b2
            simp only [if_neg a1, if_neg a2, if_neg b1, if_true, Nat.testBit_xor, Nat.testBit_two_pow, q1]
            simp [show ¬ o = i from fun z => a1 z.symm]
          · simp only [if_neg a1, if_neg a2, if_neg b1, if_neg b2]
            exact q1
  · by_cases a1 : i = o
    · subst a1
      simp only [if_true, Nat.testBit_xor, Nat.testBit_two_pow, h3 i hi]
      simp [hne]
    · by_cases a2 : i = s
      · subst a2
        simp only [if_neg a1, if_true, Nat.testBit_xor, Nat.testBit_two_pow, h3 i hi]
        simp [show ¬ o = i from fun z => a1 z.symm]
      · simp only [if_neg a1, if_neg a2]
        exact h3 i hi
theorem pb_feud {x y : Int32} (hI : IC S n m) (hL : Ly S n) : PB G mX11_feud 4 [.ref 0, .int x, .int y] mX12_feud 3 [.ref 412, .int x, .int y] S := by
  have hn := hI.n5
  obtain ⟨a, u, r, hH⟩ := hI.2.2.2.2.2.1
  obtain ⟨g1, g2, g3, g4, g5, g6, g7, _⟩ := id hH
  have hv : Inv S := ⟨n, m, hI, hL⟩
  have bad : (¬ sIn n x ∨ ¬ sIn n y ∨ x = y) → Ex G mX12_feud 3 [.ref 412, .int x, .int y] S (fun r2 S2 => r2 = -1 ∧ Inv S2) := by
    intro hb
    refine eX12_feud (vX12_feud_0 ⟨_, sp_mIsSoul hI.1.2.1 hn, fun r3 S2 q => ?_⟩)
    obtain ⟨q1, q2⟩ := q
    subst q2
    refine ⟨fun _ => ⟨rfl, hv⟩, fun c => ⟨_, sp_mIsSoul hI.1.2.1 hn, fun r9 S8 q => ?_⟩⟩
    obtain ⟨p1, p2⟩ := q
    subst p2
    exact ⟨fun _ => ⟨rfl, hv⟩, fun d => ⟨fun e => absurd hb (fun z => z.elim (fun z => z (nn_in q1 c)) (fun z => z.elim (fun z => z (nn_in p1 d)) e)), fun _ => ⟨rfl, hv⟩⟩⟩
  refine eX11_feud (vX11_feud_0 ⟨_, sp_cIsSoul hI.cx.1 hn, fun r3 S2 q => ?_⟩)
  obtain ⟨q1, q2⟩ := q
  subst q2
  refine ⟨fun c => bad (Or.inl (q1.mp c)), fun c => ⟨_, sp_cIsSoul hI.cx.1 hn, fun r9 S8 q => ?_⟩⟩
  obtain ⟨p1, p2⟩ := q
  subst p2
  refine ⟨fun d => bad (Or.inr (Or.inl (p1.mp d))), fun d => ⟨fun e => ?_, fun e => bad (Or.inr (Or.inr e))⟩⟩
  obtain ⟨s, hs, hx⟩ := nn_in q1 c
  obtain ⟨o, ho, hy⟩ := nn_in p1 d
  subst hx hy
  have hne : s ≠ o := fun z => e (by rw [z])
  have i5 : vp_in (nI s) 5 := vp_in_nI (by omega) (by decide)
  have j5 : vp_in (nI o) 5 := vp_in_nI (by omega) (by decide)
  rw [nI_ix (n := s) (by omega), nI_ix (n := o) (by omega)]
  refine ⟨i5, i5, fun S14 e14 => ⟨j5, j5, fun S15 e15 => ?_⟩⟩
  have k15 : ∀ k, k ≠ 29 → S15.1 k = S8.1 k := fun k hk => by rw [e15, stI_row hk, e14, stI_row hk]
  have r29 : S15.1 29 = upd (upd (S8.1 29) s (S8.1 29 s ^^^ (1 <<< (nI o &&& 31)))) o (upd (S8.1 29) s (S8.1 29 s ^^^ (1 <<< (nI o &&& 31))) o ^^^ (1 <<< (nI s &&& 31))) := by
    rw [e15, stI_self, e14, stI_self]
  have hFD : FD n (S15.1 29) := by
    rw [r29]
    exact FD.flip hn hI.1.2.2.2.2.1 hs ho hne
  refine ⟨_, sp_keep (by rw [k15 32 (by decide)]; exact g3) g1 (by rw [k15 32 (by decide)]; exact g4) (by omega), fun r18 S17 q => ⟨i5, ?_⟩⟩
  obtain ⟨z1, z2, z3, z4, z5⟩ := q
  have k17 : ∀ k, k ≠ 32 → k < 34 ∨ 362 ≤ k → S17.1 k = S15.1 k := fun k h1 h2 => z2.at (by simp [h1]) (by have : (a + 1) % 41 < 41 := Nat.mod_lt _ (by decide); omega)
  have e29 : S17.1 29 = S15.1 29 := k17 29 (by decide) (by omega)
  rw [e29]
  have s35 : S17.1 412 35 = nI n := by rw [k17 412 (by decide) (by omega), k15 412 (by decide)]; exact hI.1.2.1
  have s45 : S17.1 412 45 = nI u := by rw [k17 412 (by decide) (by omega), k15 412 (by decide)]; exact g6
  refine eX12_feud (vX12_feud_0 ⟨_, sp_mIsSoul s35 hn, fun r3 S2 q => ?_⟩)
  obtain ⟨y1, y2⟩ := q
  subst y2
  refine ⟨fun w => absurd ⟨s, hs, rfl⟩ (y1.mp w), fun _ => ⟨_, sp_mIsSoul s35 hn, fun r9 S9 q => ?_⟩⟩
  obtain ⟨x1, x2⟩ := q
  subst x2
  have i10 : vp_in ((10 : Int32) + nI s) 40 := in_add (a := 10) (by omega) (by decide)
  have j10 : vp_in ((10 : Int32) + nI o) 40 := in_add (a := 10) (by omega) (by decide)
  have x10 : ((10 : Int32) + nI s).toNatClampNeg = 10 + s := ix_add (a := 10) (by omega)
  have y10 : ((10 : Int32) + nI o).toNatClampNeg = 10 + o := ix_add (a := 10) (by omega)
  refine ⟨fun w => absurd ⟨o, ho, rfl⟩ (x1.mp w), fun _ => ⟨fun _ => ⟨_, sp_act (u := u) s45 (by omega), fun r16 S16 q => ⟨i10, i10, fun S19 e19 => ⟨j10, j10, fun S20 e20 => ⟨i10, ?_⟩⟩⟩⟩, fun z => absurd z e⟩⟩
  rw [x10] at e19 ⊢
  rw [y10] at e20
  have e426 : S16.1 426 = S8.1 426 := by rw [q.1.1 426 rfl (by decide), k17 426 (by decide) (by omega), k15 426 (by decide)]
  have hNo := nH hI
  have m29 : ∀ i, i < 5 → S8.1 426 (10 + i) = S8.1 29 i := fun i hi => by rw [hNo _ (by omega), sr_c hi]
  have r20 : S20.1 426 = upd (upd (S8.1 426) (10 + s) (S8.1 29 s ^^^ (1 <<< (nI o &&& 31)))) (10 + o) (upd (S8.1 426) (10 + s) (S8.1 29 s ^^^ (1 <<< (nI o &&& 31))) (10 + o) ^^^ (1 <<< (nI s &&& 31))) := by
    rw [e20, stI_self, e19, stI_self, e426, m29 s (by omega)]
  have mm : ∀ i, i < 5 → S20.1 426 (10 + i) = S15.1 29 i := by
    intro i hi
    rw [r20, r29]
    simp only [upd]
    by_cases a1 : i = o
    · subst a1
      rw [if_pos rfl, if_pos rfl, if_neg (by omega), if_neg (fun z => hne z.symm), m29 i hi]
    · rw [if_neg (by omega), if_neg a1]
      by_cases a2 : i = s
      · subst a2
        rw [if_pos rfl, if_pos rfl]
      · rw [if_neg (by omega), if_neg a2]
        exact m29 i hi
  refine ⟨by rw [mm s (by omega)], ?_⟩
  refine IC.actd hI hL hH (fun k h _ => k15 k (by omega)) (k15 376 (by decide)) (k15 412 (by decide)) ⟨by rw [k15 369 (by decide)], k15 370 (by decide), k15 431 (by decide)⟩ z1 z2 z3 z4 z5 q (by rw [e20, e19]; exact (FJ.rf.st rfl rfl).st rfl rfl) ?_ ?_
  · have out : ∀ k, k < 10 ∨ 15 ≤ k → S20.1 426 k = S8.1 426 k := by
      intro k hk
      rw [r20]
      simp only [upd]
      rw [if_neg (by omega), if_neg (by omega)]
    refine k38 (fun i hi => ?_) (fun i hi => ?_) (fun i hi => ?_) (fun i hi => ?_) (fun i hi => ?_) (fun i hi => ?_) (fun i hi => ?_) (fun i h1 h2 => ?_)
    · rw [out _ (by omega), hNo _ (by omega), sr_a hi, sr_a hi, k15 25 (by decide)]
    · rw [out _ (by omega), hNo _ (by omega), sr_b hi, sr_b hi, k15 26 (by decide)]
    · rw [mm i hi, sr_c hi]
    · rw [out _ (by omega), hNo _ (by omega), sr_d hi, sr_d hi, k15 27 (by decide)]
    · rw [out _ (by omega), hNo _ (by omega), sr_e hi, sr_e hi, k15 28 (by decide)]
    · rw [out _ (by omega), hNo _ (by omega), sr_f hi, sr_f hi, k15 30 (by decide)]
    · rw [out _ (by omega), hNo _ (by omega), sr_g hi, sr_g hi, k15 31 (by decide)]
    · rw [out _ (by omega), hNo _ (by omega), sr_h h1 h2, sr_h h1 h2, k15 24 (by decide)]
  · obtain ⟨w1, w2, w3, w4, w5⟩ := hI.2.2.2.2.1
    refine ⟨w1.cg (fun i hi => ?_), hFD.cg (fun i hi => ?_), fun i hi => ?_, ?_, fun i hn hi => ?_⟩
    · rw [sr_b hi, sr_b hi, k15 26 (by decide)]
    · rw [sr_c hi]
    · have := w3 i hi
      rw [sr_d hi] at this ⊢
      rw [k15 27 (by decide)]
      exact this
    · have e9 : srow S15 24 37 = srow S8 24 37 := by
        rw [show (37 : Nat) = 28 + 9 by decide, sr_h (by omega) (by omega), sr_h (by omega) (by omega), k15 24 (by decide)]
      rw [e9]
      exact w4
    · have := w5 i hn hi
      rw [sr_a hi] at this ⊢
      rw [k15 25 (by decide)]
      exact this
theorem ring_24 : ∀ a, a < 41 → ∀ j, j < 8 → 32 ≤ 34 + 8 * a + j := by omega
theorem pb_undo (hI : IC S n m) (hL : Ly S n) : PB G mX11_undo 4 [.ref 0] mX12_undo 2 [.ref 412] S := by
  have hn := hI.n5
  obtain ⟨a, u, r, hH⟩ := hI.2.2.2.2.2.1
  obtain ⟨g1, g2, g3, g4, g5, g6, g7, g8, g9, g10, g11⟩ := id hH
  refine eX11_undo (vX11_undo_0 ⟨_, sp_goBack g3 g1 g4 (by omega) g5 (by omega), fun q S1 p => ?_⟩)
  by_cases hu : u = 0
  · rw [if_pos hu] at p
    obtain ⟨p1, p2⟩ := p
    subst p1 p2
    refine ⟨Or.inl rfl, eX12_undo (vX12_undo_0 ⟨fun z => absurd (by rw [g6, hu]; rfl) z, fun _ => ⟨rfl, n, m, hI, hL⟩⟩)⟩
  · rw [if_neg hu] at p
    obtain ⟨p1, p2, p3, p4, p5, p6⟩ := p
    subst p1
    refine ⟨Or.inr rfl, eX12_undo (vX12_undo_0 ?_)⟩
    have k1 : ∀ k, k ≠ 32 → k < 24 ∨ 32 ≤ k → S1.1 k = S.1 k := fun k h1 h2 => p3.at (by simp [h1]) (by omega)
    have e45 : S1.1 412 45 = nI u := by rw [k1 412 (by decide) (by omega)]; exact g6
    have e46 : S1.1 412 46 = nI r := by rw [k1 412 (by decide) (by omega)]; exact g7
    obtain ⟨v, rfl⟩ : ∃ v, u = v + 1 := ⟨u - 1, by omega⟩
    rw [e45]
    refine ⟨fun _ S2 e2 S3 e3 => ?_, fun z => absurd ((nI_eq_i (b := 0) (by omega) (by decide)).mp z) (by omega)⟩
    rw [nI_pred] at e2
    have e2' : S2.1 412 46 = nI r := by rw [e2, stI_1, if_pos rfl, if_neg (by decide), e46]
    rw [e2', nI_1] at e3
    have e3' : S3.1 412 45 = nI v := by rw [e3, stI_1, if_pos rfl, if_neg (by decide), e2, stI_1]; rfl
    rw [e3', show (40 : Int32) = nI 40 from rfl, pk_mul]
    refine ⟨_, sp_exchange (by omega), fun r6 S5 x => ⟨rfl, ?_⟩⟩
    obtain ⟨x1, x2, x3, x4⟩ := x
    have k3 : ∀ k, k ≠ 412 → S3.1 k = S1.1 k := fun k hk => by rw [e3, stI_row hk, e2, stI_row hk]
    have k5 : ∀ k, k ≠ 412 → k ≠ 426 → k ≠ 430 → S5.1 k = S1.1 k := fun k h1 h2 h3 => by rw [x1.1 k (by simp [h2, h3]) h1, k3 k h1]
    have s412 : ∀ j, j ≠ 45 → j ≠ 46 → S5.1 412 j = S.1 412 j := by
      intro j h1 h2
      rw [x1.2.1 j rfl, e3, stI_1, if_pos rfl, if_neg h2, e2, stI_1, if_pos rfl, if_neg h1, k1 412 (by decide) (by omega)]
    have t45 : S5.1 412 45 = nI v := by rw [x1.2.1 45 rfl]; exact e3'
    have t46 : S5.1 412 46 = nI (r + 1) := by rw [x1.2.1 46 rfl, e3, stI_1]; rfl
    have b3 : S3.1 430 = S.1 430 := by rw [k3 430 (by decide), k1 430 (by decide) (by omega)]
    have b6 : S3.1 426 = S.1 426 := by rw [k3 426 (by decide), k1 426 (by decide) (by omega)]
    rw [b3] at x2 x4
    rw [b6] at x3
    have nw : srow S5 24 = srow S1 24 := sr_cg (fun j hj => k5 _ (by omega) (by omega) (by omega))
    have rg : ∀ c, c < 41 → srow S5 (34 + 8 * c) = srow S (34 + 8 * c) := fun c hc => sr_cg (fun j hj => by rw [k5 _ (by omega) (by omega) (by omega), k1 _ (by omega) (by omega)])
    have hNo := nH hI
    -- the state gone back to
    have back : ∀ k, k < 38 → srow S1 24 k = S.1 430 (40 * v + k) := by
      intro k hk
      rw [stEq_sr p2 k hk]
      have := g9 v (by omega) k hk
      rw [show (a + 41 - (v + 1) + v) % 41 = (a + 40) % 41 by omega] at this
      exact this
    have hW : WS n (srow S1 24) := (g11 v (by omega)).cg (fun k hk => back k hk)
    refine ⟨n, m, hI.hist (fun k h1 h2 h3 => ?_) (fun j _ h2 h3 => s412 j h2 h3) ?_ ?_ (by rw [nw]; exact hW) (fun k hk => by rw [x2 k hk, nw, back k hk]) ?_, ?_⟩
    · have n1 : k ≠ 412 := fun z => by subst z; cases h1
      have n2 : k ≠ 426 := fun z => by subst z; cases h2
      have n3 : k ≠ 430 := fun z => by subst z; cases h2
      have n4 : k ≠ 32 := fun z => by subst z; cases h2
      rw [k5 k n1 n2 n3]
      refine k1 k n4 ?_
      rcases Nat.lt_or_ge k 24 with z | z
      · exact Or.inl z
      · rcases Nat.lt_or_ge k 32 with y | y
        · have : k = 24 ∨ k = 25 ∨ k = 26 ∨ k = 27 ∨ k = 28 ∨ k = 29 ∨ k = 30 ∨ k = 31 := by omega
          rcases this with rfl | rfl | rfl | rfl | rfl | rfl | rfl | rfl <;> cases h2
        · exact Or.inr y
    · rw [k5 376 (by decide) (by decide) (by decide), k1 376 (by decide) (by omega)]
    · rw [k5 376 (by decide) (by decide) (by decide), k1 376 (by decide) (by omega)]
    · have e32 : S5.1 32 = S1.1 32 := k5 32 (by decide) (by decide) (by decide)
      refine ⟨(a + 40) % 41, v, r + 1, Nat.mod_lt _ (by decide), by omega, by rw [e32]; exact p4, by rw [e32]; exact p5, by rw [e32]; exact p6, t45, t46, fun k hk => ?_, fun j hj k hk => ?_, fun j hj k hk => ?_, fun j hj => ?_⟩
      · rw [rg _ (Nat.mod_lt _ (by decide)), nw, stEq_sr p2 k hk]
      · rw [rg _ (Nat.mod_lt _ (by decide)), x4 _ (by omega), show ((a + 40) % 41 + 41 - v + j) % 41 = (a + 41 - (v + 1) + j) % 41 by omega]
        exact g9 j (by omega) k hk
      · by_cases hj0 : j = 0
        · subst hj0
          rw [rg _ (Nat.mod_lt _ (by decide)), show v + 0 = v by omega, x3 k hk, show ((a + 40) % 41 + 1 + 0) % 41 = a by omega, hNo k hk]
          exact g8 k hk
        · rw [rg _ (Nat.mod_lt _ (by decide)), x4 _ (by omega), show ((a + 40) % 41 + 1 + j) % 41 = (a + 1 + (j - 1)) % 41 by omega]
          have := g10 (j - 1) (by omega) k hk
          rw [show v + 1 + (j - 1) = v + j by omega] at this
          exact this
      · by_cases hjv : j = v
        · subst hjv
          refine hI.2.2.2.2.1.cg (fun k hk => ?_)
          rw [x3 k hk, hNo k hk]
        · refine (g11 j (by omega)).cg (fun k hk => x4 _ (by omega))
    · refine hL.cg ?_ (s412 48 (by decide) (by decide)) ?_ ?_
      · rw [k5 369 (by decide) (by decide) (by decide), k1 369 (by decide) (by omega)]
      · rw [k5 370 (by decide) (by decide) (by decide), k1 370 (by decide) (by omega)]
      · rw [k5 431 (by decide) (by decide) (by decide), k1 431 (by decide) (by omega)]
theorem pb_redo (hI : IC S n m) (hL : Ly S n) : PB G mX11_redo 4 [.ref 0] mX12_redo 2 [.ref 412] S := by
  have hn := hI.n5
  obtain ⟨a, u, r, hH⟩ := hI.2.2.2.2.2.1
  obtain ⟨g1, g2, g3, g4, g5, g6, g7, g8, g9, g10, g11⟩ := id hH
  refine eX11_redo (vX11_redo_0 ⟨_, sp_goOnH g3 g1 g4 (by omega) g5 (by omega), fun q S1 p => ?_⟩)
  by_cases hr : r = 0
  · rw [if_pos hr] at p
    obtain ⟨p1, p2⟩ := p
    subst p1 p2
    refine ⟨Or.inl rfl, eX12_redo (vX12_redo_0 ⟨fun z => absurd (by rw [g7, hr]; rfl) z, fun _ => ⟨rfl, n, m, hI, hL⟩⟩)⟩
  · rw [if_neg hr] at p
    obtain ⟨p1, p2, p3, p4, p5, p6⟩ := p
    subst p1
    refine ⟨Or.inr rfl, eX12_redo (vX12_redo_0 ?_)⟩
    have k1 : ∀ k, k ≠ 32 → k < 24 ∨ 32 ≤ k → S1.1 k = S.1 k := fun k h1 h2 => p3.at (by simp [h1]) (by omega)
    have e45 : S1.1 412 45 = nI u := by rw [k1 412 (by decide) (by omega)]; exact g6
    have e46 : S1.1 412 46 = nI r := by rw [k1 412 (by decide) (by omega)]; exact g7
    obtain ⟨v, rfl⟩ : ∃ v, r = v + 1 := ⟨r - 1, by omega⟩
    rw [e45, e46]
    refine ⟨fun _ => ?_, fun z => absurd ((nI_eq_i (b := 0) (by omega) (by decide)).mp z) (by omega)⟩
    rw [show (40 : Int32) = nI 40 from rfl, pk_mul]
    refine ⟨_, sp_exchange (by omega), fun r4 S3 x S7 e7 S8 e8 => ⟨rfl, ?_⟩⟩
    obtain ⟨x1, x2, x3, x4⟩ := x
    have f45 : S3.1 412 45 = nI u := by rw [x1.2.1 45 rfl]; exact e45
    rw [f45, nI_1] at e7
    have f46 : S7.1 412 46 = nI (v + 1) := by rw [e7, stI_1, if_pos rfl, if_neg (by decide), x1.2.1 46 rfl]; exact e46
    rw [f46, nI_pred] at e8
    have k8 : ∀ k, k ≠ 412 → S8.1 k = S3.1 k := fun k hk => by rw [e8, stI_row hk, e7, stI_row hk]
    have k5 : ∀ k, k ≠ 412 → k ≠ 426 → k ≠ 430 → S8.1 k = S1.1 k := fun k h1 h2 h3 => by rw [k8 k h1, x1.1 k (by simp [h2, h3]) h1]
    have s412 : ∀ j, j ≠ 45 → j ≠ 46 → S8.1 412 j = S.1 412 j := by
      intro j h1 h2
      rw [e8, stI_1, if_pos rfl, if_neg h2, e7, stI_1, if_pos rfl, if_neg h1, x1.2.1 j rfl, k1 412 (by decide) (by omega)]
    have t45 : S8.1 412 45 = nI (u + 1) := by rw [e8, stI_1, if_pos rfl, if_neg (by decide), e7, stI_1]; rfl
    have t46 : S8.1 412 46 = nI v := by rw [e8, stI_1]; rfl
    have b3 : S1.1 430 = S.1 430 := k1 430 (by decide) (by omega)
    have b6 : S1.1 426 = S.1 426 := k1 426 (by decide) (by omega)
    rw [b3] at x2 x4
    rw [b6] at x3
    rw [← k8 426 (by decide)] at x2
    rw [← k8 430 (by decide)] at x3 x4
    have nw : srow S8 24 = srow S1 24 := sr_cg (fun j hj => k5 _ (by omega) (by omega) (by omega))
    have rg : ∀ c, c < 41 → srow S8 (34 + 8 * c) = srow S (34 + 8 * c) := fun c hc => sr_cg (fun j hj => by rw [k5 _ (by omega) (by omega) (by omega), k1 _ (by omega) (by omega)])
    have hNo := nH hI
    have back : ∀ k, k < 38 → srow S1 24 k = S.1 430 (40 * u + k) := by
      intro k hk
      rw [stEq_sr p2 k hk]
      have := g10 0 (by omega) k hk
      rw [Nat.add_zero, Nat.add_zero] at this
      exact this
    have hW : WS n (srow S1 24) := (g11 u (by omega)).cg (fun k hk => back k hk)
    refine ⟨n, m, hI.hist (fun k h1 h2 h3 => ?_) (fun j _ h2 h3 => s412 j h2 h3) ?_ ?_ (by rw [nw]; exact hW) (fun k hk => by rw [x2 k hk, nw, back k hk]) ?_, ?_⟩
    · have n1 : k ≠ 412 := fun z => by subst z; cases h1
      have n2 : k ≠ 426 := fun z => by subst z; cases h2
      have n3 : k ≠ 430 := fun z => by subst z; cases h2
      have n4 : k ≠ 32 := fun z => by subst z; cases h2
      rw [k5 k n1 n2 n3]
      refine k1 k n4 ?_
      rcases Nat.lt_or_ge k 24 with z | z
      · exact Or.inl z
      · rcases Nat.lt_or_ge k 32 with y | y
        · have : k = 24 ∨ k = 25 ∨ k = 26 ∨ k = 27 ∨ k = 28 ∨ k = 29 ∨ k = 30 ∨ k = 31 := by omega
          rcases this with rfl | rfl | rfl | rfl | rfl | rfl | rfl | rfl <;> cases h2
        · exact Or.inr y
    · rw [k5 376 (by decide) (by decide) (by decide), k1 376 (by decide) (by omega)]
    · rw [k5 376 (by decide) (by decide) (by decide), k1 376 (by decide) (by omega)]
    · have e32 : S8.1 32 = S1.1 32 := k5 32 (by decide) (by decide) (by decide)
      refine ⟨(a + 1) % 41, u + 1, v, Nat.mod_lt _ (by decide), by omega, by rw [e32]; exact p4, by rw [e32]; exact p5, by rw [e32]; exact p6, t45, t46, fun k hk => ?_, fun j hj k hk => ?_, fun j hj k hk => ?_, fun j hj => ?_⟩
      · rw [rg _ (Nat.mod_lt _ (by decide)), nw, stEq_sr p2 k hk]
      · rw [rg _ (Nat.mod_lt _ (by decide)), show ((a + 1) % 41 + 41 - (u + 1) + j) % 41 = (a + 41 - u + j) % 41 by omega]
        by_cases hju : j = u
        · subst hju
          rw [x3 k hk, show (a + 41 - j + j) % 41 = a by omega, hNo k hk]
          exact g8 k hk
        · rw [x4 _ (by omega)]
          exact g9 j (by omega) k hk
      · rw [rg _ (Nat.mod_lt _ (by decide)), x4 _ (by omega), show ((a + 1) % 41 + 1 + j) % 41 = (a + 1 + (j + 1)) % 41 by omega]
        have := g10 (j + 1) (by omega) k hk
        rw [show u + (j + 1) = u + 1 + j by omega] at this
        exact this
      · by_cases hju : j = u
        · subst hju
          refine hI.2.2.2.2.1.cg (fun k hk => ?_)
          rw [x3 k hk, hNo k hk]
        · refine (g11 j (by omega)).cg (fun k hk => x4 _ (by omega))
    · refine hL.cg ?_ (s412 48 (by decide) (by decide)) ?_ ?_
      · rw [k5 369 (by decide) (by decide) (by decide), k1 369 (by decide) (by omega)]
      · rw [k5 370 (by decide) (by decide) (by decide), k1 370 (by decide) (by omega)]
      · rw [k5 431 (by decide) (by decide) (by decide), k1 431 (by decide) (by omega)]
theorem sp_cIsBox {x : Int32} : Ex G mX11_isBox 1 [.int x] S (fun r S1 => (r = 0 ↔ ¬ sIn 3 x) ∧ S1 = S) := by
  refine eX11_isBox (vX11_isBox_0 ?_)
  have hg := ge_iff (x := x) (n := 3) (by decide)
  refine ⟨fun c => ⟨⟨fun _ z => (hg.mpr z).1 c, fun _ => rfl⟩, rfl⟩, fun c => ⟨fun d => ⟨⟨fun _ z => (hg.mpr z).2 d, fun _ => rfl⟩, rfl⟩, fun d => ⟨⟨fun z => absurd z (by decide), fun z => absurd (hg.mp ⟨c, d⟩) z⟩, rfl⟩⟩⟩
theorem sp_mIsBox {x : Int32} : Ex G mX12_isBox 1 [.int x] S (fun r S1 => (r = 0 ↔ ¬ sIn 3 x) ∧ S1 = S) := by
  refine eX12_isBox (vX12_isBox_0 ?_)
  have hg := ge_iff (x := x) (n := 3) (by decide)
  refine ⟨fun c => ⟨⟨fun _ z => (hg.mpr z).1 c, fun _ => rfl⟩, rfl⟩, fun c => ⟨fun d => ⟨⟨fun _ z => (hg.mpr z).2 d, fun _ => rfl⟩, rfl⟩, fun d => ⟨⟨fun z => absurd z (by decide), fun z => absurd (hg.mp ⟨c, d⟩) z⟩, rfl⟩⟩⟩
/-- the boxes are new -/
theorem IC.box {S2 : ovS} (hI : IC S n m) (hk : ∀ k, SCr.contains k = false → k ≠ 363 → k ≠ 445 → k ≠ 446 → (k < 388 ∨ 412 ≤ k) → S2.1 k = S.1 k) (h4 : S2.1 412 = S.1 412) (h1 : S2.1 376 = S.1 376) (hB : BR S2 n) : IC S2 n m := by
  obtain ⟨hM, hD, h34, hU, hW, hH, _, ⟨c, hR⟩, hT, hf1, hf2⟩ := hI
  have r1 : ∀ a, a < 41 → ∀ j, j < 8 → S2.1 (34 + 8 * a + j) = S.1 (34 + 8 * a + j) := fun a ha j hj => hk _ (ring_nsc a ha j hj) (by omega) (by omega) (by omega) (by omega)
  have r3 : ∀ j, j < 8 → S2.1 (24 + j) = S.1 (24 + j) := fun j hj => hk _ (now_nsc j hj) (by omega) (by omega) (by omega) (by omega)
  have r4 : ∀ k, k ∈ MXr → k ≠ 363 ∧ k ≠ 445 ∧ k ≠ 446 ∧ (k < 388 ∨ 412 ≤ k) := by decide +kernel
  have r5 : ∀ k, k ∈ RRr → k ≠ 363 ∧ k ≠ 445 ∧ k ≠ 446 ∧ (k < 388 ∨ 412 ≤ k) := by decide +kernel
  refine ⟨hM.cg (fun k h => hk k (MXr_nsc k h) (r4 k h).1 (r4 k h).2.1 (r4 k h).2.2.1 (r4 k h).2.2.2) (by rw [h4]) (by rw [h4]) (by rw [h4]), ?_, by rw [h4]; exact h34, ?_, ?_, ?_, hB, ⟨c, ?_⟩, ?_, ?_, ?_⟩
  · unfold CD
    rw [hk 16 rfl (by decide) (by decide) (by decide) (by omega)]
    exact hD
  · rw [hk 20 rfl (by decide) (by decide) (by decide) (by omega), h4]; exact hU
  · rw [sr_cg r3]; exact hW
  · exact hH.cg (hk 32 rfl (by decide) (by decide) (by decide) (by omega)) (by rw [h4]) (by rw [h4]) (hk 430 rfl (by decide) (by decide) (by decide) (by omega)) r1 r3
  · exact hR.cg (fun k h => hk k (RRr_nsc k h) (r5 k h).1 (r5 k h).2.1 (r5 k h).2.2.1 (r5 k h).2.2.2) (by rw [h1]) (by rw [h1]) (by rw [h4]) (by rw [h4])
  · exact hT.cg (by rw [hk 0 rfl (by decide) (by decide) (by decide) (by omega)]) (by rw [h4]) (hk 413 rfl (by decide) (by decide) (by decide) (by omega)) (hk 1 rfl (by decide) (by decide) (by decide) (by omega))
  · rw [hk 0 rfl (by decide) (by decide) (by decide) (by omega), h4]; exact hf1
  · rw [hk 0 rfl (by decide) (by decide) (by decide) (by omega), h4]; exact hf2
theorem pb_image {x : Int32} (hI : IC S n m) (hL : Ly S n) : PB G mX11_image 3 [.ref 0, .int x] mX12_image 2 [.ref 412, .int x] S := by
  have hv : Inv S := ⟨n, m, hI, hL⟩
  refine eX11_image (vX11_image_0 ⟨_, sp_cIsBox, fun r3 S2 q => ?_⟩)
  obtain ⟨q1, q2⟩ := q
  subst q2
  refine ⟨fun c => ?_, fun c => eX12_image (vX12_image_0 ⟨_, sp_mIsBox, fun r4 S3 q => ?_⟩)⟩
  · obtain ⟨b, hb, hx⟩ := nn_in q1 c
    subst hx
    have i3 : vp_in (nI b) 3 := vp_in_nI hb (by decide)
    rw [nI_ix (n := b) (by omega), orow_b]
    refine ⟨i3, (box_in b hb).2, _, sp_take (box_in b hb).1 now_in (by omega), fun r9 S8 q => ⟨i3, fun S12 e12 => ?_⟩⟩
    obtain ⟨t1, t2, t3⟩ := q
    have nb : vp_nar .boolean 1 = 1 := by decide
    rw [nb] at e12
    have k12 : ∀ k, k ≠ 363 → k < 388 + 8 * b ∨ 388 + 8 * b + 8 ≤ k → S12.1 k = S2.1 k := fun k h1 h2 => by rw [e12, stI_row h1]; exact t2 k h2
    rw [k12 24 (by decide) (by omega)]
    refine eX12_image (vX12_image_0 ⟨_, sp_mIsBox, fun r4 S3 q => ?_⟩)
    obtain ⟨y1, y2⟩ := q
    subst y2
    refine ⟨fun _ => ⟨i3, fun S7 e7 => ?_⟩, fun w => absurd ⟨b, hb, rfl⟩ (y1.mp w)⟩
    rw [nI_ix (n := b) (by omega), nb] at e7
    have hNo := nH hI
    have s426 : S3.1 426 = S2.1 426 := k12 426 (by decide) (by omega)
    have key : ∀ d i : Nat, ∀ S' : ovS, i + d = 38 → Fr [446] S7 S' → (∀ k, k < i → S'.1 446 (40 * b + k) = S2.1 426 k) → (∀ y, y < 40 * b ∨ 40 * b + 38 ≤ y → S'.1 446 y = S2.1 446 y) → RM G mX12_image 2 (fun r2 S2' => r2 = S2.1 24 9 ∧ Inv S2') 18 [some (.ref 412), some (.int (nI b)), some (.int (nI i))] [] S' := by
      intro d
      induction d with
      | zero =>
        intro i S' hi hF h1 h2
        have : i = 38 := by omega
        subst this
        have k' : ∀ k, k ≠ 363 → k ≠ 445 → k ≠ 446 → k < 388 + 8 * b ∨ 388 + 8 * b + 8 ≤ k → S'.1 k = S2.1 k := fun k n1 n2 n3 n4 => by rw [hF.1 k (by simp [n3]), e7, stI_row n2, k12 k n1 n4]
        refine vX12_image_18 ⟨fun _ => ⟨?_, n, m, hI.box (fun k hk n1 n2 n3 n4 => k' k n1 n2 n3 (by omega)) (k' 412 (by decide) (by decide) (by decide) (by omega)) (k' 376 (by decide) (by decide) (by decide) (by omega)) ?_, ?_⟩, fun c => absurd (by decide) c⟩
        · rw [hF.at 426 rfl, e7, stI_row (by decide), s426]
          exact hI.1.2.2.2.1.2.2.2.2.2.2.2.2.2
        · intro b' hb'
          have e445 : S'.1 445 = upd (S2.1 445) b 1 := by rw [hF.at 445 rfl, e7, stI_self, k12 445 (by decide) (by omega)]
          have e363 : S'.1 363 = upd (S2.1 363) b 1 := by rw [hF.at 363 rfl, e7, stI_row (by decide), e12, stI_self, t2 363 (by omega)]
          rw [e445, e363]
          by_cases e : b' = b
          · subst e
            refine ⟨by simp [upd], Or.inr ⟨fun k hk => ?_, ?_⟩⟩
            · rw [h1 k hk, hNo k hk]
              have : srow S' (388 + 8 * b') = srow S8 (388 + 8 * b') := sr_cg (fun j hj => by rw [hF.1 _ (by simp; omega), e7, stI_row (by omega), e12, stI_row (by omega)])
              rw [this]
              exact stEq_sr t1 k hk
            · exact hI.2.2.2.2.1.cg (fun k hk => by rw [h1 k hk, hNo k hk])
          · simp only [upd, if_neg e]
            obtain ⟨o1, o2⟩ := hI.2.2.2.2.2.2.1 b' hb'
            refine ⟨o1, o2.imp id (fun o3 => ⟨fun k hk => ?_, ?_⟩)⟩
            · have : srow S' (388 + 8 * b') = srow S2 (388 + 8 * b') := sr_cg (fun j hj => k' _ (by omega) (by omega) (by omega) (by omega))
              rw [this, h2 _ (by omega)]
              exact o3.1 k hk
            · exact o3.2.cg (fun k hk => h2 _ (by omega))
        · refine hL.cg ?_ ?_ ?_ ?_
          · rw [k' 369 (by decide) (by decide) (by decide) (by omega)]
          · rw [k' 412 (by decide) (by decide) (by decide) (by omega)]
          · rw [k' 370 (by decide) (by decide) (by decide) (by omega)]
          · rw [k' 431 (by decide) (by decide) (by decide) (by omega)]
      | succ d ih =>
        intro i S' hi hF h1 h2
        refine vX12_image_18 ⟨fun c => absurd ((nI_le_i (a := 38) (by decide) (by omega)).mp c) (by omega), fun _ => ⟨vp_in_nI (by omega) (by decide), ?_⟩⟩
        rw [i40 (by omega), nI_ix (n := 40 * b + i) (by omega), nI_ix (n := i) (by omega)]
        refine ⟨vp_in_nI (by omega) (by decide), fun S4 e4 => ?_⟩
        rw [hF.at 426 rfl, e7, stI_row (by decide), s426] at e4
        subst e4
        have hh := ih (i + 1) (stI S' 446 (40 * b + i) (S2.1 426 i)) (by omega) (hF.st rfl) (fun k hk => ?_) (fun y hy => ?_)
        · rw [nI_succ i] at hh
          exact hh
        · rw [stI_self]
          by_cases e : k = i
          · subst e; simp [upd]
          · simp only [upd, if_neg (show ¬ 40 * b + k = 40 * b + i by omega)]
            exact h1 k (by omega)
        · rw [stI_self]
          simp only [upd, if_neg (show ¬ y = 40 * b + i by omega)]
          exact h2 y hy
    exact key 38 0 S7 (by omega) Fr.rf (fun k hk => absurd hk (by omega)) (fun y _ => by rw [e7, stI_row (by decide), k12 446 (by decide) (by omega)])
  · obtain ⟨y1, y2⟩ := q
    subst y2
    exact ⟨fun w => absurd (nn_in y1 w) (q1.mp c), fun _ => ⟨rfl, hv⟩⟩
theorem pb_back {x : Int32} (hI : IC S n m) (hL : Ly S n) : PB G mX11_back 4 [.ref 0, .int x] mX12_back 2 [.ref 412, .int x] S := by
  have hv : Inv S := ⟨n, m, hI, hL⟩
  have bad : (¬ sIn 3 x ∨ ∃ b, b < 3 ∧ x = nI b ∧ S.1 363 b = 0) → Ex G mX12_back 2 [.ref 412, .int x] S (fun r2 S2 => r2 = -1 ∧ Inv S2) := by
    intro hb
    refine eX12_back (vX12_back_0 ⟨_, sp_mIsBox, fun r3 S2 q => ?_⟩)
    obtain ⟨q1, q2⟩ := q
    subst q2
    refine ⟨fun _ => ⟨rfl, hv⟩, fun c => ?_⟩
    rcases hb with hb | ⟨b, hb, hx, h0⟩
    · exact absurd (nn_in q1 c) hb
    · subst hx
      rw [nI_ix (n := b) (by omega)]
      refine ⟨vp_in_nI hb (by decide), fun z => absurd ?_ z, fun _ => ⟨rfl, hv⟩⟩
      rw [(hI.2.2.2.2.2.2.1 b hb).1]
      exact h0
  refine eX11_back (vX11_back_0 ⟨_, sp_cIsBox, fun r3 S2 q => ?_⟩)
  obtain ⟨q1, q2⟩ := q
  subst q2
  refine ⟨fun c => bad (Or.inl (q1.mp c)), fun c => ?_⟩
  obtain ⟨b, hb, hx⟩ := nn_in q1 c
  subst hx
  have i3 : vp_in (nI b) 3 := vp_in_nI hb (by decide)
  rw [nI_ix (n := b) (by omega), orow_b]
  refine ⟨i3, fun d => ?_, fun d => bad (Or.inr ⟨b, hb, rfl, d⟩)⟩
  obtain ⟨o1, o2⟩ := hI.2.2.2.2.2.2.1 b hb
  obtain ⟨o3, o4⟩ := o2.resolve_left d
  refine ⟨i3, _, sp_take now_in (box_in b hb).1 (by omega), fun r10 S9 q => ⟨_, sp_hbegin, fun r15 S14 p => ?_⟩⟩
  obtain ⟨t1, t2, t3⟩ := q
  obtain ⟨p1, p2, p3, p4, p5⟩ := p
  have k14 : ∀ k, k ≠ 32 → k < 24 ∨ 32 ≤ k → k < 34 ∨ 42 ≤ k → S14.1 k = S2.1 k := fun k h1 h2 h3 => by rw [p2.at (by simp [h1]) h3, t2 k (by omega)]
  have r24 : ∀ j, j < 8 → S14.1 (24 + j) = S9.1 (24 + j) := fun j hj => p2.at (by simp; omega) (by omega)
  have nw : srow S14 24 = srow S9 24 := sr_cg r24
  have bk : ∀ k, k < 38 → srow S9 24 k = S2.1 446 (40 * b + k) := fun k hk => by rw [stEq_sr t1 k hk]; exact o3 k hk
  have hW : WS n (srow S9 24) := o4.cg (fun k hk => bk k hk)
  have e9 : S14.1 24 9 = S2.1 446 (40 * b + 37) := by
    have := bk 37 (by omega)
    rw [← nw] at this
    rw [← this]
    exact (sr_h (o := 24) (i := 9) (by omega) (by omega)).symm
  rw [e9]
  refine eX12_back (vX12_back_0 ⟨_, sp_mIsBox, fun r4 S3 q => ?_⟩)
  obtain ⟨y1, y2⟩ := q
  subst y2
  rw [nI_ix (n := b) (by omega), k14 445 (by decide) (by omega) (by omega), o1]
  refine ⟨fun w => absurd ⟨b, hb, rfl⟩ (y1.mp w), fun _ => ⟨i3, fun _ => ?_, fun z => absurd z d⟩⟩
  have key : ∀ d i : Nat, ∀ S' : ovS, i + d = 38 → Fr [426] S3 S' → (∀ k, k < i → S'.1 426 k = S2.1 446 (40 * b + k)) → RM G mX12_back 2 (fun r2 S2' => r2 = S2.1 446 (40 * b + 37) ∧ Inv S2') 20 [some (.ref 412), some (.int (nI b)), some (.int (nI i))] [] S' := by
    intro d
    induction d with
    | zero =>
      intro i S' hi hF h1
      have : i = 38 := by omega
      subst this
      refine vX12_back_20 ⟨fun _ S4 e4 S5 e5 => ?_, fun c => absurd (by decide) c⟩
      have k5 : ∀ k, k ≠ 412 → k ≠ 426 → S5.1 k = S3.1 k := fun k n1 n2 => by rw [e5, stI_row n1, e4, stI_row n1, hF.1 k (by simp [n2])]
      have f426 : ∀ k, k < 38 → S5.1 426 k = S2.1 446 (40 * b + k) := fun k hk => by rw [e5, stI_row (by decide), e4, stI_row (by decide)]; exact h1 k hk
      have s412 : ∀ j, j ≠ 45 → j ≠ 46 → S5.1 412 j = S2.1 412 j := by
        intro j n1 n2
        rw [e5, stI_1, if_pos rfl, if_neg n2, e4, stI_1, if_pos rfl, if_neg n1, hF.at 412 rfl, k14 412 (by decide) (by omega) (by omega)]
      have nw5 : srow S5 24 = srow S9 24 := by rw [← nw]; exact sr_cg (fun j hj => k5 _ (by omega) (by omega))
      refine ⟨f426 37 (by omega), n, m, hI.hist (fun k g1 g2 g3 => ?_) (fun j _ g2 g3 => s412 j g2 g3) ?_ ?_ (by rw [nw5]; exact hW) (fun k hk => by rw [f426 k hk, nw5, bk k hk]) ?_, ?_⟩
      · have n1 : k ≠ 412 := fun z => by subst z; cases g1
        have n2 : k ≠ 426 := fun z => by subst z; cases g2
        have n4 : k ≠ 32 := fun z => by subst z; cases g2
        rw [k5 k n1 n2]
        refine k14 k n4 ?_ (by omega)
        rcases Nat.lt_or_ge k 24 with z | z
        · exact Or.inl z
        · rcases Nat.lt_or_ge k 32 with y | y
          · have : k = 24 ∨ k = 25 ∨ k = 26 ∨ k = 27 ∨ k = 28 ∨ k = 29 ∨ k = 30 ∨ k = 31 := by omega
            rcases this with rfl | rfl | rfl | rfl | rfl | rfl | rfl | rfl <;> cases g2
          · exact Or.inr y
      · rw [k5 376 (by decide) (by decide), k14 376 (by decide) (by omega) (by omega)]
      · rw [k5 376 (by decide) (by decide), k14 376 (by decide) (by omega) (by omega)]
      · have e32 : S5.1 32 = S3.1 32 := k5 32 (by decide) (by decide)
        refine ⟨0, 0, 0, by omega, by omega, by rw [e32]; exact p3, by rw [e32]; exact p4, by rw [e32]; exact p5, ?_, ?_, fun k hk => ?_, fun j hj => absurd hj (by omega), fun j hj => absurd hj (by omega), fun j hj => absurd hj (by omega)⟩
        · rw [e5, stI_1, if_pos rfl, if_neg (by decide), e4, stI_1]; rfl
        · rw [e5, stI_1]; rfl
        · have : srow S5 (34 + 8 * 0) = srow S3 (34 + 8 * 0) := sr_cg (fun j hj => k5 _ (by omega) (by omega))
          rw [this, nw5]
          exact stEq_sr p1 k hk
      · refine hL.cg ?_ (s412 48 (by decide) (by decide)) ?_ ?_
        · rw [k5 369 (by decide) (by decide), k14 369 (by decide) (by omega) (by omega)]
        · rw [k5 370 (by decide) (by decide), k14 370 (by decide) (by omega) (by omega)]
        · rw [k5 431 (by decide) (by decide), k14 431 (by decide) (by omega) (by omega)]
    | succ d ih =>
      intro i S' hi hF h1
      refine vX12_back_20 ⟨fun c => absurd ((nI_le_i (a := 38) (by decide) (by omega)).mp c) (by omega), fun _ => ?_⟩
      rw [i40 (by omega), nI_ix (n := 40 * b + i) (by omega), nI_ix (n := i) (by omega)]
      refine ⟨vp_in_nI (by omega) (by decide), vp_in_nI (by omega) (by decide), fun S4 e4 => ?_⟩
      rw [hF.at 446 rfl, k14 446 (by decide) (by omega) (by omega)] at e4
      subst e4
      have hh := ih (i + 1) (stI S' 426 i (S2.1 446 (40 * b + i))) (by omega) (hF.st rfl) (fun k hk => ?_)
      · rw [nI_succ i] at hh
        exact hh
      · rw [stI_self]
        by_cases e : k = i
        · subst e; simp [upd]
        · simp only [upd, if_neg e]
          exact h1 k (by omega)
  exact key 38 0 S3 (by omega) Fr.rf (fun k hk => absurd hk (by omega))
end
