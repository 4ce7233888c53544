/-! ===== does, says, feud ===== -/
section
variable {G : ovG} {S : ovS} {n m : Nat}
def actQ (u : Nat) (S S1 : ovS) : Prop := FJ [430] [45, 46] S S1 ∧ S1.1 412 45 = nI (if u < 40 then u + 1 else 40) ∧ S1.1 412 46 = 0 ∧ (u < 40 → (∀ j, j < u → ∀ k, k < 38 → S1.1 430 (40 * j + k) = S.1 430 (40 * j + k)) ∧ ∀ k, k < 38 → S1.1 430 (40 * u + k) = S.1 426 k) ∧ (u = 40 → (∀ j, j < 39 → ∀ k, k < 38 → S1.1 430 (40 * j + k) = S.1 430 (40 * (j + 1) + k)) ∧ ∀ k, k < 38 → S1.1 430 (40 * 39 + k) = S.1 426 k)
theorem nH (hI : IC S n m) : ∀ k, k < 38 → S.1 426 k = srow S 24 k := NW_iff.mp hI.1.2.2.2.1
abbrev E7 : List Nat := [420, 421, 426, 427, 428, 429]
theorem IC.actd {S13 S15 S16 S17 : ovS} {a u r : Nat} (hI : IC S n m) (hL : Ly S n) (hH : HRa S n a u r) (e13 : ∀ k, k < 24 ∨ 32 ≤ k → SCr.contains k = false → S13.1 k = S.1 k) (h376 : S13.1 376 = S.1 376) (h412 : S13.1 412 = S.1 412) (hly : S13.1 369 4 = S.1 369 4 ∧ S13.1 370 = S.1 370 ∧ S13.1 431 = S.1 431) (q1 : stEq S15 (34 + 8 * ((a + 1) % 41)) S13 24) (q2 : FrS [32] (34 + 8 * ((a + 1) % 41)) S13 S15) (q3 : S15.1 32 2 = nI ((a + 1) % 41)) (q4 : S15.1 32 0 = nI (if u < 40 then u + 1 else 40)) (q5 : S15.1 32 1 = 0) (hp : actQ u S15 S16) (hF : FJ E7 [] S16 S17) (hN : ∀ k, k < 38 → S17.1 426 k = srow S13 24 k) (hW : WS n (srow S13 24)) : Inv S17 := by
  obtain ⟨p1, p2, p3, p4, p5⟩ := hp
  have ha : (a + 1) % 41 < 41 := Nat.mod_lt _ (by decide)
  obtain ⟨b, hb⟩ : ∃ b, b = (a + 1) % 41 := ⟨_, rfl⟩
  -- from the keeping on
  have k15 : ∀ k, k ≠ 32 → k < 34 + 8 * b ∨ 34 + 8 * b + 8 ≤ k → S15.1 k = S13.1 k := by
    intro k h1 h2
    rw [hb] at h2
    refine q2.1 k ?_ h2
    simp [h1]
  have k17 : ∀ k, k ≠ 412 → k ≠ 430 → E7.contains k = false → S17.1 k = S15.1 k := by
    intro k h1 h2 h3
    rw [hF.1 k h3 h1, p1.1 k (by simp [h2]) h1]
  have r1 : ∀ a, a < 41 → ∀ j, j < 8 → E7.contains (34 + 8 * a + j) = false := by decide +kernel
  have r0 : ∀ j, j < 8 → E7.contains (24 + j) = false := by decide +kernel
  have r3 : ∀ k, k ∈ E7 → SCr.contains k = true ∨ k = 426 := by decide +kernel
  have now : srow S17 24 = srow S13 24 := sr_cg (fun j hj => by rw [k17 _ (by omega) (by omega) (r0 j hj), k15 _ (by omega) (by omega)])
  have rg : ∀ c, c < 41 → srow S17 (34 + 8 * c) = srow S15 (34 + 8 * c) := fun c hc => sr_cg (fun j hj => k17 _ (by omega) (by omega) (r1 c hc j hj))
  have s412 : ∀ j, j ≠ 45 → j ≠ 46 → S17.1 412 j = S.1 412 j := by
    intro j h1 h2
    rw [hF.2.1 j rfl, p1.2.1 j (by simp [h1, h2]), k15 412 (by decide) (by omega), h412]
  have s426 : S15.1 426 = S.1 426 := by rw [k15 426 (by decide) (by omega), e13 426 (by omega) rfl]
  have s430 : S15.1 430 = S.1 430 := by rw [k15 430 (by decide) (by omega), e13 430 (by omega) rfl]
  have t430 : S17.1 430 = S16.1 430 := hF.1 430 rfl (by decide)
  have s376 : S17.1 376 = S.1 376 := by rw [k17 376 (by decide) (by decide) rfl, k15 376 (by decide) (by omega), h376]
  refine ⟨n, m, hI.hist (fun k h1 h2 h3 => ?_) (fun j _ h2 h3 => s412 j h2 h3) (by rw [s376]) (by rw [s376]) (by rw [now]; exact hW) (fun k hk => by rw [hN k hk, now]) ?_, ?_⟩
  · have n1 : k ≠ 412 := fun z => by subst z; cases h1
    have n2 : k ≠ 430 := fun z => by subst z; cases h2
    have n3 : k ≠ 32 := fun z => by subst z; cases h2
    have n4 : E7.contains k = false := by
      cases hc : E7.contains k with
      | false => rfl
      | true =>
        rcases r3 k (by simpa using hc) with z | z
        · rw [h1] at z; cases z
        · subst z; cases h2
    rw [k17 k n1 n2 n4, k15 k n3 (by omega)]
    refine e13 k ?_ h1
    rcases Nat.lt_or_ge k 24 with z | z
    · exact Or.inl z
    · rcases Nat.lt_or_ge k 32 with y | y
      · have : k = 24 ∨ k = 25 ∨ k = 26 ∨ k = 27 ∨ k = 28 ∨ k = 29 ∨ k = 30 ∨ k = 31 := by omega
        rcases this with rfl | rfl | rfl | rfl | rfl | rfl | rfl | rfl <;> cases h2
      · exact Or.inr y
  · refine HR.act hH (nH hI) hI.2.2.2.2.1 (fun k hk => ?_) (fun c hc hne => ?_) ?_ ?_ ?_ ?_ ?_ (fun hu => ?_) (fun hu => ?_)
    · rw [rg _ ha, now]
      exact stEq_sr q1 k hk
    · rw [rg c hc]
      refine sr_cg (fun j hj => ?_)
      rw [k15 _ (by omega) (by omega)]
      exact e13 _ (by omega) (ring_nsc c hc j hj)
    · rw [k17 32 (by decide) (by decide) rfl]; exact q3
    · rw [k17 32 (by decide) (by decide) rfl]; exact q4
    · rw [k17 32 (by decide) (by decide) rfl]; exact q5
    · rw [hF.2.1 45 rfl]; exact p2
    · rw [hF.2.1 46 rfl]; exact p3
    · have := p4 hu
      rw [t430]
      rw [s430, s426] at this
      exact this
    · have := p5 hu
      rw [t430]
      rw [s430, s426] at this
      exact this
  · refine hL.cg ?_ (s412 48 (by decide) (by decide)) ?_ ?_
    · rw [k17 369 (by decide) (by decide) rfl, k15 369 (by decide) (by omega), hly.1]
    · rw [k17 370 (by decide) (by decide) rfl, k15 370 (by decide) (by omega), hly.2.1]
    · rw [k17 431 (by decide) (by decide) rfl, k15 431 (by decide) (by omega), hly.2.2]
theorem FrS.at {L : List Nat} {o k : Nat} {S1 : ovS} (h : FrS L o S S1) (hk : L.contains k = false) (h2 : k < o ∨ o + 8 ≤ k) : S1.1 k = S.1 k := h.1 k hk h2
theorem pb_does {x y : Int32} (hI : IC S n m) (hL : Ly S n) : PB G mX11_does 4 [.ref 0, .int x, .int y] mX12_does 3 [.ref 412, .int x, .int y] S := by
  have hn := hI.n5
  have hm := hI.m5
  obtain ⟨a, u, r, hH⟩ := hI.2.2.2.2.2.1
  obtain ⟨g1, g2, g3, g4, g5, g6, g7, _⟩ := id hH
  have hb : (a + 1) % 41 < 41 := Nat.mod_lt _ (by decide)
  have bad : (¬ sIn n x ∨ ¬ sIn m y) → Ex G mX12_does 3 [.ref 412, .int x, .int y] S (fun r2 S2 => r2 = -1 ∧ Inv S2) := by
    intro hb
    have hv : Inv S := ⟨n, m, hI, hL⟩
    refine eX12_does (vX12_does_0 ⟨_, sp_mIsSoul hI.1.2.1 hn, fun r3 S2 q => ?_⟩)
    obtain ⟨q1, q2⟩ := q
    subst q2
    refine ⟨fun _ => ⟨rfl, hv⟩, fun c => ⟨_, sp_mIsDeed hI.2.2.1 hm, fun r9 S8 q => ?_⟩⟩
    obtain ⟨p1, p2⟩ := q
    subst p2
    exact ⟨fun d => absurd hb (fun z => z.elim (fun z => z (nn_in q1 c)) (fun z => z (nn_in p1 d))), fun _ => ⟨rfl, hv⟩⟩
  refine eX11_does (vX11_does_0 ⟨_, sp_cIsSoul hI.cx.1 hn, fun r3 S2 q => ?_⟩)
  obtain ⟨q1, q2⟩ := q
  subst q2
  refine ⟨fun c => bad (Or.inl (q1.mp c)), fun c => ⟨_, sp_cIsDeed hI.2.1.1 hm, fun r9 S8 q => ?_⟩⟩
  obtain ⟨p1, p2⟩ := q
  subst p2
  refine ⟨fun d => ?_, fun d => bad (Or.inr (p1.mp d))⟩
  obtain ⟨s, hs, hx⟩ := nn_in q1 c
  obtain ⟨e, he, hy⟩ := nn_in p1 d
  subst hx hy
  have i5 : vp_in (nI s) 5 := vp_in_nI (by omega) (by decide)
  have i40 : vp_in (nI s) 40 := vp_in_nI (by omega) (by decide)
  rw [nI_ix (n := s) (by omega)]
  refine ⟨i5, i5, fun S13 e13 => ?_⟩
  have k13 : ∀ k, k ≠ 25 → S13.1 k = S8.1 k := fun k hk => by rw [e13, stI_row hk]
  refine ⟨_, sp_keep (by rw [k13 32 (by decide)]; exact g3) g1 (by rw [k13 32 (by decide)]; exact g4) (by omega), fun r16 S15 q => ⟨i5, ?_⟩⟩
  obtain ⟨z1, z2, z3, z4, z5⟩ := q
  have k15 : ∀ k, k ≠ 32 → k < 34 ∨ 362 ≤ k → S15.1 k = S13.1 k := fun k h1 h2 => z2.at (by simp [h1]) (by omega)
  have e25 : S15.1 25 s = S8.1 25 s ^^^ (1 <<< (nI e &&& 31)) := by rw [k15 25 (by decide) (by omega), e13, stI_self]; simp [upd]
  rw [e25]
  refine eX12_does (vX12_does_0 ⟨_, sp_mIsSoul (by rw [k15 412 (by decide) (by omega), k13 412 (by decide)]; exact hI.1.2.1) hn, fun r3 S2 q => ?_⟩)
  obtain ⟨y1, y2⟩ := q
  subst y2
  refine ⟨fun w => absurd ⟨s, hs, rfl⟩ (y1.mp w), fun _ => ⟨_, sp_mIsDeed (by rw [k15 412 (by decide) (by omega), k13 412 (by decide)]; exact hI.2.2.1) hm, fun r9 S9 q => ?_⟩⟩
  obtain ⟨x1, x2⟩ := q
  subst x2
  refine ⟨fun _ => ⟨_, sp_act (u := u) (by rw [k15 412 (by decide) (by omega), k13 412 (by decide)]; exact g6) (by omega), fun r15 S14 q => ⟨i40, i40, fun S18 e18 => ⟨i40, ?_⟩⟩⟩, fun w => absurd ⟨e, he, rfl⟩ (x1.mp w)⟩
  rw [nI_ix (n := s) (by omega)] at e18 ⊢
  have e426 : S14.1 426 = S8.1 426 := by rw [q.1.1 426 rfl (by decide), k15 426 (by decide) (by omega), k13 426 (by decide)]
  have eN : S8.1 426 s = S8.1 25 s := hI.1.2.2.2.1.1 s (by omega)
  rw [e426, eN] at e18
  refine ⟨by rw [e18, stI_self]; simp [upd], ?_⟩
  refine IC.actd hI hL hH (fun k h _ => k13 k (by omega)) (k13 376 (by decide)) (k13 412 (by decide)) ⟨by rw [k13 369 (by decide)], k13 370 (by decide), k13 431 (by decide)⟩ z1 z2 z3 z4 z5 q (by rw [e18]; exact FJ.rf.st rfl rfl) ?_ ?_
  · have hNo := nH hI
    refine k38 (fun i hi => ?_) (fun i hi => ?_) (fun i hi => ?_) (fun i hi => ?_) (fun i hi => ?_) (fun i hi => ?_) (fun i hi => ?_) (fun i h1 h2 => ?_)
    · rw [sr_a hi, e18, stI_self, e13, stI_self, e426]
      simp only [upd]
      split
      · rfl
      · rw [hNo i (by omega), sr_a hi]
    · rw [sr_b hi, e18, stI_self, k13 26 (by decide)]
      simp only [upd, if_neg (show ¬ 5 + i = s by omega)]
      rw [e426, hNo _ (by omega), sr_b hi]
    · rw [sr_c hi, e18, stI_self, k13 29 (by decide)]
      simp only [upd, if_neg (show ¬ 10 + i = s by omega)]
      rw [e426, hNo _ (by omega), sr_c hi]
    · rw [sr_d hi, e18, stI_self, k13 27 (by decide)]
      simp only [upd, if_neg (show ¬ 15 + i = s by omega)]
      rw [e426, hNo _ (by omega), sr_d hi]
    · rw [sr_e hi, e18, stI_self, k13 28 (by decide)]
      simp only [upd, if_neg (show ¬ 20 + i = s by omega)]
      rw [e426, hNo _ (by omega), sr_e hi]
    · rw [sr_f hi, e18, stI_self, k13 30 (by decide)]
      simp only [upd, if_neg (show ¬ 25 + i = s by omega)]
      rw [e426, hNo _ (by omega), sr_f hi]
    · rw [sr_g hi, e18, stI_self, k13 31 (by decide)]
      simp only [upd, if_neg (show ¬ 30 + i = s by omega)]
      rw [e426, hNo _ (by omega), sr_g hi]
    · rw [sr_h h1 h2, e18, stI_self, k13 24 (by decide)]
      simp only [upd, if_neg (show ¬ 28 + i = s by omega)]
      rw [e426, hNo _ (by omega), sr_h h1 h2]
  · obtain ⟨w1, w2, w3, w4, w5⟩ := hI.2.2.2.2.1
    refine ⟨w1.cg (fun i hi => ?_), w2.cg (fun i hi => ?_), fun i hi => ?_, ?_, fun i hn hi => ?_⟩
    · rw [sr_b hi, sr_b hi, k13 26 (by decide)]
    · rw [sr_c hi, sr_c hi, k13 29 (by decide)]
    · have := w3 i hi
      rw [sr_d hi] at this ⊢
      rw [k13 27 (by decide)]
      exact this
    · have e9 : srow S13 24 37 = srow S8 24 37 := by
        rw [show (37 : Nat) = 28 + 9 by decide, sr_h (by omega) (by omega), sr_h (by omega) (by omega), k13 24 (by decide)]
      rw [e9]
      exact w4
    · have := w5 i hn hi
      rw [sr_a hi] at this ⊢
      rw [e13, stI_self]
      simp only [upd, if_neg (show ¬ i = s by omega)]
      exact this
theorem pb_says {x y : Int32} (hI : IC S n m) (hL : Ly S n) : PB G mX11_says 4 [.ref 0, .int x, .int y] mX12_says 3 [.ref 412, .int x, .int y] S := by
  have hn := hI.n5
  obtain ⟨a, u, r, hH⟩ := hI.2.2.2.2.2.1
  obtain ⟨g1, g2, g3, g4, g5, g6, g7, _⟩ := id hH
  have hv : Inv S := ⟨n, m, hI, hL⟩
  have bad : (¬ sIn n x ∨ (¬ y = -1 ∧ ¬ sIn n y)) → Ex G mX12_says 3 [.ref 412, .int x, .int y] S (fun r2 S2 => r2 = -1 ∧ Inv S2) := by
    intro hb
    refine eX12_says (vX12_says_0 ⟨_, sp_mIsSoul hI.1.2.1 hn, fun r3 S2 q => ?_⟩)
    obtain ⟨q1, q2⟩ := q
    subst q2
    refine ⟨fun _ => ⟨rfl, hv⟩, fun c => ⟨fun d => absurd hb (fun z => z.elim (fun z => z (nn_in q1 c)) (fun z => z.1 d)), fun d => ⟨_, sp_mIsSoul hI.1.2.1 hn, fun r9 S8 q => ?_⟩⟩⟩
    obtain ⟨p1, p2⟩ := q
    subst p2
    exact ⟨fun e => absurd hb (fun z => z.elim (fun z => z (nn_in q1 c)) (fun z => z.2 (nn_in p1 e))), fun _ => ⟨rfl, hv⟩⟩
  -- what both do when the call is good
  have good : ∀ s, s < n → x = nI s → isNm n y → ∀ S13, S13 = stI S 26 s y → ∀ S15, (stEq S15 (34 + 8 * ((a + 1) % 41)) S13 24 ∧ FrS [32] (34 + 8 * ((a + 1) % 41)) S13 S15 ∧ S15.1 32 2 = nI ((a + 1) % 41) ∧ S15.1 32 0 = nI (if u < 40 then u + 1 else 40) ∧ S15.1 32 1 = 0) → S15.1 26 = upd (S.1 26) s y ∧ (∀ rr : Int32, (y = -1 → rr = 0) → (∀ w, w < n → y = nI w → rr = nI (fb_ct (fun i => decide (upd (S.1 26) s y i = nI w)) n)) → Ex G mX12_says 3 [.ref 412, .int x, .int y] S15 (fun r2 S2 => r2 = rr ∧ Inv S2)) := by
    intro s hs hx hy S13 e13 S15 q
    obtain ⟨z1, z2, z3, z4, z5⟩ := q
    have k13 : ∀ k, k ≠ 26 → S13.1 k = S.1 k := fun k hk => by rw [e13, stI_row hk]
    have k15 : ∀ k, k ≠ 32 → k < 34 ∨ 362 ≤ k → S15.1 k = S13.1 k := fun k h1 h2 => z2.at (by simp [h1]) (by have : (a + 1) % 41 < 41 := Nat.mod_lt _ (by decide); omega)
    have hVN : VN n (upd (S.1 26) s y) := hI.vn.up hs hy
    refine ⟨by rw [k15 26 (by decide) (by omega), e13, stI_self], fun rr hr1 hr2 => ?_⟩
    subst hx
    have i45 : vp_in ((5 : Int32) + nI s) 40 := in_add (a := 5) (by omega) (by decide)
    have x5 : ((5 : Int32) + nI s).toNatClampNeg = 5 + s := ix_add (a := 5) (by omega)
    have s35 : S15.1 412 35 = nI n := by rw [k15 412 (by decide) (by omega), k13 412 (by decide)]; exact hI.1.2.1
    have s45 : S15.1 412 45 = nI u := by rw [k15 412 (by decide) (by omega), k13 412 (by decide)]; exact g6
    -- behind the ACT
    have tail : ∀ S9, actQ u S15 S9 → ∀ S36, S36 = stI S9 426 (5 + s) y → (IC S36 n m ∧ Ly S36 n) := by
      intro S9 q S36 e36
      have e426 : S9.1 426 = S.1 426 := by rw [q.1.1 426 rfl (by decide), k15 426 (by decide) (by omega), k13 426 (by decide)]
      have hV : Inv S36 ∧ S36.1 412 35 = nI n ∧ S36.1 412 34 = nI m := by
        refine ⟨IC.actd hI hL hH (fun k h _ => k13 k (by omega)) (k13 376 (by decide)) (k13 412 (by decide)) ⟨by rw [k13 369 (by decide)], k13 370 (by decide), k13 431 (by decide)⟩ z1 z2 z3 z4 z5 q (by rw [e36]; exact FJ.rf.st rfl rfl) ?_ ?_, ?_, ?_⟩
        · have hNo := nH hI
          refine k38 (fun i hi => ?_) (fun i hi => ?_) (fun i hi => ?_) (fun i hi => ?_) (fun i hi => ?_) (fun i hi => ?_) (fun i hi => ?_) (fun i h1 h2 => ?_)
          · rw [sr_a hi, e36, stI_self, k13 25 (by decide)]
            simp only [upd, if_neg (show ¬ i = 5 + s by omega)]
            rw [e426, hNo _ (by omega), sr_a hi]
          · rw [sr_b hi, e36, stI_self, e13, stI_self, e426]
            simp only [upd]
            by_cases e : i = s
            · subst e
              simp
            · rw [if_neg e, if_neg (by omega), hNo _ (by omega), sr_b hi]
          · rw [sr_c hi, e36, stI_self, k13 29 (by decide)]
            simp only [upd, if_neg (show ¬ 10 + i = 5 + s by omega)]
            rw [e426, hNo _ (by omega), sr_c hi]
          · rw [sr_d hi, e36, stI_self, k13 27 (by decide)]
            simp only [upd, if_neg (show ¬ 15 + i = 5 + s by omega)]
            rw [e426, hNo _ (by omega), sr_d hi]
          · rw [sr_e hi, e36, stI_self, k13 28 (by decide)]
            simp only [upd, if_neg (show ¬ 20 + i = 5 + s by omega)]
            rw [e426, hNo _ (by omega), sr_e hi]
          · rw [sr_f hi, e36, stI_self, k13 30 (by decide)]
            simp only [upd, if_neg (show ¬ 25 + i = 5 + s by omega)]
            rw [e426, hNo _ (by omega), sr_f hi]
          · rw [sr_g hi, e36, stI_self, k13 31 (by decide)]
            simp only [upd, if_neg (show ¬ 30 + i = 5 + s by omega)]
            rw [e426, hNo _ (by omega), sr_g hi]
          · rw [sr_h h1 h2, e36, stI_self, k13 24 (by decide)]
            simp only [upd, if_neg (show ¬ 28 + i = 5 + s by omega)]
            rw [e426, hNo _ (by omega), sr_h h1 h2]
        · obtain ⟨w1, w2, w3, w4, w5⟩ := hI.2.2.2.2.1
          refine ⟨hVN.cg (fun i hi => ?_), w2.cg (fun i hi => ?_), fun i hi => ?_, ?_, fun i hn hi => ?_⟩
          · rw [sr_b hi, e13, stI_self]
          · rw [sr_c hi, sr_c hi, k13 29 (by decide)]
          · have := w3 i hi
            rw [sr_d hi] at this ⊢
            rw [k13 27 (by decide)]
            exact this
          · have e9 : srow S13 24 37 = srow S 24 37 := by
              rw [show (37 : Nat) = 28 + 9 by decide, sr_h (by omega) (by omega), sr_h (by omega) (by omega), k13 24 (by decide)]
            rw [e9]
            exact w4
          · have := w5 i hn hi
            rw [sr_a hi] at this ⊢
            rw [k13 25 (by decide)]
            exact this
        · rw [e36, stI_row (by decide), q.1.2.1 35 rfl]; exact s35
        · rw [e36, stI_row (by decide), q.1.2.1 34 rfl, k15 412 (by decide) (by omega), k13 412 (by decide)]; exact hI.2.2.1
      obtain ⟨⟨n', m', hI', hL'⟩, h35, h34⟩ := hV
      have en : n' = n := by
        have h1 := hI'.n5
        have h2 := hI'.1.2.1
        rw [h35] at h2
        exact ((nI_eq_i (by omega) (by omega)).mp h2).symm
      have em : m' = m := by
        have h1 := hI'.m5
        have h1' := hI.m5
        have h2 := hI'.2.2.1
        rw [h34] at h2
        exact ((nI_eq_i (by omega) (by omega)).mp h2).symm
      subst en em
      exact ⟨hI', hL'⟩
    have e26 : ∀ S9, actQ u S15 S9 → ∀ S36, S36 = stI S9 426 (5 + s) y → S36.1 26 = upd (S.1 26) s y := by
      intro S9 q S36 e36
      rw [e36, stI_row (by decide), q.1.1 26 rfl (by decide), k15 26 (by decide) (by omega), e13, stI_self]
    refine eX12_says (vX12_says_0 ⟨_, sp_mIsSoul s35 hn, fun r3 S2 q => ?_⟩)
    obtain ⟨y1, y2⟩ := q
    subst y2
    refine ⟨fun w => absurd ⟨s, hs, rfl⟩ (y1.mp w), fun _ => ⟨fun d => ⟨_, sp_act (u := u) s45 (by omega), fun r10 S9 q => ⟨i45, fun S36 e36 => ?_⟩⟩, fun d => ?_⟩⟩
    · rw [x5] at e36
      obtain ⟨hI3, hL3⟩ := tail S9 q S36 e36
      refine ⟨_, sp_mLoad' hI3.1, fun r16 S15' q => ⟨fun w => absurd d w, fun _ => ⟨(hr1 d).symm, Inv.kl hI3 hL3 (KL.fr q.2 rfl rfl rfl)⟩⟩⟩
    · have hyin : sIn n y := hy.resolve_left d
      refine ⟨_, sp_mIsSoul s35 hn, fun r27 S26 q => ?_⟩
      obtain ⟨x1, x2⟩ := q
      subst x2
      refine ⟨fun _ => ⟨_, sp_act (u := u) s45 (by omega), fun r10 S9 q => ⟨i45, fun S36 e36 => ?_⟩⟩, fun w => absurd hyin (x1.mp w)⟩
      rw [x5] at e36
      obtain ⟨hI3, hL3⟩ := tail S9 q S36 e36
      have e26' := e26 S9 q S36 e36
      obtain ⟨w, hw, ew⟩ := hyin
      refine ⟨_, sp_mLoad' hI3.1, fun r16 S38 q => ⟨fun _ => ?_, fun z => absurd z d⟩⟩
      have hI4 := hI3.1.fm (FM.of q.2 rfl)
      rw [e26'] at q
      subst ew
      refine ⟨_, sp_namers hI4 hVN q.1, fun r22 S44 p => ?_⟩
      obtain ⟨p1, p2⟩ := p
      subst p2
      refine ⟨by rw [p1, hr2 w hw rfl], Inv.kl hI3 hL3 (KL.fr q.2 rfl rfl rfl)⟩
  refine eX11_says (vX11_says_0 ⟨_, sp_cIsSoul hI.cx.1 hn, fun r3 S2 q => ?_⟩)
  obtain ⟨q1, q2⟩ := q
  subst q2
  refine ⟨fun c => bad (Or.inl (q1.mp c)), fun c => ?_⟩
  obtain ⟨s, hs, hx⟩ := nn_in q1 c
  have i5 : vp_in x 5 := by rw [hx]; exact vp_in_nI (by omega) (by decide)
  have ix : x.toNatClampNeg = s := by rw [hx]; exact nI_ix (by omega)
  rw [ix]
  have kp : ∀ S13, S13 = stI S2 26 s y → Ex G mX3_keep 3 [.ref 32, .ref 24] S13 _ := fun S13 e13 => sp_keep (a := a) (u := u) (by rw [e13, stI_row (by decide)]; exact g3) g1 (by rw [e13, stI_row (by decide)]; exact g4) (by omega)
  refine ⟨fun d => ⟨i5, fun S13 e13 => ⟨_, kp S13 e13, fun r11 S10 q => ⟨fun z => absurd d z, fun _ => ?_⟩⟩⟩, fun d => ⟨_, sp_cIsSoul hI.cx.1 hn, fun r27 S26 q => ?_⟩⟩
  · exact (good s hs hx (Or.inl d) S13 e13 S10 q).2 0 (fun _ => rfl) (fun w hw e => absurd (d.symm.trans e) (fun z => nI_m1 (by omega) z.symm))
  · obtain ⟨p1, p2⟩ := q
    subst p2
    refine ⟨fun e => ⟨i5, fun S13 e13 => ⟨_, kp S13 e13, fun r11 S10 q => ⟨fun _ => ⟨_, sp_sayersOf, fun r17 S16 q16 => ?_⟩, fun z => absurd z d⟩⟩⟩, fun e => bad (Or.inr ⟨d, p1.mp e⟩)⟩
    obtain ⟨w, hw, ew⟩ := nn_in p1 e
    obtain ⟨t1, t2⟩ := q16
    subst t2
    refine ⟨_, sp_bitCount, fun r22 S21 q21 => ?_⟩
    obtain ⟨t3, t4⟩ := q21
    subst t4
    have hVN : VN n (upd (S26.1 26) s y) := hI.vn.up hs (Or.inr ⟨w, hw, ew⟩)
    obtain ⟨gd1, gd2⟩ := good s hs hx (Or.inr ⟨w, hw, ew⟩) S13 e13 S21 q
    refine gd2 r22 (fun z => absurd z d) (fun w' hw' e' => ?_)
    rw [t3, t1, gd1, bc5 _ (mk_lt _ 5), ← gCt_n hn (by omega) hVN, gCt]
    congr 1
    refine fb_ct_cong (fun i hi => ?_)
    rw [mk_bit, decide_eq_true hi, Bool.true_and, e']
end
