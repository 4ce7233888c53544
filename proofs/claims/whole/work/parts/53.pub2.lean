/-! ===== calls that lay something there; reports ===== -/
section
variable {G : ovG} {S : ovS} {n m : Nat}
theorem Ly.mk {Sa Sb S1 S2 : ovS} {o : Option Nat} (hn : n ≤ 5) (h1 : LyO Sa S1 n o) (h2 : LyM Sb S2 n o) (e1 : S2.1 369 = S1.1 369) (e2 : S2.1 370 = S1.1 370) (hB : ∃ c, c ≤ n ∧ Sa.1 369 4 = nI c ∧ Sb.1 412 48 = nI c ∧ ∀ i, i < c → Sa.1 370 i = Sb.1 431 i) : Ly S2 n := by
  unfold Ly
  rw [e1, e2]
  cases o with
  | none =>
    obtain ⟨c, hc, b1, b2, b3⟩ := hB
    refine ⟨c, hc, by rw [h1.2.1]; exact b1, by rw [h2.1]; exact b2, fun i hi => ?_⟩
    rw [h1.2.2 i (by omega), h2.2]
    exact b3 i hi
  | some v => exact ⟨n, Nat.le_refl _, h1.2.1, h2.1, fun i hi => by rw [h1.2.2 i (by omega), h2.2 i hi]⟩
theorem pb_richest (hI : IC S n m) (hL : Ly S n) : PB G mX11_richest 8 [.ref 0] mX12_richest 7 [.ref 412] S := by
  refine eX11_richest (vX11_richest_0 ⟨_, sp_richest hI.cx hI.vn, fun r S1 q => ?_⟩)
  obtain ⟨q1, q2, q3⟩ := q
  have hK : KP S S1 := KP.fr q3 rfl rfl
  have hI1 := hI.kp hK
  have e : stRi S1 = stRi S := by
    funext a b c
    unfold stRi
    rw [gG_kl hK]
  refine Ex.imp (sp_mRichest hI1.1) (fun r2 S2 p => ?_)
  obtain ⟨p1, p2, p3⟩ := p
  rw [e] at p1 p2
  refine ⟨by rw [p1, q1], n, m, hI1.kp (KP.fm p3), ?_⟩
  refine Ly.mk hI.n5 q2 p2 (p3.at 369 rfl) (p3.at 370 rfl) ?_
  obtain ⟨c, hc, b1, b2, b3⟩ := hL
  exact ⟨c, hc, b1, by rw [q3.at 412 rfl]; exact b2, fun i hi => by rw [q3.at 431 rfl]; exact b3 i hi⟩
theorem pb_steady (hI : IC S n m) (hL : Ly S n) : PB G mX11_steady 8 [.ref 0] mX12_steady 9 [.ref 412] S := by
  refine eX11_steady (vX11_steady_0 ⟨_, sp_steady hI.cx hI.vn, fun r S1 q => ?_⟩)
  obtain ⟨q1, q2, q3⟩ := q
  have hK : KP S S1 := KP.fr q3 rfl rfl
  have hI1 := hI.kp hK
  have e : stSt S1 = stSt S := by
    funext a b c
    unfold stSt
    rw [lvF_kl hK]
  refine Ex.imp (sp_mSteady hI1.1) (fun r2 S2 p => ?_)
  obtain ⟨p1, p2, p3⟩ := p
  rw [e] at p1 p2
  refine ⟨by rw [p1, q1], n, m, hI1.kp (KP.fm p3), ?_⟩
  refine Ly.mk hI.n5 q2 p2 (p3.at 369 rfl) (p3.at 370 rfl) ?_
  exact ⟨0, by omega, by rw [stI_1]; rfl, by rw [stI_1]; rfl, fun i hi => absurd hi (by omega)⟩
theorem pb_feeds {x : Int32} (hI : IC S n m) (hL : Ly S n) : PB G mX11_feeds 8 [.ref 0, .int x] mX12_feeds 7 [.ref 412, .int x] S := by
  refine eX11_feeds (vX11_feeds_0 ⟨_, sp_feeds hI.cx hI.vn, fun r S1 q => ?_⟩)
  by_cases c : x < 0 ∨ ¬ x < nI (2 ^ n)
  · rw [if_pos c] at q
    obtain ⟨q1, q2⟩ := q
    have hK : KP S S1 := KP.fr (L := [369]) (by rw [q2]; exact Fr.rf.st rfl) rfl rfl
    have hI1 := hI.kp hK
    refine Ex.imp (sp_mFeeds hI1.1) (fun r2 S2 p => ?_)
    rw [if_pos c] at p
    obtain ⟨p1, p2⟩ := p
    refine ⟨by rw [p1, q1], n, m, hI1.kp (KP.fm (by rw [p2]; exact fmL0)), 0, by omega, ?_, ?_, fun i hi => absurd hi (by omega)⟩
    · rw [p2, stI_row (by decide), q2, stI_1]; rfl
    · rw [p2, stI_1]; rfl
  · rw [if_neg c] at q
    obtain ⟨q1, q2, q3⟩ := q
    have hK : KP S S1 := KP.fr q3 rfl rfl
    have hI1 := hI.kp hK
    have e : stFe S1 = stFe S := by
      have e2 : unF S1 = unF S := by
        funext a b c
        unfold unF
        rw [gG_kl hK, hK.at 17 rfl]
      funext a b c d
      unfold stFe
      rw [e2]
    refine Ex.imp (sp_mFeeds hI1.1) (fun r2 S2 p => ?_)
    rw [if_neg c] at p
    obtain ⟨p1, p2, p3⟩ := p
    rw [e] at p1 p2
    refine ⟨by rw [p1, q1], n, m, hI1.kp (KP.fm p3), ?_⟩
    refine Ly.mk hI.n5 q2 p2 (p3.at 369 rfl) (p3.at 370 rfl) ?_
    exact ⟨0, by omega, by rw [stI_1]; rfl, by rw [stI_1]; rfl, fun i hi => absurd hi (by omega)⟩
theorem rdF_kl {S1 : ovS} (h : KP S S1) : rdF S1 = rdF S := by
  have e : bsN S1 = bsN S := by
    funext n nm s
    unfold bsN
    rw [gG_kl h]
  funext n nm i
  induction i with
  | zero => rfl
  | succ i ih => rw [rdF, rdF, ih, e]
theorem rsF_kl {S1 : ovS} (h : KP S S1) : rsF S1 = rsF S := by
  funext n nm i
  induction i with
  | zero => rfl
  | succ i ih => rw [rsF, rsF, ih, rdF_kl h]
theorem pb_rest (hI : IC S n m) (hL : Ly S n) : PB G mX11_rest 8 [.ref 0] mX12_rest 9 [.ref 412] S := by
  have hn := hI.n5
  refine eX11_rest (vX11_rest_0 ⟨_, sp_rest hI.cx hI.vn, fun r S1 q => ?_⟩)
  obtain ⟨q1, q2⟩ := q
  have hK : KP S S1 := KP.fr q1 rfl rfl
  have hI1 := hI.kp hK
  refine Ex.imp (sp_mRest hI1.1) (fun r2 S2 p => ?_)
  obtain ⟨p1, p2⟩ := p
  unfold rests at p2 q2
  rw [rdF_kl hK, rsF_kl hK, hK.at 26 rfl] at p2
  have e3 : S2.1 369 = S1.1 369 := p1.at 369 rfl
  have e4 : S2.1 370 = S1.1 370 := p1.at 370 rfl
  have hI2 := hI1.kp (KP.fm p1)
  rcases q2 with ⟨k, h1, ⟨h2, h2'⟩, h3, h4, h5, h6⟩ | ⟨h1, h2, h3, h4, h5⟩
  · rcases p2 with ⟨k', g1, ⟨g2, g2'⟩, g3, g4, g5⟩ | ⟨g1, g2, g3⟩
    · have : k = k' := by
        rcases Nat.lt_trichotomy k k' with z | z | z
        · have := g2' k z
          rw [h2] at this
          cases this
        · exact z
        · have := h2' k' z
          rw [g2] at this
          cases this
      subst this
      refine ⟨by rw [g3, h3], n, m, hI2, n, Nat.le_refl _, by rw [e3]; exact h4, g4, fun i hi => ?_⟩
      rw [e4, h6 i (by omega), g5 i hi]
    · have := g1 k h1
      rw [h2] at this
      cases this
  · rcases p2 with ⟨k', g1, ⟨g2, g2'⟩, g3, g4, g5⟩ | ⟨g1, g2, g3⟩
    · have := h1 k' g1
      rw [g2] at this
      cases this
    · exact ⟨by rw [g2, h2], n, m, hI2, 0, by omega, by rw [e3]; exact h3, g3, fun i hi => absurd hi (by omega)⟩
/-! parts of the invariant, each by its own places -/
theorem HR.cg {S1 : ovS} (h : HR S n) (h1 : S1.1 32 = S.1 32) (h2 : S1.1 412 45 = S.1 412 45) (h3 : S1.1 412 46 = S.1 412 46) (h4 : S1.1 430 = S.1 430) (h5 : ∀ a, a < 41 → ∀ j, j < 8 → S1.1 (34 + 8 * a + j) = S.1 (34 + 8 * a + j)) (h6 : ∀ j, j < 8 → S1.1 (24 + j) = S.1 (24 + j)) : HR S1 n := by
  have srn : srow S1 24 = srow S 24 := sr_cg h6
  have srr : ∀ a, a < 41 → srow S1 (34 + 8 * a) = srow S (34 + 8 * a) := fun a ha => sr_cg (h5 a ha)
  obtain ⟨a, u, r, g1, g2, g3, g4, g5, g6, g7, g8, g9, g10, g11⟩ := h
  refine ⟨a, u, r, g1, g2, by rw [h1]; exact g3, by rw [h1]; exact g4, by rw [h1]; exact g5, by rw [h2]; exact g6, by rw [h3]; exact g7, ?_, ?_, ?_, ?_⟩
  · rw [srr a g1, srn]; exact g8
  · intro j hj k hk
    rw [srr _ (Nat.mod_lt _ (by decide)), h4]
    exact g9 j hj k hk
  · intro j hj k hk
    rw [srr _ (Nat.mod_lt _ (by decide)), h4]
    exact g10 j hj k hk
  · rw [h4]
    exact g11
theorem BR.cg {S1 : ovS} (h : BR S n) (h1 : S1.1 445 = S.1 445) (h2 : S1.1 363 = S.1 363) (h3 : S1.1 446 = S.1 446) (h5 : ∀ b, b < 3 → ∀ j, j < 8 → S1.1 (388 + 8 * b + j) = S.1 (388 + 8 * b + j)) : BR S1 n := by
  intro b hb
  have srb : srow S1 (388 + 8 * b) = srow S (388 + 8 * b) := sr_cg (h5 b hb)
  rw [h1, h2, h3, srb]
  exact h b hb
theorem TP.cg {S1 : ovS} (h : TP S) (h1 : S1.1 0 1 = S.1 0 1) (h2 : S1.1 412 1 = S.1 412 1) (h3 : S1.1 413 = S.1 413) (h4 : S1.1 1 = S.1 1) : TP S1 := by
  unfold TP
  rw [h1, h2, h3, h4]
  exact h
/-- as KP, without the reports -/
theorem IC.rr {S1 : ovS} (hI : IC S n m) (hk : ∀ k, SCr.contains k = false → RRr.contains k = false → S1.1 k = S.1 k) (hj : ∀ j, JK.contains j = true → j ≠ 63 → j ≠ 64 → S1.1 412 j = S.1 412 j) (hR : ∃ c, RR S1 c) : IC S1 n m := by
  obtain ⟨hM, hD, h34, hU, hW, hH, hB, _, hT, hf1, hf2⟩ := hI
  have r1 : ∀ a, a < 41 → ∀ j, j < 8 → RRr.contains (34 + 8 * a + j) = false := by decide +kernel
  have r2 : ∀ b, b < 3 → ∀ j, j < 8 → RRr.contains (388 + 8 * b + j) = false := by decide +kernel
  have r3 : ∀ j, j < 8 → RRr.contains (24 + j) = false := by decide +kernel
  have r4 : ∀ k, k ∈ MXr → RRr.contains k = false := by decide +kernel
  have h24 : ∀ j, j < 8 → S1.1 (24 + j) = S.1 (24 + j) := fun j hj => hk _ (now_nsc j hj) (r3 j hj)
  refine ⟨hM.cg (fun k h => hk k (MXr_nsc k h) (r4 k h)) (hj 35 rfl (by decide) (by decide)) (hj 18 rfl (by decide) (by decide)) (hj 39 rfl (by decide) (by decide)), ?_, ?_, ?_, ?_, ?_, ?_, hR, ?_, ?_, ?_⟩
  · unfold CD
    rw [hk 16 rfl rfl]
    exact hD
  · rw [hj 34 rfl (by decide) (by decide)]; exact h34
  · rw [hk 20 rfl rfl, hj 21 rfl (by decide) (by decide)]; exact hU
  · rw [sr_cg h24]; exact hW
  · exact hH.cg (hk 32 rfl rfl) (hj 45 rfl (by decide) (by decide)) (hj 46 rfl (by decide) (by decide)) (hk 430 rfl rfl) (fun a ha j hj => hk _ (ring_nsc a ha j hj) (r1 a ha j hj)) h24
  · exact hB.cg (hk 445 rfl rfl) (hk 363 rfl rfl) (hk 446 rfl rfl) (fun b hb j hj => hk _ (box_nsc b hb j hj) (r2 b hb j hj))
  · exact hT.cg (by rw [hk 0 rfl rfl]) (hj 1 rfl (by decide) (by decide)) (hk 413 rfl rfl) (hk 1 rfl rfl)
  · rw [hk 0 rfl rfl, hj 2 rfl (by decide) (by decide)]; exact hf1
  · rw [hk 0 rfl rfl, hj 3 rfl (by decide) (by decide)]; exact hf2
theorem pb_later {x : Int32} (hI : IC S n m) (hL : Ly S n) : PB G mX11_later 2 [.ref 0, .int x] mX12_later 1 [.ref 412, .int x] S := by
  obtain ⟨c, hR⟩ := hI.2.2.2.2.2.2.2.1
  obtain ⟨hc, h63, ⟨t, ht, e2⟩, e64, hrow⟩ := id hR
  have non : Ex G mX12_later 1 [.ref 412, .int x] S (fun r2 S2 => r2 = -1 ∧ Inv S2) → (x < 0 ∨ 1000 < x ∨ ¬ S.1 376 2 + x ≤ 100000) → Ex G mX12_later 1 [.ref 412, .int x] S (fun r2 S2 => r2 = -1 ∧ Inv S2) := fun h _ => h
  refine eX11_later (vX11_later_0 ⟨fun r S1 => (((x < 0 ∨ 1000 < x ∨ ¬ S.1 376 2 + x ≤ 100000) ∧ r = -1 ∧ S1 = S) ∨ (¬ x < 0 ∧ ¬ 1000 < x ∧ S.1 376 2 + x ≤ 100000 ∧ r = S.1 376 2 + x ∧ S1 = stI S 376 2 (S.1 376 2 + x))), ?_, fun r S1 q => ?_⟩)
  · refine eX6_passTime (vX6_passTime_0 ⟨fun d => Or.inl ⟨Or.inl d, rfl, rfl⟩, fun d => ⟨fun e => Or.inl ⟨Or.inr (Or.inl e), rfl, rfl⟩, fun e => ⟨fun f S4 e4 => Or.inr ⟨d, e, f, ?_, e4⟩, fun f => Or.inl ⟨Or.inr (Or.inr f), rfl, rfl⟩⟩⟩⟩)
    rw [e4, stI_1]
    rfl
  · rcases q with ⟨q0, q1, q2⟩ | ⟨d, e, f, q1, q2⟩
    · subst q1 q2
      have hv : Inv S1 := ⟨n, m, hI, hL⟩
      refine eX12_later (vX12_later_0 ?_)
      rw [e64]
      refine ⟨fun _ => ⟨rfl, hv⟩, fun d => ⟨fun _ => ⟨rfl, hv⟩, fun e => ⟨fun f => absurd q0 (fun z => z.elim d (fun z => z.elim e (fun z => z f))), fun _ => ⟨rfl, hv⟩⟩⟩⟩
    · refine eX12_later (vX12_later_0 ⟨fun z => absurd z d, fun _ => ⟨fun z => absurd z e, fun _ => ?_⟩⟩)
      have g64 : S1.1 412 64 = S.1 376 2 := by rw [q2, stI_row (by decide)]; exact e64
      rw [g64]
      refine ⟨fun _ S4 e4 => ?_, fun z => absurd f z⟩
      refine ⟨by rw [e4, stI_1, if_pos rfl, if_pos rfl, q1], n, m, ?_, ?_⟩
      · refine hI.rr (fun k h1 h2 => ?_) (fun j h1 h2 h3 => ?_) ⟨c, ?_⟩
        · have n1 : k ≠ 412 := fun z => by subst z; cases h1
          have n2 : k ≠ 376 := fun z => by subst z; cases h1
          rw [e4, stI_row n1, q2, stI_row n2]
        · rw [e4, stI_1, if_pos rfl, if_neg h3, q2, stI_row (by decide)]
        · have rows : ∀ k, k ∈ RRr → S4.1 k = S.1 k := by
            intro k hk
            have n1 : k ≠ 412 := fun z => by subst z; revert hk; decide
            have n2 : k ≠ 376 := fun z => by subst z; revert hk; decide
            rw [e4, stI_row n1, q2, stI_row n2]
          have ht2 : ∃ t', t' ≤ 100000 ∧ S.1 376 2 + x = nI t' := by
            rcases pk_ix x (n := 1001) (by omega) with z | z | ⟨j, hj, z⟩
            · exact absurd z d
            · exact absurd (Int32.lt_of_lt_of_le (by decide) z) e
            · refine ⟨t + j, ?_, by rw [e2, z, nI_add]⟩
              rw [e2, z, nI_add, show (100000 : Int32) = nI 100000 from rfl, nI_le_i (by omega) (by decide)] at f
              exact f
          have f2 : S4.1 376 2 = S.1 376 2 + x := by rw [e4, stI_row (by decide), q2, stI_1]; rfl
          have f1 : S4.1 376 1 = S.1 376 1 := by rw [e4, stI_row (by decide), q2, stI_1, if_pos rfl, if_neg (by decide)]
          refine ⟨⟨by rw [f1]; exact hc.1, hc.2⟩, ?_, by rw [f2]; exact ht2, ?_, ?_⟩
          · rw [e4, stI_1, if_pos rfl, if_neg (by decide), q2, stI_row (by decide)]
            exact h63
          · rw [f2, e4, stI_1, if_pos rfl, if_pos rfl]
          · rw [rows 377 (by decide), rows 378 (by decide), rows 379 (by decide), rows 380 (by decide), rows 381 (by decide), rows 382 (by decide), rows 434 (by decide), rows 435 (by decide), rows 436 (by decide), rows 437 (by decide), rows 438 (by decide), rows 439 (by decide)]
            exact hrow
      · refine hL.cg ?_ ?_ ?_ ?_
        · rw [e4, stI_row (by decide), q2, stI_row (by decide)]
        · rw [e4, stI_1, if_pos rfl, if_neg (by decide), q2, stI_row (by decide)]
        · rw [e4, stI_row (by decide), q2, stI_row (by decide)]
        · rw [e4, stI_row (by decide), q2, stI_row (by decide)]
theorem pb_untell {x : Int32} (hI : IC S n m) (hL : Ly S n) : PB G mX11_untell 2 [.ref 0, .int x] mX12_untell 2 [.ref 412, .int x] S := by
  obtain ⟨c, hR⟩ := hI.2.2.2.2.2.2.2.1
  obtain ⟨hc, h63, ⟨t, ht, e2⟩, e64, hrow⟩ := id hR
  have hc30 := hc.2
  have hg := ge_iff (x := x) (n := c) (by omega)
  refine eX11_untell (vX11_untell_0 ⟨fun r S1 => (((∀ i, i < c → x = nI i → ¬ S.1 382 i = -1) ∧ r = 0 ∧ S1 = S) ∨ (∃ i, i < c ∧ x = nI i ∧ S.1 382 i = -1 ∧ r = 1 ∧ S1 = stI S 382 i (S.1 376 2))), ?_, fun r S1 q => ⟨?_, ?_⟩⟩)
  · refine eX6_takeBack (vX6_takeBack_0 ?_)
    rw [hc.1]
    refine ⟨fun d => Or.inl ⟨fun i hi e => absurd d (hg.mpr ⟨i, hi, e⟩).1, rfl, rfl⟩, fun d => ⟨fun e => Or.inl ⟨fun i hi z => absurd e (hg.mpr ⟨i, hi, z⟩).2, rfl, rfl⟩, fun e => ?_⟩⟩
    obtain ⟨i, hi, hx⟩ := hg.mp ⟨d, e⟩
    subst hx
    rw [nI_ix (n := i) (by omega)]
    refine ⟨vp_in_nI (by omega) (by decide), fun f => ⟨vp_in_nI (by omega) (by decide), fun S4 e4 => Or.inr ⟨i, hi, rfl, f, rfl, e4⟩⟩, fun f => Or.inl ⟨fun j hj z => ?_, rfl, rfl⟩⟩
    rw [← (nI_eq_i (by omega) (by omega)).mp z]
    exact f
  · rcases q with ⟨_, q1, _⟩ | ⟨i, _, _, _, q1, _⟩
    · exact Or.inl q1
    · exact Or.inr q1
  · refine eX12_untell (vX12_untell_0 ⟨_, sp_isIn, fun r3 S2 p => ?_⟩)
    obtain ⟨p1, p2⟩ := p
    subst p2
    have g63 : S2.1 412 63 = nI c := by
      rcases q with ⟨_, _, q2⟩ | ⟨i, _, _, _, _, q2⟩
      · rw [q2]; exact h63
      · rw [q2, stI_row (by decide)]; exact h63
    have g64 : S2.1 412 64 = S.1 376 2 := by
      rcases q with ⟨_, _, q2⟩ | ⟨i, _, _, _, _, q2⟩
      · rw [q2]; exact e64
      · rw [q2, stI_row (by decide)]; exact e64
    have g39 : S2.1 439 = S.1 439 := by
      rcases q with ⟨_, _, q2⟩ | ⟨i, _, _, _, _, q2⟩
      · rw [q2]
      · rw [q2, stI_row (by decide)]
    rw [g63] at p1
    rw [p1, bI_0, decide_eq_false_iff_not, in_lt (by omega), g39, g64]
    refine ⟨fun d => ?_, fun d => ?_⟩
    · rcases q with ⟨_, q1, q2⟩ | ⟨i, hi, hx, _⟩
      · rw [q2]
        exact ⟨q1.symm, n, m, hI, hL⟩
      · exact absurd ⟨i, hi, hx⟩ d
    · obtain ⟨i, hi, hx⟩ := Classical.not_not.mp d
      obtain ⟨_, _, _, _, _, a6, a7⟩ := hrow i hi
      have ineg : S.1 382 i < 0 ↔ S.1 382 i = -1 := by
        rcases a7 with h | ⟨t', _, h⟩
        · rw [h]; decide
        · rw [h]
          exact ⟨fun z => absurd z (nI_neg (by omega)), fun z => absurd (show nI t' < 0 by rw [z]; decide) (nI_neg (by omega))⟩
      refine ⟨by rw [hx]; exact vp_in_nI (by omega) (by decide), ?_⟩
      rw [show x.toNatClampNeg = i by rw [hx]; exact nI_ix (by omega), a6, ineg]
      refine ⟨fun e => ⟨by rw [hx]; exact vp_in_nI (by omega) (by decide), fun S8 e8 => ?_⟩, fun e => ?_⟩
      · rcases q with ⟨q0, _, _⟩ | ⟨i', hi', hx', _, q1, q2⟩
        · exact absurd e (q0 i hi hx)
        · have : i' = i := (nI_eq_i (by omega) (by omega)).mp (hx'.symm.trans hx)
          subst this
          refine ⟨q1.symm, n, m, ?_, ?_⟩
          · refine hI.rr (fun k h1 h2 => ?_) (fun j h1 h2 h3 => ?_) ⟨c, ?_⟩
            · have n1 : k ≠ 439 := fun z => by subst z; cases h2
              have n2 : k ≠ 382 := fun z => by subst z; cases h2
              rw [e8, stI_row n1, q2, stI_row n2]
            · rw [e8, stI_row (by decide), q2, stI_row (by decide)]
            · have rows : ∀ k, k ≠ 382 → k ≠ 439 → S8.1 k = S.1 k := by
                intro k n2 n1
                rw [e8, stI_row n1, q2, stI_row n2]
              refine ⟨⟨by rw [rows 376 (by decide) (by decide)]; exact hc.1, hc.2⟩, by rw [rows 412 (by decide) (by decide)]; exact h63, ⟨t, ht, by rw [rows 376 (by decide) (by decide)]; exact e2⟩, by rw [rows 412 (by decide) (by decide), rows 376 (by decide) (by decide)]; exact e64, fun j hj => ?_⟩
              obtain ⟨b1, b2, b3, b4, b5, b6, b7⟩ := hrow j hj
              rw [rows 377 (by decide) (by decide), rows 378 (by decide) (by decide), rows 379 (by decide) (by decide), rows 380 (by decide) (by decide), rows 381 (by decide) (by decide), rows 434 (by decide) (by decide), rows 435 (by decide) (by decide), rows 436 (by decide) (by decide), rows 437 (by decide) (by decide), rows 438 (by decide) (by decide)]
              refine ⟨b1, b2, b3, b4, b5, ?_, ?_⟩
              · rw [e8, stI_self, q2, stI_row (show (439 : Nat) ≠ 382 by decide), stI_row (show (382 : Nat) ≠ 439 by decide), stI_self]
                simp only [upd]
                split
                · rfl
                · exact b6
              · rw [e8, stI_row (by decide), q2, stI_self]
                simp only [upd]
                split
                · exact Or.inr ⟨t, ht, e2⟩
                · exact b7
          · refine hL.cg ?_ ?_ ?_ ?_
            · rw [e8, stI_row (by decide), q2, stI_row (by decide)]
            · rw [e8, stI_row (by decide), q2, stI_row (by decide)]
            · rw [e8, stI_row (by decide), q2, stI_row (by decide)]
            · rw [e8, stI_row (by decide), q2, stI_row (by decide)]
      · rcases q with ⟨q0, q1, q2⟩ | ⟨i', hi', hx', q3, _, _⟩
        · rw [q2]
          exact ⟨q1.symm, n, m, hI, hL⟩
        · have : i' = i := (nI_eq_i (by omega) (by omega)).mp (hx'.symm.trans hx)
          subst this
          exact absurd q3 e
end
