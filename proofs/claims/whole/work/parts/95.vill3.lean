/-! ===== village, both ===== -/
theorem mC_rel {c d : Nat} {x : Int32} (hc : c ≤ 16) (h1 : c = 1 → d < 5) (hx : c ≤ 1 → x = nI d) : stRel (nI c) x (nI (mC c)) (mA c d) := by
  unfold stRel
  by_cases c0 : c = 0
  · left
    subst c0
    refine ⟨rfl, rfl, ?_⟩
    rw [hx (by decide)]
    rfl
  · by_cases c1 : c = 1
    · right; left
      subst c1
      refine ⟨rfl, rfl, ?_, d, h1 rfl, hx (by decide)⟩
      rw [hx (by decide)]
      rfl
    · right; right
      by_cases c5 : c ≤ 5
      · left
        refine ⟨c, by omega, c5, rfl, ?_, ?_⟩
        · unfold mC
          rw [if_neg c0, if_pos c5]
          rfl
        · unfold mA
          rw [if_neg (by omega), if_pos c5]
      · right
        by_cases c8 : c = 8
        · left
          subst c8
          exact ⟨rfl, rfl⟩
        · right
          refine ⟨c, by omega, hc, c8, rfl, ?_, ?_⟩
          · unfold mC
            rw [if_neg c0, if_neg c5, if_neg c8]
            rfl
          · unfold mA
            rw [if_neg (by omega), if_neg c5, if_neg c8]
theorem dep_N {s : Nat → Int32} {f : Nat → Nat} {n : Nat} (h : ∀ i, i < n → s i = nI (f i) ∧ f i ≤ 16) : ∀ i, i ≤ n → depF s i = dN f i
  | 0, _ => rfl
  | i + 1, hi => by
    have h1 := h i (by omega)
    have e5 : (5 < s i) ↔ 5 < f i := by rw [h1.1]; exact i5 h1.2
    have e8 : (s i = 8) ↔ f i = 8 := by rw [h1.1]; exact nI_eq_i (b := 8) (by omega) (by decide)
    have ih := dep_N h i (by omega)
    rw [depF, dN, ih]
    by_cases a : 5 < f i
    · rw [if_pos a, if_pos (e5.mpr a)]
      by_cases c : f i = 8
      · rw [if_pos c, if_pos (e8.mpr c)]
      · rw [if_neg c, if_neg (fun z => c (e8.mp z))]
    · rw [if_neg a, if_neg (fun z => a (e5.mp z))]
theorem WN_d {s : Nat → Int32} {f : Nat → Nat} {n : Nat} (h : ∀ i, i < n → s i = nI (f i) ∧ f i ≤ 16) (hw : WN f n) : WFd s n := by
  intro i hi
  have h1 := h i hi
  have e5 : (5 < s i) ↔ 5 < f i := by rw [h1.1]; exact i5 h1.2
  have e8 : (s i = 8) ↔ f i = 8 := by rw [h1.1]; exact nI_eq_i (b := 8) (by omega) (by decide)
  have w := hw i hi
  rw [dep_N h i (by omega)]
  exact ⟨fun a => ⟨fun c => (w.1 (e5.mp a)).1 (e8.mp c), fun c => (w.1 (e5.mp a)).2 (fun z => c (e8.mpr z))⟩, fun a => w.2 (fun z => a (e5.mpr z))⟩
abbrev JQ : List Nat := [18, 21, 34, 35, 39, 45, 46, 63, 64]
/-- behind a FAULT: only the tape and the FAULT are other -/
theorem IC.kq {S S1 : ovS} {n m : Nat} (hI : IC S n m) (hr : ∀ k, SCr.contains k = false → k ≠ 0 → k ≠ 11 → k ≠ 12 → S1.1 k = S.1 k) (hj : ∀ j, JQ.contains j = true → S1.1 412 j = S.1 412 j) (h1 : S1.1 376 1 = S.1 376 1) (h2 : S1.1 376 2 = S.1 376 2) (hT : TP S1) (h3 : S1.1 0 3 = S1.1 412 2) (h4 : S1.1 0 4 = S1.1 412 3) : IC S1 n m := by
  obtain ⟨hM, hD, h34, hU, hW, hH, hB, ⟨c, hR⟩, hT0, hf1, hf2⟩ := hI
  have srn : srow S1 24 = srow S 24 := sr_cg (fun j hj => hr _ (now_nsc j hj) (by omega) (by omega) (by omega))
  have srr : ∀ a, a < 41 → srow S1 (34 + 8 * a) = srow S (34 + 8 * a) := fun a ha => sr_cg (fun j hj => hr _ (ring_nsc a ha j hj) (by omega) (by omega) (by omega))
  have srb : ∀ b, b < 3 → srow S1 (388 + 8 * b) = srow S (388 + 8 * b) := fun b hb => sr_cg (fun j hj => hr _ (box_nsc b hb j hj) (by omega) (by omega) (by omega))
  have mx0 : ∀ k, k ∈ MXr → k ≠ 0 ∧ k ≠ 11 ∧ k ≠ 12 := by decide
  have rr0 : ∀ k, k ∈ RRr → k ≠ 0 ∧ k ≠ 11 ∧ k ≠ 12 := by decide
  refine ⟨hM.cg (fun k hk => hr k (MXr_nsc k hk) (mx0 k hk).1 (mx0 k hk).2.1 (mx0 k hk).2.2) (hj 35 rfl) (hj 18 rfl) (hj 39 rfl), ?_, ?_, ?_, ?_, ?_, ?_, ⟨c, ?_⟩, hT, h3, h4⟩
  · unfold CD
    rw [hr 16 rfl (by decide) (by decide) (by decide)]
    exact hD
  · rw [hj 34 rfl]; exact h34
  · rw [hr 20 rfl (by decide) (by decide) (by decide), hj 21 rfl]; exact hU
  · rw [srn]; exact hW
  · obtain ⟨a, u, r, g1, g2, g3, g4, g5, g6, g7, g8, g9, g10, g11⟩ := hH
    refine ⟨a, u, r, g1, g2, by rw [hr 32 rfl (by decide) (by decide) (by decide)]; exact g3, by rw [hr 32 rfl (by decide) (by decide) (by decide)]; exact g4, by rw [hr 32 rfl (by decide) (by decide) (by decide)]; exact g5, by rw [hj 45 rfl]; exact g6, by rw [hj 46 rfl]; exact g7, ?_, ?_, ?_, ?_⟩
    · rw [srr a g1, srn]; exact g8
    · intro j hj' k hk
      rw [srr _ (Nat.mod_lt _ (by decide)), hr 430 rfl (by decide) (by decide) (by decide)]
      exact g9 j hj' k hk
    · intro j hj' k hk
      rw [srr _ (Nat.mod_lt _ (by decide)), hr 430 rfl (by decide) (by decide) (by decide)]
      exact g10 j hj' k hk
    · rw [hr 430 rfl (by decide) (by decide) (by decide)]
      exact g11
  · intro b hb
    rw [hr 445 rfl (by decide) (by decide) (by decide), hr 363 rfl (by decide) (by decide) (by decide), hr 446 rfl (by decide) (by decide) (by decide), srb b hb]
    exact hB b hb
  · exact hR.cg (fun k hk => hr k (RRr_nsc k hk) (rr0 k hk).1 (rr0 k hk).2.1 (rr0 k hk).2.2) h1 h2 (hj 63 rfl) (hj 64 rfl)
section
variable {G : ovG} {S : ovS} {n m : Nat}
/-- a new VILLAGE -/
theorem IC_new {SC S2 S1 : ovS} {V : pV} (hI : VI V) (hE : MEnd S2 S1 V) (hk : ∀ k, Le.contains k = false → S2.1 k = SC.1 k) (c16 : SC.1 16 0 = nI (V 0 1) ∧ SC.1 16 1 = nI (V 0 0)) (c17 : ∀ i, i < 5 → SC.1 17 i = nI (V 3 i)) (c20 : SC.1 20 0 = nI (V 0 9) ∧ SC.1 20 1 = nI (V 0 8)) (c21 : ∀ i, i < V 0 8 → SC.1 21 i = nI (V 6 i) ∧ (V 6 i ≤ 1 → SC.1 22 i = nI (V 7 i))) (cN : ∀ i, i < 5 → SC.1 25 i = 0 ∧ SC.1 26 i = -1 ∧ SC.1 27 i = nI (V 4 i) ∧ SC.1 28 i = 0 ∧ SC.1 29 i = nI (V 5 i) ∧ SC.1 30 i = 0 ∧ SC.1 31 i = 0) (c24 : SC.1 24 7 = nI (V 0 3) ∧ SC.1 24 8 = nI (V 0 4) ∧ SC.1 24 9 = 0) (cr : stEq SC 34 SC 24) (c32 : SC.1 32 2 = 0 ∧ SC.1 32 0 = 0 ∧ SC.1 32 1 = 0) (c376 : SC.1 376 1 = 0) (ct : ∃ t, t ≤ 100000 ∧ SC.1 376 2 = nI t) (c64 : S1.1 412 64 = SC.1 376 2) (c369 : SC.1 369 4 = 0) (c363 : ∀ b, b < 3 → SC.1 363 b = 0) (c0 : SC.1 0 1 = 0 ∧ SC.1 0 3 = 0 ∧ SC.1 0 4 = -1) : IC S1 (V 0 1) (V 0 0) ∧ Ly S1 (V 0 1) := by
  obtain ⟨d1, ⟨s34, s35, s21, s39, s18, s45, s46, s63, s48, s1, s2, s3, s64⟩, d3, d4, d5, ⟨d35, d36, d37⟩, d445⟩ := hE
  have hc : ∀ k, Le.contains k = false → S1.1 k = SC.1 k := fun k h => by rw [d1 k h, hk k h]
  have r16 := hc 16 rfl
  have r17 := hc 17 rfl
  have r20 := hc 20 rfl
  have r21 := hc 21 rfl
  have r22 := hc 22 rfl
  have r24 := hc 24 rfl
  have r25 := hc 25 rfl
  have r26 := hc 26 rfl
  have r27 := hc 27 rfl
  have r28 := hc 28 rfl
  have r29 := hc 29 rfl
  have r30 := hc 30 rfl
  have r31 := hc 31 rfl
  have hn5 := hI.1.2.1
  have hm5 := hI.1.1
  have hsteps : V 0 8 ≤ 290 ∧ WN (V 6) (V 0 8) ∧ (∀ i, i < V 0 8 → V 6 i ≤ 16 ∧ (V 6 i = 1 → V 7 i < 5)) ∧ nI (V 0 5) = bI (decide (¬ V 0 8 = 0)) := by
    have h51 := hI.1.2.2.2.2.2.1
    rcases Nat.eq_zero_or_pos (V 0 5) with z | z
    · have h := (hI.2.2.2.2.1 z).1
      rw [h, z]
      exact ⟨by omega, fun i hi => absurd hi (by omega), fun i hi => absurd hi (by omega), rfl⟩
    · have e : V 0 5 = 1 := by omega
      have h := hI.2.2.2.2.2 e
      refine ⟨h.2.2.1, h.2.2.2.1, h.2.2.2.2, ?_⟩
      rw [e, decide_eq_true (by omega)]
      rfl
  have hFR : FR S1 (V 0 8) := by
    refine ⟨by rw [r20]; exact c20.2, by omega, s18, by rw [s39]; exact hsteps.2.2.2, fun i hi => ?_, ?_⟩
    · have h := c21 i hi
      have h2 := d3 i hi
      have h3 := hsteps.2.2.1 i hi
      rw [r21, r22, h.1, h2.1, h2.2]
      exact mC_rel h3.1 h3.2 h.2
    · rw [r21]
      exact WN_d (fun i hi => ⟨(c21 i hi).1, (hsteps.2.2.1 i hi).1⟩) hsteps.2.1
  have hVN : VN (V 0 1) (S1.1 26) := fun i hi => ⟨fun _ => Or.inl (by rw [r26]; exact (cN i hi).2.1), fun _ => by rw [r26]; exact (cN i hi).2.1⟩
  have hFD : FD (V 0 1) (S1.1 29) := ⟨V 5, fun i hi => ⟨by rw [r29]; exact (cN i hi).2.2.2.2.1, hI.2.2.1.1 i hi⟩, hI.2.2.1.2.1, hI.2.2.1.2.2⟩
  have hMX : MX S1 (V 0 1) := by
    refine ⟨⟨by rw [r16]; exact c16.1, hn5, hFR.ok⟩, s35, ⟨_, hFR⟩, ⟨fun i hi => ?_, fun i hi => ?_, fun i hi => ?_, fun i hi => ?_, fun i hi => ?_, fun i hi => ?_, fun i hi => ?_, ?_, ?_, ?_⟩, hFD, hVN, fun s hs => ?_⟩
    · rw [(d5 i hi).1, r25]; exact (cN i hi).1.symm
    · rw [(d5 i hi).2.1, r26]; exact (cN i hi).2.1.symm
    · rw [(d5 i hi).2.2.1, r29]; exact (cN i hi).2.2.2.2.1.symm
    · rw [(d5 i hi).2.2.2.1, r27]; exact (cN i hi).2.2.1.symm
    · rw [(d5 i hi).2.2.2.2.1, r28]; exact (cN i hi).2.2.2.1.symm
    · rw [(d5 i hi).2.2.2.2.2.1, r30]; exact (cN i hi).2.2.2.2.2.1.symm
    · rw [(d5 i hi).2.2.2.2.2.2, r31]; exact (cN i hi).2.2.2.2.2.2.symm
    · rw [d35, r24]; exact c24.1.symm
    · rw [d36, r24]; exact c24.2.1.symm
    · rw [d37, r24]; exact c24.2.2.symm
    · rw [d4 s hs, r17]; exact (c17 s (by omega)).symm
  have nowS : ∀ j, j < 8 → S1.1 (24 + j) = SC.1 (24 + j) := fun j hj => hc _ (by
    have : ∀ j, j < 8 → Le.contains (24 + j) = false := by decide
    exact this j hj)
  have ringS : ∀ j, j < 8 → S1.1 (34 + j) = SC.1 (34 + j) := fun j hj => hc _ (by
    have : ∀ j, j < 8 → Le.contains (34 + j) = false := by decide
    exact this j hj)
  refine ⟨⟨hMX, ⟨by rw [r16]; exact c16.2, hm5⟩, s34, ?_, ⟨?_, ?_, fun i hi => ?_, ?_, fun i h1 h2 => ?_⟩, ⟨0, 0, 0, by decide, by decide, ?_, ?_, ?_, ?_, ?_, fun k hk => ?_, fun j hj => absurd hj (by omega), fun j hj => absurd hj (by omega), fun j hj => absurd hj (by omega)⟩, fun b hb => ⟨?_, Or.inl ?_⟩, ⟨0, ⟨?_, by decide⟩, ?_, ?_, ?_, fun j hj => absurd hj (by omega)⟩, ⟨0, by decide, ?_, ?_, fun i hi => absurd hi (by omega)⟩, ?_, ?_⟩, 0, Nat.zero_le _, ?_, ?_, fun i hi => absurd hi (by omega)⟩
  · rw [r20, s21]; exact c20.1
  · exact hVN.cg (fun i hi => by rw [sr_b hi])
  · exact hFD.cg (fun i hi => by rw [sr_c hi])
  · rw [sr_d hi]
    refine ⟨V 4 i, (hI.2.1 i hi).2.1, ?_⟩
    rw [show (24 : Nat) + 3 = 27 from rfl, r27]
    exact (cN i hi).2.2.1
  · refine ⟨0, by decide, ?_⟩
    have := sr_h (S := S1) (o := 24) (i := 9) (by decide) (by decide)
    rw [show (28 : Nat) + 9 = 37 from rfl] at this
    rw [this, r24]
    exact c24.2.2
  · rw [sr_a h2, show (24 : Nat) + 1 = 25 from rfl, r25]
    exact (cN i h2).1
  · rw [hc 32 rfl]; exact c32.1
  · rw [hc 32 rfl]; exact c32.2.1
  · rw [hc 32 rfl]; exact c32.2.2
  · exact s45
  · exact s46
  · rw [Nat.mul_zero, Nat.add_zero, sr_cg ringS, sr_cg nowS]
    exact stEq_sr cr k hk
  · rw [d445 b hb, hc 363 rfl, c363 b hb]
  · rw [hc 363 rfl]; exact c363 b hb
  · rw [hc 376 rfl]; exact c376
  · exact s63
  · rw [hc 376 rfl]; exact ct
  · rw [hc 376 rfl]; exact c64
  · rw [hc 0 rfl]; exact c0.1
  · exact s1
  · rw [hc 0 rfl, c0.2.1, s2]
  · rw [hc 0 rfl, c0.2.2, s3]
  · rw [hc 369 rfl]; exact c369
  · exact s48
theorem pb_village (hI : IC S n m) (hL : Ly S n) : PB G mX11_village 13 [.ref 0] mX12_village 8 [.ref 412] S := by
  obtain ⟨t, ht, t1, t2, t3⟩ := hI.2.2.2.2.2.2.2.2.1
  obtain ⟨b, hb'⟩ : ∃ b : Nat → Nat, b = fun i => (S.1 413 i).toNatClampNeg := ⟨_, rfl⟩
  have hbs : ∀ i, i < t → b i < 256 ∧ S.1 413 i = nI (b i) ∧ S.1 1 i = sby (b i) := fun i hi => by
    obtain ⟨c, h1, h2, h3⟩ := t3 i hi
    have : b i = c := by rw [hb']; show (S.1 413 i).toNatClampNeg = c; rw [h2]; exact nI_ix (by omega)
    rw [this]
    exact ⟨h1, h2, h3⟩
  clear hb'
  have hb : ∀ i, i < t → b i < 256 := fun i hi => (hbs i hi).1
  refine eX11_village (vX11_village_0 ?_)
  rw [t1]
  refine ⟨_, sp_cRead hb ht (fun i hi => (hbs i hi).2.2), fun r3 S2 g S6 e6 S7 e7 S8 e8 => ?_⟩
  obtain ⟨g1, g2⟩ := g
  have a62 : S6.1 2 = S2.1 2 := by rw [e6, stI_row (by decide)]
  have a72 : S7.1 2 = S2.1 2 := by rw [e7, stI_row (by decide)]; exact a62
  rw [a62] at e7
  rw [a72] at e8
  have r8 : ∀ k, k ≠ 0 → S8.1 k = S2.1 k := fun k hk => by rw [e8, stI_row hk, e7, stI_row hk, e6, stI_row hk]
  have s8 : ∀ j, S8.1 0 j = if j = 4 then S2.1 2 2 else if j = 3 then S2.1 2 1 else if j = 1 then 0 else S2.1 0 j := fun j => by rw [e8, stI_1, if_pos rfl, e7, stI_1, if_pos rfl, e6, stI_1, if_pos rfl]
  have lr : ∀ k, Lr.contains k = false → k ≠ 0 → S8.1 k = S.1 k := fun k h1 h2 => by rw [r8 k h2, g1.at k h1]
  have e03 : S8.1 0 3 = S2.1 2 1 := by rw [s8, if_neg (by decide), if_pos rfl]
  have e04 : S8.1 0 4 = S2.1 2 2 := by rw [s8, if_pos rfl]
  have e01 : S8.1 0 1 = 0 := by rw [s8, if_neg (by decide), if_neg (by decide), if_pos rfl]
  rw [e03]
  have lrS : ∀ k, SCr.contains k = false → k ≠ 0 → k ≠ 11 → k ≠ 12 → Lr.contains k = false := fun k hk h0 h1 h2 => by
    cases hc : Lr.contains k with
    | false => rfl
    | true =>
      have hm : k ∈ Lr := by simpa using hc
      have h4 : ∀ k, k ∈ Lr → k = 11 ∨ k = 12 ∨ SCr.contains k = true := by decide
      rcases h4 k hm with e | e | e
      · exact absurd e h1
      · exact absurd e h2
      · rw [e] at hk; cases hk
  cases hA : lnA b t t V0 0 with
  | inl e =>
    rw [hA] at g2
    have g2' : FLc e S2 := g2
    refine ⟨fun z => absurd z g2'.n0, fun _ => ?_⟩
    refine sp_mVillage hb ht (by rw [lr 412 rfl (by decide)]; exact t2) (fun i hi => by rw [lr 413 rfl (by decide)]; exact (hbs i hi).2.1) (fun e' S1 hA' hF h1 hL' => ?_) (fun V S2' S1 hA' => by rw [hA] at hA'; cases hA')
    rw [hA] at hA'
    cases hA'
    have row : ∀ k, Lr.contains k = false → k ≠ 0 → (Lz.contains k || k == 412) = false → S1.1 k = S.1 k := fun k h1 h2 h3 => by rw [hF.at k h3, lr k h1 h2]
    have slot : ∀ j, Ja.contains j = false → S1.1 412 j = S.1 412 j := fun j hj => by rw [hF.sl j hj, lr 412 rfl (by decide)]
    have c0 : S1.1 0 = S8.1 0 := hF.at 0 rfl
    refine ⟨rfl, n, m, hI.kq (fun k h1 h2 h3 h4 => ?_) (fun j hj => slot j ?_) (by rw [row 376 rfl (by decide) rfl]) (by rw [row 376 rfl (by decide) rfl]) ⟨0, by decide, by rw [c0]; exact e01, h1, fun i hi => absurd hi (by omega)⟩ (by rw [c0, e03, g2'.1, hL'.1]) (by rw [c0, e04, g2'.2.2.2, hL'.2.2.2]), hL.cg (by rw [row 369 rfl (by decide) rfl]) (slot 48 rfl) (row 370 rfl (by decide) rfl) (row 431 rfl (by decide) rfl)⟩
    · refine row k (lrS k h1 h2 h3 h4) h2 ?_
      cases hc : (Lz.contains k || k == 412) with
      | false => rfl
      | true =>
        have hm : k ∈ 412 :: Lz := by
          rw [Bool.or_eq_true] at hc
          rcases hc with hc | hc
          · exact List.mem_cons_of_mem _ (by simpa using hc)
          · rw [show k = 412 by simpa using hc]
            exact List.mem_cons_self ..
        have h5 : ∀ k, k ∈ 412 :: Lz → SCr.contains k = true := by decide
        rw [h5 k hm] at h1
        cases h1
    · have hm : j ∈ JQ := by simpa using hj
      have h5 : ∀ j, j ∈ JQ → Ja.contains j = false := by decide
      exact h5 j hm
  | inr V =>
    rw [hA] at g2
    obtain ⟨k1, k2, k3⟩ := g2
    have hVI := lnA_ok t V0 0 V (Nat.zero_le _) VI_0 hA
    have hn5 := hVI.1.2.1
    refine ⟨fun _ => ⟨_, sp_ctake, fun r12 S11 q => ⟨_, sp_cbegin, fun r17 S16 p => ?_⟩⟩, fun z => absurd k1 z⟩
    obtain ⟨q1, ⟨q2, q3, q4, q5⟩, q6, q7, q8, q9⟩ := q
    obtain ⟨p1, p2, ⟨p3, p4, p5⟩, p6, p7, ⟨p8, p9⟩, p10, p11⟩ := p
    obtain ⟨⟨a1, a2, a3, a4, a5, a6, a7, a8, a9⟩, b1, b2, b3, b4⟩ := k3
    have far : ∀ k, bgR k = false → [16, 17, 18, 19, 20, 21, 22].contains k = false → k ≠ 0 → S16.1 k = S2.1 k := fun k h1 h2 h3 => by rw [p1 k h1, q1.1 k h2, r8 k h3]
    have z16 : S16.1 16 0 = nI (V 0 1) := by rw [p1 16 rfl, q2, r8 3 (by decide)]; exact a2
    rw [z16]
    have hlen : V 0 8 ≤ 290 := by
      have h51 := hVI.1.2.2.2.2.2.1
      rcases Nat.eq_zero_or_pos (V 0 5) with z | z
      · have := (hVI.2.2.2.2.1 z).1
        omega
      · exact (hVI.2.2.2.2.2 (by omega)).2.2.1
    have m412 : S16.1 412 = S.1 412 := by rw [far 412 rfl rfl (by decide), g1.at 412 rfl]
    have m413 : S16.1 413 = S.1 413 := by rw [far 413 rfl rfl (by decide), g1.at 413 rfl]
    have m376 : S11.1 376 = S.1 376 := by rw [q1.at 376 rfl, lr 376 rfl (by decide)]
    obtain ⟨c, hR1, hR2, hR3, hR4, _⟩ := hI.2.2.2.2.2.2.2.1
    refine sp_mVillage hb ht (by rw [m412]; exact t2) (fun i hi => by rw [m413]; exact (hbs i hi).2.1) (fun e' S1 hA' => by rw [hA] at hA'; cases hA') (fun V' S2' S1 hA' hF hE => ?_)
    rw [hA] at hA'
    cases hA'
    have c0 : S16.1 0 = S8.1 0 := by rw [p1 0 rfl, q1.at 0 rfl]
    refine ⟨rfl, V 0 1, V 0 0, IC_new (SC := S16) hVI hE (fun k hk => ?_) ⟨z16, ?_⟩ (fun i hi => ?_) ⟨?_, ?_⟩ (fun i hi => ?_) (fun i hi => ?_) ⟨?_, ?_, p5⟩ p6 p7 p8 ?_ ?_ p10 p11 ⟨?_, ?_, ?_⟩⟩
    · refine hF.at k ?_
      cases hc : (Lz.contains k || k == 412) with
      | false => rfl
      | true =>
        have hm : k ∈ 412 :: Lz := by
          rw [Bool.or_eq_true] at hc
          rcases hc with hc | hc
          · exact List.mem_cons_of_mem _ (by simpa using hc)
          · rw [show k = 412 by simpa using hc]
            exact List.mem_cons_self ..
        have h5 : ∀ k, k ∈ 412 :: Lz → Le.contains k = true := by decide
        rw [h5 k hm] at hk
        cases hk
    · rw [p1 16 rfl, q3, r8 3 (by decide)]; exact a1
    · rw [p1 17 rfl, (q6 i hi).1, r8 4 (by decide)]; exact (b4 i hi).1
    · rw [p1 20 rfl, q7, r8 7 (by decide)]; exact a9
    · rw [p1 20 rfl, q8, r8 7 (by decide)]; exact b1.1
    · rw [p1 21 rfl, p1 22 rfl, (q9 i (by omega)).1, (q9 i (by omega)).2, r8 8 (by decide), r8 9 (by decide)]
      exact b1.2 i hi
    · have h := p2 i hi
      rw [h.2.2.1, h.2.2.2.2.1, (q6 i hi).2.1, (q6 i hi).2.2, r8 5 (by decide), r8 6 (by decide), (b4 i hi).2.1, (b4 i hi).2.2]
      exact ⟨h.1, h.2.1, rfl, h.2.2.2.1, rfl, h.2.2.2.2.2⟩
    · rw [p3, q4, r8 3 (by decide)]; exact a4
    · rw [p4, q5, r8 3 (by decide)]; exact a5
    · rw [p9 2 (by decide), m376]; exact hR3
    · have e64 := hE.2.1.2.2.2.2.2.2.2.2.2.2.2.2
      rw [e64, hF.sl 64 rfl, m412, p9 2 (by decide), m376]
      exact hR4
    · rw [c0]; exact e01
    · rw [c0, e03]; exact k1
    · rw [c0, e04]; exact k2
end
