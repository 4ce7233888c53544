/-! ===== the reference reads a VILLAGE ===== -/
theorem lnX_bad {b : Nat → Nat} {t q : Nat} {V : pV} (h1 : tK b t q = 256 → 5 ≤ V 0 0) (h2 : tK b t q = 257 → 5 ≤ V 0 1) (h3 : tK b t q = 260 → 10 ≤ V 0 2) (h4 : tK b t q = 262 → ¬ V 0 5 = 0) (h5 : tK b t q = 263 → ¬ V 0 6 = 0) (h6 : tK b t q = 264 → ¬ V 0 7 = 0) : lnX b t V q = .inl (ftt b t q 2) := by
  unfold lnX
  split
  · next k => rw [lnD, if_pos (h1 k)]
  · split
    · next k => rw [lnS, if_pos (h2 k)]
    · split
      · next k => rw [lnF1, if_pos (h3 k)]
      · split
        · next k => rw [lnL, if_pos (h4 k)]
        · split
          · next k => rw [lnH, if_pos (h5 k)]
          · split
            · next k => rw [lnR, if_pos (h6 k)]
            · rfl
theorem tK_end {b : Nat → Nat} {t q : Nat} (h : t ≤ q) : tK b t q = 0 := by
  have := tP_lo (b := b) (t := t) (q := q)
  unfold tK
  rw [if_pos (by omega)]
def LNm (b : Nat → Nat) (t : Nat) (S1 : ovS) (R : pR) : Prop := match R with
  | .inl e => FLm e S1
  | .inr (V1, q1) => MS b t q1 S1 ∧ MV S1 V1
def RDm (S1 : ovS) (R : (Nat × Nat) ⊕ pV) : Prop := match R with
  | .inl e => FLm e S1
  | .inr V1 => S1.1 412 2 = 0 ∧ S1.1 412 3 = -1 ∧ MV S1 V1
section
variable {G : ovG} {S : ovS} {b : Nat → Nat} {t q : Nat} {V : pV}
theorem sp_readLine (hb : ∀ i, i < t → b i < 256) (ht : t ≤ 1600) (hq : q ≤ t) (hM : MS b t q S) (hV : MV S V) (hI : VI V) : Ex G mX12_readLine 6 [.ref 412] S (fun _ S1 => FZ Lz Jz S S1 ∧ LNm b t S1 (lnX b t V q)) := by
  have hE := tE_hi (b := b) hq
  obtain ⟨Q, hQ⟩ : ∃ Q : Int32 → ovS → Prop, Q = (fun _ S1 => FZ Lz Jz S S1 ∧ LNm b t S1 (lnX b t V q)) := ⟨_, rfl⟩
  rw [← hQ]
  have qb : ∀ (e : Nat × Nat) (S1 : ovS), FZ Lz Jz S S1 → FLm e S1 → lnX b t V q = .inl e → Q 0 S1 := fun e S1 a1 a2 a3 => by
    rw [hQ, a3]
    exact ⟨a1, a2⟩
  have out : ∀ (e : Nat × Nat) (S1 : ovS), FZ Lz Jz S S1 → FLm e S1 → lnX b t V q = .inl e → RM G mX12_readLine 6 Q 189 [some (.ref 412)] [] S1 := fun e S1 a1 a2 a3 => vX12_readLine_189 ⟨fun _ => ⟨fun _ => qb e S1 a1 a2 a3, fun z => absurd z a2.n0⟩, fun z => absurd z a2.n0⟩
  have tail : ∀ (S' S1 : ovS), FZ Lz Jz S S' → BDm b t S' S1 (lnX b t V q) → RM G mX12_readLine 6 Q 189 [some (.ref 412)] [] S1 := by
    intro S' S1 a0 a1
    obtain ⟨a1, a2⟩ := a1
    rcases a2 with ⟨e, h1, h2⟩ | ⟨q', h1, h2, h3⟩ | ⟨V', q', h1, h2, h3, h4⟩
    · exact out e S1 (a0.tr a1) h2 h1
    · refine vX12_readLine_189 ⟨fun z => absurd h2.2.2 z, fun _ => ?_⟩
      rw [show (59 : Int32) = nI 59 from rfl, h2.so hb (by decide), so_eq (by decide) (by decide) (by decide)]
      exact ⟨fun z => absurd z h3, fun _ => ⟨_, sp_wrong (c := 2) hb (by decide) (by decide) h2, fun r S2 g => ⟨fun _ => qb _ S2 ((a0.tr a1).tr (g.1.mono rfl rfl)) g.2 h1, fun z => absurd z g.2.n0⟩⟩⟩
    · refine vX12_readLine_189 ⟨fun z => absurd h2.2.2 z, fun _ => ?_⟩
      rw [show (59 : Int32) = nI 59 from rfl, h2.so hb (by decide), so_eq (by decide) (by decide) (by decide)]
      refine ⟨fun z => ⟨fun y => absurd h2.2.2 y, fun _ => ⟨_, sp_tok h3 h2 (by omega), fun r S2 g => ?_⟩⟩, fun z => ⟨_, sp_wrong (c := 2) hb (by decide) (by decide) h2, fun r S2 g => ⟨fun _ => qb _ S2 ((a0.tr a1).tr (g.1.mono rfl rfl)) g.2 ?_, fun y => absurd y g.2.n0⟩⟩⟩
      · rw [hQ, h1, scL, if_pos z]
        exact ⟨(a0.tr a1).tr (g.1.mono rfl rfl), g.2, h4.fz g.1 rfl rfl⟩
      · rw [h1, scL, if_neg z]
  have num : ∀ (j k m sl fl r rf : Nat) (w : Int64), j < 15 → w = lN (kwN.getD j 0) → m < 10000 → tK b t q = 256 + j → (sl = 32 ∧ fl = 37 ∧ r = 3 ∧ rf = 6) ∨ (sl = 33 ∧ fl = 38 ∧ r = 4 ∧ rf = 7) → lnX b t V q = nuL b t (tE b t q) m (fun v q2 => scL b t (upV (upV V 0 rf 1) 0 r v) q2) → ∀ S14 : ovS, S14 = stI S 412 fl 1 → (∃ Q15, Ex G mX12_told 4 [.ref 412, .long w, .int 0, .int (nI m)] S14 Q15 ∧ ∀ (r17 : Int32) (S16 : ovS), Q15 r17 S16 → (∀ S20 : ovS, S20 = stI S16 412 sl r17 → RM G mX12_readLine 6 Q 189 [some (.ref 412)] [] S20)) := by
    intro j k m sl fl r rf w hj hw hm hk hh eX S14 e14
    have hV14 : MV S14 (upV V 0 rf 1) := hV.num (j := fl) (r := rf) (v := 1) (by omega) e14
    have hF14 : FZ [] [36, 37, 38] S S14 := by
      rw [e14]
      rcases hh with ⟨_, rfl, _, _⟩ | ⟨_, rfl, _, _⟩ <;> exact FZ.rf.sm rfl
    have hM14 := hM.fz hF14 rfl rfl
    refine ⟨_, sp_told hj hw hm hb hq hM14, fun r17 S16 g S20 e20 => ?_⟩
    have hF20 : FZ [] [32, 33] S16 S20 := by
      rw [e20]
      rcases hh with ⟨rfl, _, _, _⟩ | ⟨rfl, _, _, _⟩ <;> exact FZ.rf.sm rfl
    rcases g with ⟨n1, n2, n3, n4, n5, n6⟩ | ⟨n5, g⟩
    · rw [n4] at e20
      refine tail S S20 FZ.rf ⟨((hF14.mono rfl rfl).tr (n5.mono rfl rfl)).tr (hF20.mono rfl rfl), Or.inr (Or.inr ⟨_, _, ?_, n6.fz hF20 rfl rfl, tE_hi hE, (hV14.fz n5 rfl rfl).num (j := sl) (r := r) (by omega) e20⟩)⟩
      rw [eX, nuL, if_neg (fun y => y n2), if_neg n3]
    · have hFF : FZ Lz Jz S S20 := ((hF14.mono rfl rfl).tr (n5.mono rfl rfl)).tr (hF20.mono rfl rfl)
      rcases g with ⟨n1, n6⟩ | ⟨n1, n2, n6⟩ | ⟨n1, n2, n3, n6⟩
      · exact absurd hk n1
      · exact out _ S20 hFF (n6.fz hF20 rfl) (by rw [eX, nuL, if_pos n2])
      · exact out _ S20 hFF (n6.fz hF20 rfl) (by rw [eX, nuL, if_neg (fun y => y n2), if_pos n3])
  have iw : ∀ (j : Nat) (w : Int64), j < 15 → w = lN (kwN.getD j 0) → ∀ (P : Int32 → ovS → Prop), (∀ r, (r = 0 ↔ ¬ tK b t q = 256 + j) → P r S) → (∃ Q1, Ex G mX12_isWord 1 [.ref 412, .long w] S Q1 ∧ ∀ (r3 : Int32) (S2 : ovS), Q1 r3 S2 → P r3 S2) := by
    intro j w hj hw P hP
    refine ⟨_, sp_isWord hj hw hb hq hM, fun r3 S2 g => ?_⟩
    obtain ⟨u1, u2⟩ := g
    subst u2
    exact hP r3 (by rw [u1, bI_0, decide_eq_false_iff_not])
  have h01 : ∀ (x : Nat), x ≤ 1 → (nI x = 0 ↔ x = 0) := fun x hx => nI_eq_i (b := 0) (by omega) (by decide)
  have m144 : (tK b t q = 256 → 5 ≤ V 0 0) → (tK b t q = 257 → 5 ≤ V 0 1) → (tK b t q = 260 → 10 ≤ V 0 2) → (tK b t q = 262 → ¬ V 0 5 = 0) → (tK b t q = 263 → ¬ V 0 6 = 0) → RM G mX12_readLine 6 Q 144 [some (.ref 412)] [] S := by
    intro n1 n2 n3 n4 n5
    have bad : (tK b t q = 264 → ¬ V 0 7 = 0) → (∃ Q7, Ex G mX12_wrong 1 [.ref 412, .int 2] S Q7 ∧ ∀ (r9 : Int32) (S8 : ovS), Q7 r9 S8 → RM G mX12_readLine 6 Q 189 [some (.ref 412)] [] S8) := fun h => ⟨_, sp_wrong (c := 2) hb (by decide) (by decide) hM, fun r S1 g => out _ S1 (g.1.mono rfl rfl) g.2 (lnX_bad n1 n2 n3 n4 n5 h)⟩
    refine vX12_readLine_144 (iw 8 _ (by decide) rfl _ (fun r hr => ⟨fun z => bad (fun k => absurd k (hr.mp z)), fun z => ?_⟩))
    have k264 : tK b t q = 264 := Classical.not_not.mp (fun y => z (hr.mpr y))
    rw [hV.1.2.2.2.2.2.2.2.1, h01 _ hI.1.2.2.2.2.2.2.2]
    refine ⟨fun y => bad (fun _ => y), fun y S18 e18 => num 8 0 999 33 38 4 7 _ (by decide) rfl (by decide) k264 (by omega) ?_ S18 e18⟩
    rw [lnX, if_neg (by omega), if_neg (by omega), if_neg (by omega), if_neg (by omega), if_neg (by omega), if_pos k264, lnR, if_neg (fun x => x y)]
  have m76 : (tK b t q = 256 → 5 ≤ V 0 0) → (tK b t q = 257 → 5 ≤ V 0 1) → (tK b t q = 260 → 10 ≤ V 0 2) → RM G mX12_readLine 6 Q 76 [some (.ref 412)] [] S := by
    intro n1 n2 n3
    have heat : (tK b t q = 262 → ¬ V 0 5 = 0) → (∃ Q7, Ex G mX12_isWord 1 [.ref 412, .long 1751474548] S Q7 ∧ ∀ (r9 : Int32) (S8 : ovS), Q7 r9 S8 → ((r9 = 0 → RM G mX12_readLine 6 Q 144 [some (.ref 412)] [] S8) ∧ (¬ r9 = 0 → ((¬ (S8.1 412 37) = 0 → RM G mX12_readLine 6 Q 144 [some (.ref 412)] [] S8) ∧ ((S8.1 412 37) = 0 → (∀ S14 : ovS, S14 = stI S8 412 37 1 → (∃ Q15, Ex G mX12_told 4 [.ref 412, .long 1751474548, .int 0, .int 9] S14 Q15 ∧ ∀ (r17 : Int32) (S16 : ovS), Q15 r17 S16 → (∀ S20 : ovS, S20 = stI S16 412 32 r17 → RM G mX12_readLine 6 Q 189 [some (.ref 412)] [] S20)))))))) := by
      intro n4
      refine iw 7 _ (by decide) rfl _ (fun r hr => ⟨fun z => m144 n1 n2 n3 n4 (fun k => absurd k (hr.mp z)), fun z => ?_⟩)
      have k263 : tK b t q = 263 := Classical.not_not.mp (fun y => z (hr.mpr y))
      rw [hV.1.2.2.2.2.2.2.1, h01 _ hI.1.2.2.2.2.2.2.1]
      refine ⟨fun y => m144 n1 n2 n3 n4 (fun _ => y), fun y S14 e14 => num 7 0 9 32 37 3 6 _ (by decide) rfl (by decide) k263 (by omega) ?_ S14 e14⟩
      rw [lnX, if_neg (by omega), if_neg (by omega), if_neg (by omega), if_neg (by omega), if_pos k263, lnH, if_neg (fun x => x y)]
    refine vX12_readLine_76 (iw 6 _ (by decide) rfl _ (fun r hr => ⟨fun z => heat (fun k => absurd k (hr.mp z)), fun z => ?_⟩))
    have k262 : tK b t q = 262 := Classical.not_not.mp (fun y => z (hr.mpr y))
    rw [hV.1.2.2.2.2.2.1, h01 _ hI.1.2.2.2.2.2.1]
    refine ⟨fun y => heat (fun _ => y), fun y S36 e36 => ?_⟩
    have hF : FZ [] [36] S S36 := by rw [e36]; exact FZ.rf.sm rfl
    refine ⟨_, sp_mrLoaf hb ht hq (hM.fz hF rfl rfl) (by omega) (hV.num (j := 36) (r := 5) (v := 1) (by omega) e36) hI y, fun r39 S38 g => tail S36 S38 (hF.mono rfl rfl) ?_⟩
    rw [lnX, if_neg (by omega), if_neg (by omega), if_neg (by omega), if_pos k262]
    exact g
  have m25 : (tK b t q = 256 → 5 ≤ V 0 0) → RM G mX12_readLine 6 Q 25 [some (.ref 412)] [] S := by
    intro n1
    have hf10 := hI.1.2.2.1
    have hs5 := hI.1.2.1
    have feud : (tK b t q = 257 → 5 ≤ V 0 1) → (∃ Q7, Ex G mX12_isWord 1 [.ref 412, .long 1717925220] S Q7 ∧ ∀ (r9 : Int32) (S8 : ovS), Q7 r9 S8 → ((r9 = 0 → RM G mX12_readLine 6 Q 76 [some (.ref 412)] [] S8) ∧ (¬ r9 = 0 → ((10 ≤ (S8.1 412 31) → RM G mX12_readLine 6 Q 76 [some (.ref 412)] [] S8) ∧ (¬ 10 ≤ (S8.1 412 31) → (∃ Q14, Ex G mX12_readFeud 4 [.ref 412] S8 Q14 ∧ ∀ (r16 : Int32) (S15 : ovS), Q14 r16 S15 → RM G mX12_readLine 6 Q 189 [some (.ref 412)] [] S15)))))) := by
      intro n2
      refine iw 4 _ (by decide) rfl _ (fun r hr => ⟨fun z => m76 n1 n2 (fun k => absurd k (hr.mp z)), fun z => ?_⟩)
      have k260 : tK b t q = 260 := Classical.not_not.mp (fun y => z (hr.mpr y))
      rw [hV.1.2.2.1, show (10 : Int32) = nI 10 from rfl, nI_le_i (by decide) (by omega)]
      refine ⟨fun y => m76 n1 n2 (fun _ => y), fun y => ⟨_, sp_mrFeud hb hq hM (by omega) hV hI y, fun r16 S15 g => tail S S15 FZ.rf ?_⟩⟩
      rw [lnX, if_neg (by omega), if_neg (by omega), if_pos k260]
      exact g
    refine vX12_readLine_25 (iw 1 _ (by decide) rfl _ (fun r hr => ⟨fun z => feud (fun k => absurd k (hr.mp z)), fun z => ?_⟩))
    have k257 : tK b t q = 257 := Classical.not_not.mp (fun y => z (hr.mpr y))
    rw [hV.1.2.1, show (5 : Int32) = nI 5 from rfl, nI_le_i (by decide) (by omega)]
    refine ⟨fun y => feud (fun _ => y), fun y => ⟨_, sp_mrSoul hb hq hM (by omega) hV hI y, fun r34 S33 g => tail S S33 FZ.rf ?_⟩⟩
    rw [lnX, if_neg (by omega), if_pos k257]
    exact g
  have hd5 := hI.1.1
  refine eX12_readLine (vX12_readLine_0 (iw 0 _ (by decide) rfl _ (fun r hr => ⟨fun z => m25 (fun k => absurd k (hr.mp z)), fun z => ?_⟩)))
  have k256 : tK b t q = 256 := Classical.not_not.mp (fun y => z (hr.mpr y))
  rw [hV.1.1, show (5 : Int32) = nI 5 from rfl, nI_le_i (by decide) (by omega)]
  refine ⟨fun y => m25 (fun _ => y), fun y => ⟨_, sp_mrDeed hb hq hM (by omega) hV hI y, fun r10 S9 g => tail S S9 FZ.rf ?_⟩⟩
  rw [lnX, if_pos k256]
  exact g
abbrev Ja : List Nat := [1, 2, 3, 4, 5, 6, 7, 8, 9, 17, 19, 20, 22, 23, 29, 30, 31, 32, 33, 36, 37, 38]
theorem sp_readAll (hb : ∀ i, i < t → b i < 256) (ht : t ≤ 1600) (h1 : S.1 412 1 = nI t) (hT : ∀ i, i < t → S.1 413 i = nI (b i)) : Ex G mX12_readAll 7 [.ref 412] S (fun _ S1 => FZ Lz Ja S S1 ∧ S1.1 412 1 = 0 ∧ RDm S1 (lnA b t t V0 0)) := by
  have key : ∀ (f : Nat) (V : pV) (q : Nat) (S' : ovS), t ≤ q + f → q ≤ t → VI V → FZ Lz Ja S S' → S'.1 412 1 = 0 → MS b t q S' → MV S' V → RM G mX12_readAll 7 (fun _ S1 => FZ Lz Ja S S1 ∧ S1.1 412 1 = 0 ∧ RDm S1 (lnA b t f V q)) 82 [some (.ref 412)] [] S' := by
    intro f
    induction f with
    | zero =>
      intro V q S' hf hq hI hF a1 hM hV
      have k0 : tK b t q = 0 := tK_end (by omega)
      refine vX12_readAll_82 ⟨fun z => absurd hM.2.2 z, fun _ => ?_⟩
      rw [show (0 : Int32) = nI 0 from rfl, hM.so hb (by decide), so_eq (by decide) (by decide) (by decide)]
      refine ⟨fun _ => ⟨hF, a1, ?_⟩, fun z => absurd k0 z⟩
      rw [lnA]
      exact ⟨hM.2.2, hM.1.2, hV⟩
    | succ f ih =>
      intro V q S' hf hq hI hF a1 hM hV
      refine vX12_readAll_82 ⟨fun z => absurd hM.2.2 z, fun _ => ?_⟩
      rw [show (0 : Int32) = nI 0 from rfl, hM.so hb (by decide), so_eq (by decide) (by decide) (by decide)]
      refine ⟨fun z => ⟨hF, a1, ?_⟩, fun z => ⟨_, sp_readLine hb ht hq hM hV hI, fun r5 S4 g => ?_⟩⟩
      · rw [lnA, if_pos z]
        exact ⟨hM.2.2, hM.1.2, hV⟩
      · obtain ⟨g1, g2⟩ := g
        have hF4 : FZ Lz Ja S S4 := hF.tr (g1.mono rfl rfl)
        have a14 : S4.1 412 1 = 0 := by rw [g1.sl 1 rfl]; exact a1
        cases hX : lnX b t V q with
        | inl e =>
          rw [hX] at g2
          refine vX12_readAll_82 ⟨fun _ => ⟨hF4, a14, ?_⟩, fun y => absurd y (FLm.n0 g2)⟩
          rw [lnA_l z hX]
          exact g2
        | inr R =>
          obtain ⟨V1, q1⟩ := R
          rw [hX] at g2
          have hok := lnX_ok hq hI hX
          rw [lnA_r z hX]
          exact ih V1 q1 S4 (by omega) hok.2.2 hok.1 hF4 a14 g2.1 g2.2
  refine eX12_readAll (vX12_readAll_0 (fun S1 e1 S2 e2 S3 e3 S4 e4 S5 e5 S6 e6 S7 e7 S8 e8 S9 e9 S10 e10 S11 e11 S12 e12 S13 e13 S14 e14 S15 e15 => ?_))
  rw [h1] at e1
  have hs : ∀ j, S15.1 412 j = if j = 17 then 0 else if j = 20 then 0 else if j = 38 then 0 else if j = 37 then 0 else if j = 36 then 0 else if j = 33 then 0 else if j = 32 then 0 else if j = 31 then 0 else if j = 30 then 0 else if j = 29 then 0 else if j = 3 then -1 else if j = 2 then 0 else if j = 4 then 0 else if j = 1 then 0 else if j = 5 then nI t else S.1 412 j := fun j => by
    rw [e15, stI_1, if_pos rfl, e14, stI_1, if_pos rfl, e13, stI_1, if_pos rfl, e12, stI_1, if_pos rfl, e11, stI_1, if_pos rfl, e10, stI_1, if_pos rfl, e9, stI_1, if_pos rfl, e8, stI_1, if_pos rfl, e7, stI_1, if_pos rfl, e6, stI_1, if_pos rfl, e5, stI_1, if_pos rfl, e4, stI_1, if_pos rfl, e3, stI_1, if_pos rfl, e2, stI_1, if_pos rfl, e1, stI_1, if_pos rfl]
  have hF15 : FZ Lz Ja S S15 := by
    rw [e15, e14, e13, e12, e11, e10, e9, e8, e7, e6, e5, e4, e3, e2, e1]
    exact ((((((((((((((FZ.rf.sm rfl).sm rfl).sm rfl).sm rfl).sm rfl).sm rfl).sm rfl).sm rfl).sm rfl).sm rfl).sm rfl).sm rfl).sm rfl).sm rfl).sm rfl
  clear e1 e2 e3 e4 e5 e6 e7 e8 e9 e10 e11 e12 e13 e14 e15
  have hX : TXm b t S15 := ⟨ht, by rw [hs]; rfl, fun i hi => ⟨hb i hi, by rw [hF15.at 413 rfl]; exact hT i hi⟩⟩
  refine ⟨_, sp_token (q := 0) hX (Nat.zero_le _) (by rw [hs]; rfl), fun r18 S17 g => ?_⟩
  obtain ⟨g1, g2⟩ := g
  have sl : ∀ j, j ≠ 4 → j ≠ 6 → j ≠ 7 → j ≠ 8 → S17.1 412 j = S15.1 412 j := fun j a b c d => g1.2 j a b c d
  have hz : ∀ j, j ≠ 4 → j ≠ 6 → j ≠ 7 → j ≠ 8 → S15.1 412 j = 0 → S17.1 412 j = nI 0 := fun j a b c d h => by rw [sl j a b c d, h]; rfl
  refine key t V0 0 S17 (by omega) (Nat.zero_le _) VI_0 (hF15.tr (g1.z.mono rfl rfl)) ?_ ⟨⟨hX.fk g1, ?_⟩, g2, ?_⟩ ⟨⟨?_, ?_, ?_, ?_, ?_, ?_, ?_, ?_, ?_⟩, ⟨?_, fun i hi => absurd hi (by simp [V0])⟩, fun i hi => absurd hi (by simp [V0]), fun i hi => absurd hi (by simp [V0]), fun i hi => absurd hi (by simp [V0])⟩
  · rw [sl 1 (by decide) (by decide) (by decide) (by decide), hs]; rfl
  · rw [sl 3 (by decide) (by decide) (by decide) (by decide), hs]; rfl
  · rw [sl 2 (by decide) (by decide) (by decide) (by decide), hs]; rfl
  · exact hz 29 (by decide) (by decide) (by decide) (by decide) (by rw [hs]; rfl)
  · exact hz 30 (by decide) (by decide) (by decide) (by decide) (by rw [hs]; rfl)
  · exact hz 31 (by decide) (by decide) (by decide) (by decide) (by rw [hs]; rfl)
  · exact hz 32 (by decide) (by decide) (by decide) (by decide) (by rw [hs]; rfl)
  · exact hz 33 (by decide) (by decide) (by decide) (by decide) (by rw [hs]; rfl)
  · exact hz 36 (by decide) (by decide) (by decide) (by decide) (by rw [hs]; rfl)
  · exact hz 37 (by decide) (by decide) (by decide) (by decide) (by rw [hs]; rfl)
  · exact hz 38 (by decide) (by decide) (by decide) (by decide) (by rw [hs]; rfl)
  · exact hz 20 (by decide) (by decide) (by decide) (by decide) (by rw [hs]; rfl)
  · exact hz 17 (by decide) (by decide) (by decide) (by decide) (by rw [hs]; rfl)
end
