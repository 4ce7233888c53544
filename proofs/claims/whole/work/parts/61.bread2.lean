/-! ===== bread, the reference ===== -/
theorem up6 (R : Nat → Int32) {i j : Nat} (a b c d : Int32) (hi : i < 5) (hj : j < 5) (R' : Nat → Int32) (e : R' = upd (upd (upd (upd (upd (upd R (25 + i) a) (30 + i) b) (20 + i) c) (15 + i) d) i 0) (5 + i) (-1)) : (R' j = if j = i then 0 else R j) ∧ (R' (5 + j) = if j = i then -1 else R (5 + j)) ∧ R' (10 + j) = R (10 + j) ∧ (R' (15 + j) = if j = i then d else R (15 + j)) ∧ (R' (20 + j) = if j = i then c else R (20 + j)) ∧ (R' (25 + j) = if j = i then a else R (25 + j)) ∧ (R' (30 + j) = if j = i then b else R (30 + j)) ∧ R' 35 = R 35 ∧ R' 36 = R 36 ∧ R' 37 = R 37 := by
  subst e
  by_cases h : j = i
  · subst h
    simp (disch := omega) only [upd, if_neg, if_pos, and_self]
  · simp (disch := omega) only [upd, if_neg, if_pos, and_self]
theorem omin_s : ∀ j, j < 100 → (99 ≤ nI j → omin 99 (nI j + 1) = nI j) ∧ (¬ 99 ≤ nI j → omin 99 (nI j + 1) = nI j + 1) := by decide +kernel
theorem omin_r : ∀ j, j < 100 → omin 99 (nI j + 1) = nI (if j < 99 then j + 1 else 99) := by decide +kernel
theorem sr5b : ∀ F, F < 32 → ∀ b, b < 5 → (nI F >>> (nI b &&& 31)) &&& 1 = bI (F.testBit b) := by decide +kernel
def wkM (C S' : ovS) (i : Nat) : Prop := (∀ j, j < 5 → S'.1 426 j = if j < i then 0 else C.1 25 j) ∧ (∀ j, j < 5 → S'.1 426 (5 + j) = if j < i then -1 else C.1 26 j) ∧ (∀ j, j < 5 → S'.1 426 (10 + j) = C.1 29 j) ∧ (∀ j, j < 5 → S'.1 426 (15 + j) = if j < i then omin 99 (C.1 27 j + 1) else C.1 27 j) ∧ (∀ j, j < 5 → S'.1 426 (20 + j) = if j < i then gLo C j (gSd (C.1 26)) else C.1 28 j) ∧ (∀ j, j < 5 → S'.1 426 (25 + j) = if j < i then C.1 30 j + bI (fdF C (C.1 26) j) else C.1 30 j) ∧ (∀ j, j < 5 → S'.1 426 (30 + j) = if j < i then C.1 31 j + bI (shF (C.1 26) j) else C.1 31 j)
theorem if_lt1 {α : Type} {i j : Nat} (a b : α) : (if j < i + 1 then a else b) = if j = i then a else if j < i then a else b := by
  by_cases h : j = i
  · rw [if_pos h, if_pos (by omega)]
  · rw [if_neg h]
    by_cases h2 : j < i
    · rw [if_pos h2, if_pos (by omega)]
    · rw [if_neg h2, if_neg (by omega)]
section
variable {G : ovG} {C S : ovS} {n m : Nat}
theorem sp_mBread {u : Nat} (hM : MXg C S n) (h36 : S.1 426 36 = C.1 24 8) (h37 : S.1 426 37 = C.1 24 9) (hw : ¬ C.1 24 9 = 999) (hst : ∀ i, i < 5 → ∃ j, j ≤ 99 ∧ C.1 27 i = nI j) (h45 : S.1 412 45 = nI u) (hu : u ≤ 40) : Ex G mX12_bread 7 [.ref 412] S (fun r S17 => r = nI (mk (fdF C (C.1 26)) n) ∧ ∃ S16, actQ u S S16 ∧ FJ E7 [] S16 S17 ∧ wkM C S17 n ∧ S17.1 426 36 = orem (C.1 24 8 * 137 + 71) 1000 ∧ S17.1 426 35 = orem (orem (C.1 24 8 * 137 + 71) 1000) 10 ∧ S17.1 426 37 = C.1 24 9 + 1) := by
  have hn := hM.n5
  obtain ⟨Q, hQ⟩ : ∃ Q : Int32 → ovS → Prop, Q = (fun r S17 => r = nI (mk (fdF C (C.1 26)) n) ∧ ∃ S16, actQ u S S16 ∧ FJ E7 [] S16 S17 ∧ wkM C S17 n ∧ S17.1 426 36 = orem (C.1 24 8 * 137 + 71) 1000 ∧ S17.1 426 35 = orem (orem (C.1 24 8 * 137 + 71) 1000) 10 ∧ S17.1 426 37 = C.1 24 9 + 1) := ⟨_, rfl⟩
  rw [← hQ]
  have hlt : mk (fdF C (C.1 26)) n < 32 := Nat.lt_of_lt_of_le (mk_lt _ _) (pow5 hn)
  have hV := hM.2.2.2.2.2.1
  have key : ∀ S16, actQ u S S16 → ∀ d i : Nat, ∀ S' : ovS, i + d = n → S'.1 412 35 = nI n → FJ E7 [] S16 S' → SY S' n (C.1 26) → (∀ i, i < n → S'.1 428 i = gLo C i (gSd (C.1 26))) → wkM C S' i → S'.1 426 36 = C.1 24 8 → S'.1 426 37 = C.1 24 9 → RM G mX12_bread 7 Q 30 [some (.ref 412), some (.int (nI (mk (fdF C (C.1 26)) n))), some (.int (nI i))] [] S' := by
    intro S16 hact d
    induction d with
    | zero =>
      intro i S' hi h35 hF hS hG hC g36 g37
      have : i = n := by omega
      subst this
      refine vX12_bread_30 ⟨fun _ S2 e2 S3 e3 S4 e4 => ?_, fun c => absurd (by rw [h35]; exact Int32.le_refl _) c⟩
      rw [g36] at e2
      have f2 : S2.1 426 36 = orem (C.1 24 8 * 137 + 71) 1000 := by rw [e2, stI_1]; rfl
      rw [f2] at e3
      have f3 : S3.1 426 37 = C.1 24 9 := by rw [e3, stI_1, if_pos rfl, if_neg (by decide), e2, stI_1, if_pos rfl, if_neg (by decide)]; exact g37
      rw [f3] at e4
      have lo : ∀ k, k < 35 → S4.1 426 k = S'.1 426 k := by
        intro k hk
        rw [e4, stI_1, if_pos rfl, if_neg (by omega), e3, stI_1, if_pos rfl, if_neg (by omega), e2, stI_1, if_pos rfl, if_neg (by omega)]
      rw [hQ]
      refine ⟨rfl, S16, hact, ?_, ?_, ?_, ?_, ?_⟩
      · rw [e4, e3, e2]
        exact ((hF.st rfl rfl).st rfl rfl).st rfl rfl
      · obtain ⟨c1, c2, c3, c4, c5, c6, c7⟩ := hC
        exact ⟨fun j hj => by rw [lo _ (by omega)]; exact c1 j hj, fun j hj => by rw [lo _ (by omega)]; exact c2 j hj, fun j hj => by rw [lo _ (by omega)]; exact c3 j hj, fun j hj => by rw [lo _ (by omega)]; exact c4 j hj, fun j hj => by rw [lo _ (by omega)]; exact c5 j hj, fun j hj => by rw [lo _ (by omega)]; exact c6 j hj, fun j hj => by rw [lo _ (by omega)]; exact c7 j hj⟩
      · rw [e4, stI_1, if_pos rfl, if_neg (by decide), e3, stI_1, if_pos rfl, if_neg (by decide)]; exact f2
      · rw [e4, stI_1, if_pos rfl, if_neg (by decide), e3, stI_1]; rfl
      · rw [e4, stI_1]; rfl
    | succ d ih =>
      intro i S' hi h35 hF hS hG hC g36 g37
      have hi' : i < n := by omega
      obtain ⟨c1, c2, c3, c4, c5, c6, c7⟩ := hC
      have i5 : vp_in (nI i) 5 := vp_in_nI (by omega) (by decide)
      have i40 : vp_in (nI i) 40 := vp_in_nI (by omega) (by decide)
      have p5 : vp_in ((5 : Int32) + nI i) 40 := in_add (a := 5) (by omega) (by decide)
      have p15 : vp_in ((15 : Int32) + nI i) 40 := in_add (a := 15) (by omega) (by decide)
      have p20 : vp_in ((20 : Int32) + nI i) 40 := in_add (a := 20) (by omega) (by decide)
      have p25 : vp_in ((25 : Int32) + nI i) 40 := in_add (a := 25) (by omega) (by decide)
      have p30 : vp_in ((30 : Int32) + nI i) 40 := in_add (a := 30) (by omega) (by decide)
      have x0 : (nI i).toNatClampNeg = i := nI_ix (by omega)
      have x5 : ((5 : Int32) + nI i).toNatClampNeg = 5 + i := ix_add (a := 5) (by omega)
      have x15 : ((15 : Int32) + nI i).toNatClampNeg = 15 + i := ix_add (a := 15) (by omega)
      have x20 : ((20 : Int32) + nI i).toNatClampNeg = 20 + i := ix_add (a := 20) (by omega)
      have x25 : ((25 : Int32) + nI i).toNatClampNeg = 25 + i := ix_add (a := 25) (by omega)
      have x30 : ((30 : Int32) + nI i).toNatClampNeg = 30 + i := ix_add (a := 30) (by omega)
      have hb : (mk (fdF C (C.1 26)) n).testBit i = fdF C (C.1 26) i := by rw [mk_bit, decide_eq_true hi', Bool.true_and]
      obtain ⟨st, hst1, hst2⟩ := hst i (by omega)
      have o27 : S'.1 426 (15 + i) = nI st := by rw [c4 i (by omega), if_neg (by omega), hst2]
      have o25 : S'.1 426 (25 + i) = C.1 30 i := by rw [c6 i (by omega), if_neg (by omega)]
      have o30 : S'.1 426 (30 + i) = C.1 31 i := by rw [c7 i (by omega), if_neg (by omega)]
      -- the end of the round
      have fin : ∀ S'' : ovS, FJ E7 [] S16 S'' → (∀ k, k ≠ 426 → S''.1 k = S'.1 k) → S''.1 426 = upd (upd (upd (upd (upd (upd (S'.1 426) (25 + i) (C.1 30 i + bI (fdF C (C.1 26) i))) (30 + i) (C.1 31 i + bI (shF (C.1 26) i))) (20 + i) (gLo C i (gSd (C.1 26)))) (15 + i) (omin 99 (nI st + 1))) i 0) (5 + i) (-1) → RM G mX12_bread 7 Q 30 [some (.ref 412), some (.int (nI (mk (fdF C (C.1 26)) n))), some (.int (nI i + 1))] [] S'' := by
        intro S'' hF2 hk e
        have u := fun j hj => up6 (S'.1 426) (j := j) (C.1 30 i + bI (fdF C (C.1 26) i)) (C.1 31 i + bI (shF (C.1 26) i)) (gLo C i (gSd (C.1 26))) (omin 99 (nI st + 1)) (show i < 5 by omega) hj (S''.1 426) e
        have hh := ih (i + 1) S'' (by omega) (by rw [hk 412 (by decide)]; exact h35) hF2 (fun j hj => by rw [hk 427 (by decide)]; exact hS j hj) (fun j hj => by rw [hk 428 (by decide)]; exact hG j hj) ⟨fun j hj => ?_, fun j hj => ?_, fun j hj => ?_, fun j hj => ?_, fun j hj => ?_, fun j hj => ?_, fun j hj => ?_⟩ (by rw [(u 0 (by decide)).2.2.2.2.2.2.2.2.1]; exact g36) (by rw [(u 0 (by decide)).2.2.2.2.2.2.2.2.2]; exact g37)
        · rw [nI_succ i] at hh
          exact hh
        · rw [(u j hj).1, if_lt1, c1 j hj]
        · rw [(u j hj).2.1, if_lt1, c2 j hj]
        · rw [(u j hj).2.2.1]; exact c3 j hj
        · rw [(u j hj).2.2.2.1, if_lt1, c4 j hj]
          by_cases h : j = i
          · rw [if_pos h, if_pos h, h, hst2]
          · rw [if_neg h, if_neg h]
        · rw [(u j hj).2.2.2.2.1, if_lt1, c5 j hj]
          by_cases h : j = i
          · rw [if_pos h, if_pos h, h]
          · rw [if_neg h, if_neg h]
        · rw [(u j hj).2.2.2.2.2.1, if_lt1, c6 j hj]
          by_cases h : j = i
          · rw [if_pos h, if_pos h, h]
          · rw [if_neg h, if_neg h]
        · rw [(u j hj).2.2.2.2.2.2.1, if_lt1, c7 j hj]
          by_cases h : j = i
          · rw [if_pos h, if_pos h, h]
          · rw [if_neg h, if_neg h]
      refine vX12_bread_30 ⟨fun c => absurd c (nI_next h35 (by omega) hi'), fun _ => ⟨p25, p25, fun S5 e5 => ⟨p30, i5, ?_⟩⟩⟩
      rw [x25, sr5b _ hlt i (by omega), hb, o25] at e5
      have f5 : ∀ k, k ≠ 426 → S5.1 k = S'.1 k := fun k hk => by rw [e5, stI_row hk]
      have r5 : S5.1 426 = upd (S'.1 426) (25 + i) (C.1 30 i + bI (fdF C (C.1 26) i)) := by rw [e5, stI_self]
      have a30 : S5.1 426 (30 + i) = C.1 31 i := by rw [r5]; simp only [upd, if_neg (show ¬ 30 + i = 25 + i by omega)]; exact o30
      have hneg := nm_neg ((hV i (by omega)).1 hi') hn
      have tail : ∀ b, b = bI (shF (C.1 26) i) → ∀ S12, S12 = stI S5 426 (30 + i) (C.1 31 i + b) → (vp_in (nI i) 5 ∧ (vp_in (20 + nI i) 40 ∧ (∀ S13 : ovS, S13 = stI S12 426 (20 + i) (S12.1 428 i) → (vp_in (15 + nI i) 40 ∧ ((99 ≤ (S13.1 426 (15 + i)) → (vp_in (nI i) 40 ∧ (∀ S15 : ovS, S15 = stI S13 426 i 0 → (vp_in (5 + nI i) 40 ∧ (∀ S16 : ovS, S16 = stI S15 426 (5 + i) (-1) → RM G mX12_bread 7 Q 30 [some (.ref 412), some (.int (nI (mk (fdF C (C.1 26)) n))), some (.int (nI i + 1))] [] S16))))) ∧ (¬ 99 ≤ (S13.1 426 (15 + i)) → (vp_in (15 + nI i) 40 ∧ (vp_in (15 + nI i) 40 ∧ (∀ S17 : ovS, S17 = stI S13 426 (15 + i) ((S13.1 426 (15 + i)) + 1) → (vp_in (nI i) 40 ∧ (∀ S18 : ovS, S18 = stI S17 426 i 0 → (vp_in (5 + nI i) 40 ∧ (∀ S19 : ovS, S19 = stI S18 426 (5 + i) (-1) → RM G mX12_bread 7 Q 30 [some (.ref 412), some (.int (nI (mk (fdF C (C.1 26)) n))), some (.int (nI i + 1))] [] S19))))))))))))) := by
        intro b hbb S12 e12
        refine ⟨i5, p20, fun S13 e13 => ⟨p15, ?_⟩⟩
        have v12 : S12.1 428 i = gLo C i (gSd (C.1 26)) := by rw [e12, stI_row (by decide), f5 428 (by decide)]; exact hG i hi'
        rw [v12] at e13
        have r13 : S13.1 426 = upd (upd (upd (S'.1 426) (25 + i) (C.1 30 i + bI (fdF C (C.1 26) i))) (30 + i) (C.1 31 i + bI (shF (C.1 26) i))) (20 + i) (gLo C i (gSd (C.1 26))) := by rw [e13, stI_self, e12, stI_self, r5, hbb]
        have f13 : ∀ k, k ≠ 426 → S13.1 k = S'.1 k := fun k hk => by rw [e13, stI_row hk, e12, stI_row hk, f5 k hk]
        have F13 : FJ E7 [] S16 S13 := by
          rw [e13, e12, e5]
          exact ((hF.st rfl rfl).st rfl rfl).st rfl rfl
        have v13 : S13.1 426 (15 + i) = nI st := by
          rw [r13]
          simp (disch := omega) only [upd, if_neg]
          exact o27
        rw [v13]
        refine ⟨fun c => ⟨i40, fun S15 e15 => ⟨p5, fun S16' e16 => ?_⟩⟩, fun c => ⟨p15, p15, fun S17 e17 => ⟨i40, fun S18 e18 => ⟨p5, fun S19 e19 => ?_⟩⟩⟩⟩
        · refine fin S16' (by rw [e16, e15]; exact (F13.st rfl rfl).st rfl rfl) (fun k hk => by rw [e16, stI_row hk, e15, stI_row hk, f13 k hk]) ?_
          have em : omin 99 (nI st + 1) = S13.1 426 (15 + i) := by rw [v13]; exact (omin_s st (by omega)).1 c
          rw [e16, stI_self, e15, stI_self, em, ← r13, fa_upd_same rfl]
        · refine fin S19 (by rw [e19, e18, e17]; exact ((F13.st rfl rfl).st rfl rfl).st rfl rfl) (fun k hk => by rw [e19, stI_row hk, e18, stI_row hk, e17, stI_row hk, f13 k hk]) ?_
          rw [e19, stI_self, e18, stI_self, e17, stI_self, (omin_s st (by omega)).2 c, r13]
      rw [x0, f5 427 (by decide), hS i hi', hneg, x30, a30, x20, x15, x5]
      refine ⟨fun c => ⟨_, tr0, fun r9 S8 q => ?_⟩, fun c => ⟨i5, fun e => ⟨_, tr0, fun r9 S8 q => ?_⟩, fun e => ⟨_, tr1, fun r9 S8 q => ?_⟩⟩⟩
      · obtain ⟨q1, q2⟩ := q
        subst q1 q2
        exact ⟨p30, fun S12 e12 => tail 0 (by simp [shF, c, bI]) S12 e12⟩
      · obtain ⟨q1, q2⟩ := q
        subst q1 q2
        exact ⟨p30, fun S12 e12 => tail 0 (by simp [shF, e, bI]) S12 e12⟩
      · obtain ⟨q1, q2⟩ := q
        subst q1 q2
        exact ⟨p30, fun S12 e12 => tail 1 (by simp [shF, c, e, bI]) S12 e12⟩
  refine eX12_bread (vX12_bread_0 ?_)
  rw [h37]
  refine ⟨fun _ => ⟨_, sp_act h45 hu, fun r4 S3 q => ?_⟩, fun c => absurd c hw⟩
  have hact : actQ u S S3 := q
  have hM3 : MXg C S3 n := by
    obtain ⟨a1, a2, ⟨fl, a3⟩, a4, a5, a6, a7, a8⟩ := hM
    have k3 : ∀ k, k ≠ 430 → k ≠ 412 → S3.1 k = S.1 k := fun k h1 h2 => q.1.1 k (by simp [h1]) h2
    refine ⟨a1, by rw [q.1.2.1 35 rfl]; exact a2, ⟨fl, ?_⟩, ?_, a5, a6, ?_, ?_⟩
    · unfold FR at a3 ⊢
      rw [k3 20 (by decide) (by decide), k3 21 (by decide) (by decide), k3 22 (by decide) (by decide), k3 417 (by decide) (by decide), k3 418 (by decide) (by decide), q.1.2.1 18 rfl, q.1.2.1 39 rfl]
      exact a3
    · unfold NWg at a4 ⊢
      rw [k3 426 (by decide) (by decide)]
      exact a4
    · rw [k3 425 (by decide) (by decide)]
      exact a7
    · rw [LF_sm' (k3 20 (by decide) (by decide)) (k3 21 (by decide) (by decide)) (k3 22 (by decide) (by decide))]
      exact a8
  refine ⟨_, sp_layNowG hM3, fun r9 S8 p => ?_⟩
  obtain ⟨p1, p2, p3, p4⟩ := p
  have hM8 : MXg C S8 n := hM3.fm (FM.of p4 rfl)
  refine ⟨_, sp_fedSetG hM8 p3, fun r14 S13 o => ?_⟩
  obtain ⟨o1, o2⟩ := o
  subst o1 o2
  have n8 := hM8.2.2.2.1
  have e426 : S13.1 426 = S.1 426 := by rw [p4.at 426 rfl, q.1.1 426 rfl (by decide)]
  refine key S3 hact n 0 S13 (by omega) hM8.2.1 (FJ.of p4 rfl) p1 p2 ⟨fun j hj => ?_, fun j hj => ?_, fun j hj => ?_, fun j hj => ?_, fun j hj => ?_, fun j hj => ?_, fun j hj => ?_⟩ (by rw [e426]; exact h36) (by rw [e426]; exact h37)
  · rw [if_neg (by omega)]; exact n8.1 j hj
  · rw [if_neg (by omega)]; exact n8.2.1 j hj
  · exact n8.2.2.1 j hj
  · rw [if_neg (by omega)]; exact n8.2.2.2.1 j hj
  · rw [if_neg (by omega)]; exact n8.2.2.2.2.1 j hj
  · rw [if_neg (by omega)]; exact n8.2.2.2.2.2.1 j hj
  · rw [if_neg (by omega)]; exact n8.2.2.2.2.2.2.1 j hj
theorem pb_bread (hI : IC S n m) (hL : Ly S n) : PB G mX11_bread 8 [.ref 0] mX12_bread 7 [.ref 412] S := by
  have hn := hI.n5
  obtain ⟨w1, w2, w3, ⟨w, hw, ew⟩, w5⟩ := hI.2.2.2.2.1
  have e9 : S.1 24 9 = nI w := by rw [← ew]; exact (sr_h (o := 24) (i := 9) (by omega) (by omega)).symm
  have hNo := nH hI
  have n9 : S.1 426 37 = S.1 24 9 := hI.1.2.2.2.1.2.2.2.2.2.2.2.2.2
  by_cases hx : w = 999
  · refine eX11_bread (vX11_bread_0 ⟨fun c => ?_, fun _ => eX12_bread (vX12_bread_0 ⟨fun c => ?_, fun _ => ⟨rfl, n, m, hI, hL⟩⟩)⟩)
    · rw [e9, hx] at c
      exact absurd c (by decide)
    · rw [n9, e9, hx] at c
      exact absurd rfl c
  obtain ⟨a, u, r, hH⟩ := hI.2.2.2.2.2.1
  obtain ⟨g1, g2, g3, g4, g5, g6, g7, _⟩ := id hH
  have hlt : S.1 24 9 < 999 := by
    rw [e9]
    exact (nI_lt_i (b := 999) (by omega) (by decide)).mpr (by omega)
  have hne : ¬ S.1 24 9 = 999 := by
    rw [e9]
    intro z
    exact hx ((nI_eq_i (b := 999) (by omega) (by decide)).mp z)
  refine Ex.imp (sp_cBread hI hlt g3 g1 g4 (by omega)) (fun r1 S15 q => ?_)
  obtain ⟨q0, S13, qF, qC, qE, z1, z2, z3, z4, z5⟩ := q
  have hb : (a + 1) % 41 < 41 := Nat.mod_lt _ (by decide)
  have k15 : ∀ k, k ≠ 32 → k < 34 ∨ 362 ≤ k → S15.1 k = S13.1 k := fun k h1 h2 => z2.at (by simp [h1]) (by omega)
  have k13 : ∀ k, ([23, 24, 25, 26, 27, 28, 30, 31, 364, 365, 366, 367, 368] : List Nat).contains k = false → k ≠ 32 → k < 34 ∨ 362 ≤ k → S15.1 k = S.1 k := fun k h0 h1 h2 => by rw [k15 k h1 h2]; exact qF.1 k h0
  have st5 : ∀ i, i < 5 → ∃ j, j ≤ 99 ∧ S.1 27 i = nI j := fun i hi => by
    have := w3 i hi
    rw [sr_d hi] at this
    exact this
  have hMg : MXg S S15 n := by
    obtain ⟨m1, m2, ⟨fl, m3⟩, m4, m5, m6, m7⟩ := hI.1
    refine ⟨hn, by rw [k13 412 rfl (by decide) (by omega)]; exact m2, ⟨fl, ?_⟩, ?_, m5, m6, ?_, LF_sm' (k13 20 rfl (by decide) (by omega)) (k13 21 rfl (by decide) (by omega)) (k13 22 rfl (by decide) (by omega))⟩
    · unfold FR at m3 ⊢
      rw [k13 20 rfl (by decide) (by omega), k13 21 rfl (by decide) (by omega), k13 22 rfl (by decide) (by omega), k13 417 rfl (by decide) (by omega), k13 418 rfl (by decide) (by omega), k13 412 rfl (by decide) (by omega)]
      exact m3
    · unfold NWg
      rw [k13 426 rfl (by decide) (by omega)]
      exact ⟨m4.1, m4.2.1, m4.2.2.1, m4.2.2.2.1, m4.2.2.2.2.1, m4.2.2.2.2.2.1, m4.2.2.2.2.2.2.1, m4.2.2.2.2.2.2.2.1⟩
    · rw [k13 425 rfl (by decide) (by omega)]
      exact m7
  refine Ex.imp (sp_mBread (u := u) hMg (by rw [k13 426 rfl (by decide) (by omega)]; exact hI.1.2.2.2.1.2.2.2.2.2.2.2.2.1) (by rw [k13 426 rfl (by decide) (by omega)]; exact n9) hne st5 (by rw [k13 412 rfl (by decide) (by omega)]; exact g6) (by omega)) (fun r2 S17 p => ?_)
  obtain ⟨p0, S16, pA, pF, pC, p36, p35, p37⟩ := p
  refine ⟨by rw [p0, q0], ?_⟩
  have lst : ∀ k, k < 24 ∨ 32 ≤ k → SCr.contains k = false → ([23, 24, 25, 26, 27, 28, 30, 31, 364, 365, 366, 367, 368] : List Nat).contains k = false := by
    intro k h1 h2
    have hh : ∀ k, k ∈ ([23, 24, 25, 26, 27, 28, 30, 31, 364, 365, 366, 367, 368] : List Nat) → (24 ≤ k ∧ k < 32) ∨ SCr.contains k = true := by decide +kernel
    cases hc : ([23, 24, 25, 26, 27, 28, 30, 31, 364, 365, 366, 367, 368] : List Nat).contains k with
    | false => rfl
    | true =>
      rcases hh k (by simpa using hc) with z | z
      · omega
      · rw [h2] at z; cases z
  refine IC.actd hI hL hH (fun k h1 h2 => qF.1 k (lst k h1 h2)) (qF.at 376 rfl) (qF.at 412 rfl) ⟨by rw [qF.at 369 rfl], qF.at 370 rfl, qF.at 431 rfl⟩ z1 z2 z3 z4 z5 pA pF ?_ ?_
  · refine k38 (fun i hi => ?_) (fun i hi => ?_) (fun i hi => ?_) (fun i hi => ?_) (fun i hi => ?_) (fun i hi => ?_) (fun i hi => ?_) (fun i h1 h2 => ?_)
    · rw [sr_a hi, pC.1 i hi, qE.1 i hi]
      split
      · rfl
      · have := w5 i (by omega) hi
        rw [sr_a hi] at this
        exact this
    · rw [sr_b hi, pC.2.1 i hi, qE.2.1 i hi]
      split
      · rfl
      · exact (hI.vn i hi).2 (by omega)
    · rw [sr_c hi, pC.2.2.1 i hi, qF.at 29 rfl]
    · rw [sr_d hi, pC.2.2.2.1 i hi, qC.1 i hi]
    · rw [sr_e hi, pC.2.2.2.2.1 i hi, qC.2.1 i hi]
    · rw [sr_f hi, pC.2.2.2.2.2.1 i hi, qC.2.2.1 i hi]
    · rw [sr_g hi, pC.2.2.2.2.2.2 i hi, qC.2.2.2 i hi]
    · rw [sr_h h1 h2]
      have : i = 7 ∨ i = 8 ∨ i = 9 := by omega
      rcases this with rfl | rfl | rfl
      · rw [qE.2.2.2.1]; exact p35
      · rw [qE.2.2.1]; exact p36
      · rw [qE.2.2.2.2]; exact p37
  · refine ⟨fun i hi => ?_, w2.cg (fun i hi => ?_), fun i hi => ?_, ⟨w + 1, by omega, ?_⟩, fun i h1 hi => ?_⟩
    · show (i < n → isNm n (srow S13 24 (5 + i))) ∧ (n ≤ i → srow S13 24 (5 + i) = -1)
      rw [sr_b hi, qE.2.1 i hi]
      exact ⟨fun _ => Or.inl rfl, fun _ => rfl⟩
    · rw [sr_c hi, sr_c hi, qF.at 29 rfl]
    · rw [sr_d hi, qC.1 i hi]
      obtain ⟨j, hj, ej⟩ := st5 i hi
      rw [ej]
      split
      · rw [omin_r j (by omega)]
        exact ⟨_, by split <;> omega, rfl⟩
      · exact ⟨j, hj, rfl⟩
    · rw [show (37 : Nat) = 28 + 9 by decide, sr_h (by omega) (by omega), qE.2.2.2.2, e9, nI_1]
    · rw [sr_a hi]; exact qE.1 i hi
end
