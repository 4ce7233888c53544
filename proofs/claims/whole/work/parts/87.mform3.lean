/-! ===== the reference reads an e: unit ===== -/
section
variable {G : ovG} {S : ovS} {b : Nat → Nat} {t q : Nat} {V : pV} {wl : List Nat} {U : Nat}
theorem sp_hasBracket (hm : ∀ s, s ∈ wl → 6 ≤ s ∧ s ≤ 17) (hl : wl.length ≤ 40) (hW : MW S V wl) : Ex G mX12_hasBracket 1 [.ref 412] S (fun r S1 => r = bI (decide (¬ cB wl = 0)) ∧ S1 = S) := by
  have h19 := hW.2.2.2.1
  have hB := hW.2.2.2.2.2.br hm
  have eA : bI (decide (¬ cB wl = 0)) = bI (anyN wl.length (fun i => decide (S.1 419 i = 20))) := by
    congr 1
    rw [Bool.eq_iff_iff, decide_eq_true_eq, hB, anyN_iff]
    constructor
    · intro z
      apply Classical.byContradiction
      intro y
      apply z
      intro i hi x
      exact y ⟨i, hi, decide_eq_true x⟩
    · rintro ⟨i, hi, x⟩ z
      exact z i hi (by simpa using x)
  rw [eA]
  refine eX12_hasBracket (vX12_hasBracket_0 (loopUp (n := wl.length) (P := fun i => RM G mX12_hasBracket 1 _ 4 [some (.ref 412), some (.int (bI (anyN i (fun i => decide (S.1 419 i = 20))))), some (.int (nI i))] [] S) ?_ ?_ 0 (by omega)))
  · exact vX12_hasBracket_4 ⟨fun _ => ⟨b01 _, rfl, rfl⟩, fun z => absurd (by rw [h19]; exact Int32.le_refl _) z⟩
  · intro i hi ih
    rw [nI_succ i, anyN] at ih
    refine vX12_hasBracket_4 ⟨fun z => absurd z (nI_next h19 (by omega) hi), fun _ => ?_⟩
    cases hc : anyN i (fun i => decide (S.1 419 i = 20)) with
    | true =>
      rw [hc] at ih
      exact ⟨fun _ => ih, fun z => absurd z (by decide)⟩
    | false =>
      rw [hc, Bool.false_or] at ih
      refine ⟨fun z => absurd rfl z, fun _ => ⟨vp_in_nI (by omega) (by decide), ?_⟩⟩
      rw [nI_ix (n := i) (by omega)]
      refine ⟨fun z => ?_, fun z => ?_⟩
      · rw [decide_eq_false z] at ih
        exact ih
      · rw [decide_eq_true z] at ih
        exact ih
/-- the names of the DEEDS -/
def DNm (S : ovS) (V : pV) : Prop := S.1 412 29 = nI (V 0 0) ∧ V 0 0 ≤ 5 ∧ (∀ i, i < V 0 0 → S.2 414 (0 + i) = lN (V 1 i) ∧ V 1 i < 2 ^ 64) ∧ ∀ i j, i < j → j < V 0 0 → ¬ V 1 i = V 1 j
theorem DNm.fz {L J : List Nat} {S1 : ovS} {V1 : pV} (h : DNm S V) (hF : FZ L J S S1) (hL : L.contains 414 = false) (hJ : J.contains 29 = false) (hV : fKp V V1) : DNm S1 V1 := by
  unfold DNm
  rw [hF.sl 29 hJ, hF.al 414 (by rw [hL]; rfl), hV.1 1 (by decide) (by decide) (by decide), hV.2 0 (by decide) (by decide)]
  exact h
def asV (b : Nat → Nat) (t : Nat) (V : pV) (q : Nat) : Int32 := if tK b t q = 268 then 5 else if tK b t q = 269 then 6 else if tK b t q = 263 then 7 else if tK b t q = 270 then 8 else if tK b t q = 3 then (if fndI (V 1) (tW b t q) (V 0 0) < V 0 0 then nI (fndI (V 1) (tW b t q) (V 0 0)) else 9) else -1
theorem sp_asked (hb : ∀ i, i < t → b i < 256) (hq : q ≤ t) (hM : MS b t q S) (hD : DNm S V) : Ex G mX12_asked 2 [.ref 412] S (fun r S1 => r = asV b t V q ∧ S1 = S) := by
  refine eX12_asked (vX12_asked_0 ?_)
  rw [show (1 : Int32) = nI 1 from rfl, hM.so hb (by decide), so_1]
  refine ⟨fun z => ?_, fun z => ⟨?_, rfl⟩⟩
  · have eq : ∀ j, j < 15 → ∀ w : Int64, w = lN (kwN.getD j 0) → (lg_cmp (S.2 412 9) w = 0 ↔ tK b t q = 256 + j) := fun j hj w hw => by
      rw [lg_cmp_eq, hM.2.1.2.2.2.2 z, hw, lN_inj (tW_lt hb hq z) (kwN_lt j hj), kw_b hj hb z]
    refine ⟨fun z1 => ⟨fun z2 => ⟨fun z3 => ⟨fun z4 => ⟨_, sp_isOwn hb hq hM z, fun r8 S7 g => ?_⟩, fun y => ⟨?_, rfl⟩⟩, fun y => ⟨?_, rfl⟩⟩, fun y => ⟨?_, rfl⟩⟩, fun y => ⟨?_, rfl⟩⟩
    · obtain ⟨g1, g2⟩ := g
      subst g2
      have y1 : ¬ tK b t q = 268 := fun y => z1 ((eq 12 (by decide) _ rfl).mpr y)
      have y2 : ¬ tK b t q = 269 := fun y => z2 ((eq 13 (by decide) _ rfl).mpr y)
      have y3 : ¬ tK b t q = 263 := fun y => z3 ((eq 7 (by decide) _ rfl).mpr y)
      have y4 : ¬ tK b t q = 270 := fun y => z4 ((eq 14 (by decide) _ rfl).mpr y)
      rw [g1, bI_0, decide_eq_false_iff_not]
      refine ⟨fun x => ?_, fun x => ⟨?_, rfl⟩⟩
      · have k3 : tK b t q = 3 := by omega
        have fnd := sp_mfind (G := G) (fr := 0) hD.2.1 (by decide) (tW_lt hb hq z) (hM.2.1.2.2.2.2 z) hD.2.2.1 hD.2.2.2
        have hn5 := hD.2.1
        rw [hD.1]
        have ea : asV b t V q = (if fndI (V 1) (tW b t q) (V 0 0) < V 0 0 then nI (fndI (V 1) (tW b t q) (V 0 0)) else 9) := by
          unfold asV
          rw [if_neg y1, if_neg y2, if_neg y3, if_neg y4, if_pos k3]
        rw [ea]
        refine ⟨_, fnd, fun r14 S13 g => ?_⟩
        obtain ⟨u1, u2⟩ := g
        subst u2
        rw [u1]
        by_cases c : fndI (V 1) (tW b t q) (V 0 0) < V 0 0
        · rw [if_pos c, if_pos c]
          refine ⟨fun _ => ?_, fun y => absurd (Int32.not_lt.mp (nI_neg (by omega))) y⟩
          rw [hD.1]
          refine ⟨_, fnd, fun r20 S19 g => ?_⟩
          rw [if_pos c] at g
          exact g
        · rw [if_neg c, if_neg c]
          exact ⟨fun y => absurd y (by decide), fun _ => ⟨rfl, rfl⟩⟩
      · unfold asV
        rw [if_neg y1, if_neg y2, if_neg y3, if_neg y4, if_neg (by omega)]
        rfl
    · have := (eq 14 (by decide) _ rfl).mp y
      unfold asV
      rw [if_neg (by omega), if_neg (by omega), if_neg (by omega), if_pos this]
    · have := (eq 7 (by decide) _ rfl).mp y
      unfold asV
      rw [if_neg (by omega), if_neg (by omega), if_pos this]
    · have := (eq 13 (by decide) _ rfl).mp y
      unfold asV
      rw [if_neg (by omega), if_pos this]
    · have := (eq 12 (by decide) _ rfl).mp y
      unfold asV
      rw [if_pos this]
  · unfold asV
    rw [if_neg (by omega), if_neg (by omega), if_neg (by omega), if_neg (by omega), if_neg (by omega)]
    rfl
theorem sp_isFull (hu : V 0 9 ≤ 30) (hW : MW S V wl) : Ex G mX12_isFull 1 [.ref 412] S (fun r S1 => r = bI (decide (30 ≤ V 0 9)) ∧ S1 = S) := by
  refine eX12_isFull (vX12_isFull_0 ?_)
  rw [hW.2.1, hW.2.2.1, show (60 : Int32) = nI 60 from rfl, show (30 : Int32) = nI 30 from rfl, nI_eq_i (by omega) (by decide), nI_eq_i (by omega) (by decide)]
  exact ⟨fun z => absurd z (by omega), fun _ => ⟨fun z => ⟨by rw [decide_eq_false (by omega)]; rfl, rfl⟩, fun z => ⟨by rw [decide_eq_true (by omega)]; rfl, rfl⟩⟩⟩
theorem sp_countUnit (hW : MW S V wl) : Ex G mX12_countUnit 1 [.ref 412] S (fun _ S1 => MW S1 (upV V 0 9 (V 0 9 + 1)) wl ∧ FZ [] [20, 22] S S1) := by
  refine eX12_countUnit (vX12_countUnit_0 (fun S1 e1 S2 e2 => ?_))
  obtain ⟨w1, w2, w3, w4, w5, w6⟩ := hW
  rw [w2, nI_1] at e1
  have e22 : S1.1 412 22 = nI (V 0 9) := by rw [e1, stI_1, if_pos rfl, if_neg (by decide)]; exact w3
  rw [e22, nI_1] at e2
  have hF : FZ [] [20, 22] S S2 := by rw [e2, e1]; exact (FZ.rf.sm rfl).sm rfl
  refine ⟨⟨?_, ?_, ?_, by rw [hF.sl 19 rfl]; exact w4, by rw [hF.sl 23 rfl]; exact w5, by rw [hF.at 419 rfl]; exact w6⟩, hF⟩
  · have := w1.fz hF rfl rfl
    unfold STm at this ⊢
    rw [upV_ne (by decide), upV_row (a := 6) (by decide), upV_row (a := 7) (by decide)]
    exact this
  · rw [e2, stI_1, if_pos rfl, if_neg (by decide), e1, stI_1, if_pos rfl, if_pos rfl, upV_at]
  · rw [e2, stI_1, if_pos rfl, if_pos rfl, upV_at]
abbrev Jo : List Nat := [4, 6, 7, 8, 9, 19, 23]
/-- a bracket or a not opens: no FAULT yet -/
theorem sp_openUp {s : Nat} {x : Int32} (hx : x = mo s) (hs : s = 8 ∨ s = 17) (hq : q ≤ t) (hk : ¬ tK b t q = 1) (hl : wl.length ≤ 40) (hM : MS b t q S) (hW : MW S V wl) : Ex G mX12_openUp 3 [.ref 412, .int x] S (fun _ S1 => MS b t (tE b t q) S1 ∧ MW S1 V (s :: wl) ∧ FZ [419] Jo S S1) := by
  obtain ⟨w1, w2, w3, w4, w5, w6⟩ := hW
  refine eX12_openUp (vX12_openUp_0 ?_)
  rw [w4]
  refine ⟨vp_in_nI (by omega) (by decide), fun S1 e1 S2 e2 S3 e3 => ?_⟩
  rw [nI_ix (by omega)] at e1
  have e19 : S1.1 412 19 = nI wl.length := by rw [e1, stI_row (by decide)]; exact w4
  rw [e19, nI_1] at e2
  have e23 : S2.1 412 23 = nI (cN wl + cB wl) := by rw [e2, stI_1, if_pos rfl, if_neg (by decide), e1, stI_row (by decide)]; exact w5
  rw [e23, nI_1] at e3
  have hF : FZ [419] [19, 23] S S3 := by rw [e3, e2, e1]; exact ((FZ.rf.st rfl rfl).sm rfl).sm rfl
  have hW3 : MW S3 V (s :: wl) := by
    refine ⟨w1.fz hF rfl rfl, by rw [hF.sl 20 rfl]; exact w2, by rw [hF.sl 22 rfl]; exact w3, ?_, ?_, ?_, ?_⟩
    · rw [e3, stI_1, if_pos rfl, if_neg (by decide), e2, stI_1, if_pos rfl, if_pos rfl, List.length_cons]
    · rw [e3, stI_1, if_pos rfl, if_pos rfl, cN, cB]
      congr 1
      rcases hs with rfl | rfl
      · rw [if_pos rfl, if_neg (by decide)]
        omega
      · rw [if_neg (by decide), if_pos rfl]
        omega
    · rw [e3, stI_row (by decide), e2, stI_row (by decide), e1, stI_self]
      simp [upd, hx]
    · rw [e3, stI_row (by decide), e2, stI_row (by decide), e1, stI_self]
      exact w6.up (Nat.le_refl _)
  have hM3 := hM.fz hF rfl rfl
  refine ⟨fun z => absurd hM3.2.2 z, fun _ => ⟨_, sp_tok hq hM3 hk, fun r7 S6 g => ⟨g.2, hW3.fz g.1 rfl rfl, (hF.mono rfl rfl).tr (g.1.mono rfl rfl)⟩⟩⟩
/-- behind a FAULT -/
theorem sp_openUpN {x : Int32} (hl : wl.length ≤ 40) (h19 : S.1 412 19 = nI wl.length) (h2 : ¬ S.1 412 2 = 0) : Ex G mX12_openUp 3 [.ref 412, .int x] S (fun _ S1 => FZ [419] [19, 23] S S1) := by
  refine eX12_openUp (vX12_openUp_0 ?_)
  rw [h19]
  refine ⟨vp_in_nI (by omega) (by decide), fun S1 e1 S2 e2 S3 e3 => ?_⟩
  have hF : FZ [419] [19, 23] S S3 := by rw [e3, e2, e1]; exact ((FZ.rf.st rfl rfl).sm rfl).sm rfl
  exact ⟨fun _ => hF, fun z => absurd (by rw [← hF.sl 2 rfl]; exact z) h2⟩
abbrev Lu : List Nat := [415, 416, 419]
abbrev Ju : List Nat := [2, 3, 4, 6, 7, 8, 9, 17, 19, 20, 22, 23]
/-- how unit ends -/
def UR (b : Nat → Nat) (t : Nat) (V : pV) (F : Nat) (S1 : ovS) (R : pR) : Prop := (∃ e, R = .inl e ∧ FLm e S1) ∨ (∃ f' V' q' wl' U', f' ≤ F ∧ R = frF b t f' V' q' false wl' ∧ t < q' + f' ∧ q' ≤ t ∧ MS b t q' S1 ∧ MW S1 V' wl' ∧ SI V' wl' U' 1 ∧ fKp V V')
theorem sp_munit (hb : ∀ i, i < t → b i < 256) {S0 : ovS} {V00 : pV} {R : pR} {F : Nat} : ∀ (f : Nat) (V : pV) (q : Nat) (wl : List Nat) (U : Nat) (S : ovS), f ≤ F → t < q + f → q ≤ t → MS b t q S → MW S V wl → SI V wl U 0 → DNm S V → FZ Lu Ju S0 S → fKp V00 V → R = frF b t f V q true wl → RM G mX12_unit 4 (fun _ S1 => FZ Lu Ju S0 S1 ∧ UR b t V00 F S1 R) 2 [some (.ref 412), some (.int 1), none] [] S := by
  intro f
  induction f with
  | zero => intro V q wl U S h0 h1 h2; omega
  | succ f ih =>
    intro V q wl U S hfF hf hq hM hW hS hD hZ hK hR
    have hlen := hS.len
    have hmem := hS.2.2.2.2.2.2.2.2
    have hu30 := hS.1
    have hw7 := hS.2.2.2.2.1
    have hkt := tK_lt (q := q) hb
    have hE := tE_hi (b := b) hq
    obtain ⟨Q, hQ⟩ : ∃ Q : Int32 → ovS → Prop, Q = (fun _ S1 => FZ Lu Ju S0 S1 ∧ UR b t V00 F S1 R) := ⟨_, rfl⟩
    rw [← hQ]
    have q0 : ∀ (e : Nat × Nat) (S1 : ovS), FZ Lu Ju S S1 → FLm e S1 → R = .inl e → Q 0 S1 := by
      intro e S1 a1 a2 a3
      rw [hQ]
      exact ⟨hZ.tr a1, Or.inl ⟨e, a3, a2⟩⟩
    have out : ∀ (e : Nat × Nat) (x : Int32) (S1 : ovS), FZ Lu Ju S S1 → FLm e S1 → R = .inl e → RM G mX12_unit 4 Q 2 [some (.ref 412), some (.int x), none] [] S1 := by
      intro e x S1 a1 a2 a3
      have h101 : RM G mX12_unit 4 Q 101 [some (.ref 412), none, none] [] S1 := vX12_unit_101 ⟨fun z => absurd z a2.nl, fun _ => q0 e S1 a1 a2 a3⟩
      exact vX12_unit_2 ⟨fun _ => h101, fun _ => ⟨fun _ => h101, fun z => absurd z a2.n0⟩⟩
    have on : ∀ (V' : pV) (wl' : List Nat) (U' : Nat) (S1 : ovS), ¬ tK b t q = 0 → R = frF b t f V' (tE b t q) true wl' → FZ Lu Ju S S1 → MS b t (tE b t q) S1 → MW S1 V' wl' → SI V' wl' U' 0 → fKp V V' → RM G mX12_unit 4 Q 2 [some (.ref 412), some (.int 1), none] [] S1 := by
      intro V' wl' U' S1 k0 e1 a1 a2 a3 a4 a5
      have hl := tE_lo (b := b) (t := t) (q := q) k0
      rw [hQ]
      exact ih V' (tE b t q) wl' U' S1 (by omega) (by omega) hE a2 a3 a4 (hD.fz a1 rfl rfl a5) (hZ.tr a1) (hK.tr a5) e1
    have last : ¬ (tK b t q = 267 ∧ mayN wl = true) → ¬ tK b t q = 40 → RM G mX12_unit 4 Q 101 [some (.ref 412), none, none] [] S := by
      intro hn h40
      have bad2 : unS (tK b t q) = 99 ∨ 30 ≤ V 0 9 → R = .inl (ftt b t q 2) := fun h => by rw [hR, frF, if_neg hn, if_neg h40, if_pos h]
      have w152 : ∀ (e : Nat × Nat) (x : Int32) (S1 : ovS), FZ Lu Ju S S1 → FLm e S1 → R = .inl e → RM G mX12_unit 4 Q 152 [some (.ref 412), none, some (.int x)] [] S1 := fun e x S1 a1 a2 a3 => vX12_unit_152 ⟨fun z => absurd z a2.nl, fun _ => q0 e S1 a1 a2 a3⟩
      have wr2 : ∀ x, unS (tK b t q) = 99 ∨ 30 ≤ V 0 9 → (∃ Q20, Ex G mX12_wrong 1 [.ref 412, .int 2] S Q20 ∧ ∀ (r22 : Int32) (S21 : ovS), Q20 r22 S21 → RM G mX12_unit 4 Q 152 [some (.ref 412), none, some (.int x)] [] S21) := fun x h => ⟨_, sp_wrong (c := 2) hb (by decide) (by decide) hM, fun r S1 g => w152 _ x S1 (g.1.mono rfl rfl) g.2 (bad2 h)⟩
      have go : ¬ unS (tK b t q) = 99 → ¬ 30 ≤ V 0 9 → ¬ (tK b t q = 3 ∧ ¬ fndI (V 1) (tW b t q) (V 0 0) < V 0 0) → RM G mX12_unit 4 Q 152 [some (.ref 412), none, some (.int (asV b t V q))] [] S := by
        intro h99 h30 h5
        have hu := (un_r (tK b t q)).resolve_left h99
        have k0 : ¬ tK b t q = 0 := fun x => h99 (by rw [x]; rfl)
        have k1 : ¬ tK b t q = 1 := fun x => h99 (by rw [x]; rfl)
        have hl := tE_lo (b := b) (t := t) (q := q) k0
        have hn5 := hD.2.1
        obtain ⟨d, hd⟩ : ∃ d, d = (if tK b t q = 2 then tN b t q else if tK b t q = 3 then fndI (V 1) (tW b t q) (V 0 0) else 0) := ⟨_, rfl⟩
        have eR : R = frF b t f (addS (upV V 0 9 (V 0 9 + 1)) (unS (tK b t q)) d) (tE b t q) false wl := by
          rw [hR, frF, if_neg hn, if_neg h40, if_neg (fun x => x.elim h99 h30), if_neg h5, hd]
        have fin : ∀ (x y : Int32) (S3 : ovS), FZ [] [20, 22] S S3 → MW S3 (upV V 0 9 (V 0 9 + 1)) wl → x = nI (mC (unS (tK b t q))) → y = mA (unS (tK b t q)) d → (∃ Q9, Ex G mX12_add 1 [.ref 412, .int x, .int y] S3 Q9 ∧ ∀ (r11 : Int32) (S10 : ovS), Q9 r11 S10 → (∃ Q14, Ex G mX12_token 2 [.ref 412] S10 Q14 ∧ ∀ (r16 : Int32) (S15 : ovS), Q14 r16 S15 → Q 0 S15)) := by
          intro x y S3 a1 a2 hx hy
          refine ⟨_, sp_add (V := upV V 0 9 (V 0 9 + 1)) (s := unS (tK b t q)) (d := d) a2.1 (by rw [upV_ne (by decide)]; omega) hx hy, fun r11 S10 g => ⟨_, sp_tok hq ((hM.fz a1 rfl rfl).fz g.2 rfl rfl) k1, fun r16 S15 g2 => ?_⟩⟩
          have hF : FZ Lu Ju S S15 := ((a1.mono rfl rfl).tr (g.2.mono rfl rfl)).tr (g2.1.mono rfl rfl)
          rw [hQ]
          refine ⟨hZ.tr hF, Or.inr ⟨f, addS (upV V 0 9 (V 0 9 + 1)) (unS (tK b t q)) d, tE b t q, wl, U + 1, by omega, eR, by omega, hE, g2.2, ?_, ?_, hK.tr (fKp.un.tr fKp.add)⟩⟩
          · refine MW.fz (S := S10) ⟨g.1, ?_, ?_, ?_, ?_, ?_⟩ g2.1 rfl rfl
            · rw [g.2.sl 20 rfl, addS_0 (by decide)]; exact a2.2.1
            · rw [g.2.sl 22 rfl, addS_0 (by decide)]; exact a2.2.2.1
            · rw [g.2.sl 19 rfl]; exact a2.2.2.2.1
            · rw [g.2.sl 23 rfl]; exact a2.2.2.2.2.1
            · rw [g.2.at 419 rfl]; exact a2.2.2.2.2.2
          · refine hS.unit h30 hu.1 (fun x1 => ?_)
            have e3 := hu.2.1.mp x1
            rw [hd, if_neg (by omega), if_pos e3]
            have : fndI (V 1) (tW b t q) (V 0 0) < V 0 0 := Classical.not_not.mp (fun y => h5 ⟨e3, y⟩)
            omega
        refine vX12_unit_152 ⟨fun _ => ⟨_, sp_countUnit hW, fun r4 S3 g => ?_⟩, fun z => absurd (z_le hM.2.2) z⟩
        have hM3 := hM.fz g.2 rfl rfl
        by_cases k2 : tK b t q = 2
        · have ea : asV b t V q = -1 := by
            unfold asV
            rw [if_neg (by omega), if_neg (by omega), if_neg (by omega), if_neg (by omega), if_neg (by omega)]
          rw [ea]
          refine ⟨fun z => absurd z (by decide), fun _ => ⟨fun z => absurd z (by decide), fun _ => fin _ _ S3 g.2 g.1 ?_ ?_⟩⟩
          · rw [k2]; rfl
          · rw [hM3.2.1.2.2.2.1 k2, hd, if_pos k2, hu.2.2.mpr k2]
            rfl
        · have h0 : 0 ≤ asV b t V q := by
            unfold asV
            split
            · decide
            · split
              · decide
              · split
                · decide
                · split
                  · decide
                  · split
                    · next k3 =>
                      rw [if_pos (Classical.not_not.mp (fun y => h5 ⟨k3, y⟩))]
                      have hle := fnd_le (f := V 1) (w := tW b t q) (V 0 0)
                      exact Int32.not_lt.mp (nI_neg (by omega))
                    · next n1 n2 n3 n4 n5 =>
                      exfalso
                      apply h99
                      unfold unS
                      rw [if_neg k2, if_neg n5, if_neg n1, if_neg n2, if_neg n3, if_neg n4]
          refine ⟨fun _ => ⟨fun _ => fin _ _ S3 g.2 g.1 ?_ ?_, fun z => absurd h0 z⟩, fun z => absurd h0 z⟩
          · unfold mC
            rw [if_neg (fun y => k2 (hu.2.2.mp y)), if_pos hu.1]
            rfl
          · rw [hd, if_neg k2]
            by_cases k3 : tK b t q = 3
            · rw [if_pos k3, hu.2.1.mpr k3]
              unfold asV
              rw [if_neg (by omega), if_neg (by omega), if_neg (by omega), if_neg (by omega), if_pos k3, if_pos (Classical.not_not.mp (fun y => h5 ⟨k3, y⟩))]
              rfl
            · have hk : tK b t q = 268 ∨ tK b t q = 269 ∨ tK b t q = 263 ∨ tK b t q = 270 := by
                apply Classical.byContradiction
                intro y
                apply h99
                unfold unS
                rw [if_neg k2, if_neg k3, if_neg (by omega), if_neg (by omega), if_neg (by omega), if_neg (by omega)]
              unfold asV
              rcases hk with k | k | k | k <;> rw [k] <;> rfl
      refine vX12_unit_101 ⟨fun _ => ⟨_, sp_asked hb hq hM hD, fun r4 S3 g => ?_⟩, fun z => absurd (z_le hM.2.2) z⟩
      obtain ⟨g1, g2⟩ := g
      subst g2
      rw [g1, show (2 : Int32) = nI 2 from rfl, hM.so hb (by decide), so_eq (by decide) (by decide) (by decide)]
      refine ⟨fun k2 => ⟨_, sp_isFull hu30 hW, fun r10 S9 g => ?_⟩, fun k2 => ⟨fun z => wr2 _ (Or.inl ?_), fun z => ⟨_, sp_isFull hu30 hW, fun r33 S32 g => ?_⟩⟩⟩
      · obtain ⟨u1, u2⟩ := g
        subst u2
        have h99 : ¬ unS (tK b t q) = 99 := by rw [k2]; decide
        have ea : ¬ asV b t V q = 9 := by
          unfold asV
          rw [if_neg (by omega), if_neg (by omega), if_neg (by omega), if_neg (by omega), if_neg (by omega)]
          decide
        rw [u1, bI_0, decide_eq_false_iff_not]
        exact ⟨fun z => ⟨fun _ => go h99 z (fun y => absurd y.1 (by omega)), fun y => absurd y ea⟩, fun z => wr2 _ (Or.inr (Classical.not_not.mp z))⟩
      · unfold unS
        unfold asV at z
        split at z
        · exact absurd z (by decide)
        · split at z
          · exact absurd z (by decide)
          · split at z
            · exact absurd z (by decide)
            · split at z
              · exact absurd z (by decide)
              · split at z
                · split at z
                  · exact absurd z (nI_neg (by have := fnd_le (f := V 1) (w := tW b t q) (V 0 0); have := hD.2.1; omega))
                  · exact absurd z (by decide)
                · next n1 n2 n3 n4 n5 => rw [if_neg k2, if_neg n5, if_neg n1, if_neg n2, if_neg n3, if_neg n4]
      · obtain ⟨u1, u2⟩ := g
        subst u2
        have h99 : ¬ unS (tK b t q) = 99 := fun y => z (by
          have hk : ¬ tK b t q = 268 ∧ ¬ tK b t q = 269 ∧ ¬ tK b t q = 263 ∧ ¬ tK b t q = 270 ∧ ¬ tK b t q = 3 := by
            refine ⟨?_, ?_, ?_, ?_, ?_⟩ <;> (intro x; rw [x] at y; exact absurd y (by decide))
          unfold asV
          rw [if_neg hk.1, if_neg hk.2.1, if_neg hk.2.2.1, if_neg hk.2.2.2.1, if_neg hk.2.2.2.2]
          decide)
        rw [u1, bI_0, decide_eq_false_iff_not]
        refine ⟨fun y => ⟨fun x => go h99 y (fun w => x ?_), fun x => ?_⟩, fun y => wr2 _ (Or.inr (Classical.not_not.mp y))⟩
        · unfold asV
          have := w.1
          rw [if_neg (by omega), if_neg (by omega), if_neg (by omega), if_neg (by omega), if_pos this, if_neg w.2]
        · have h5 : tK b t q = 3 ∧ ¬ fndI (V 1) (tW b t q) (V 0 0) < V 0 0 := by
            unfold asV at x
            split at x
            · exact absurd x (by decide)
            · split at x
              · exact absurd x (by decide)
              · split at x
                · exact absurd x (by decide)
                · split at x
                  · exact absurd x (by decide)
                  · split at x
                    · next k3 =>
                      refine ⟨k3, fun c => ?_⟩
                      rw [if_pos c] at x
                      have := (nI_eq_i (b := 9) (by have := hD.2.1; omega) (by decide)).mp x
                      have := hD.2.1
                      omega
                    · exact absurd x (by decide)
          refine ⟨_, sp_wrong (c := 5) hb (by decide) (by decide) hM, fun r S1 g => w152 _ _ S1 (g.1.mono rfl rfl) g.2 ?_⟩
          rw [hR, frF, if_neg hn, if_neg h40, if_neg (fun w => w.elim h99 y), if_pos h5]
    have mid : ¬ (tK b t q = 267 ∧ mayN wl = true) → RM G mX12_unit 4 Q 53 [some (.ref 412), some (.int 1), none] [] S := by
      intro hn
      refine vX12_unit_53 ?_
      rw [show (40 : Int32) = nI 40 from rfl, hM.so hb (by decide), so_eq (by decide) (by decide) (by decide)]
      refine ⟨fun z => vX12_unit_2 ⟨fun _ => last hn z, fun y => absurd rfl y⟩, fun z => ⟨_, sp_isFull hu30 hW, fun r4 S3 g => ?_⟩⟩
      obtain ⟨u1, u2⟩ := g
      subst u2
      have bad : 30 ≤ V 0 9 ∨ 6 < cN wl + cB wl → (∃ Q8, Ex G mX12_wrong 1 [.ref 412, .int 2] S3 Q8 ∧ ∀ (r10 : Int32) (S9 : ovS), Q8 r10 S9 → (∃ Q13, Ex G mX12_countUnit 1 [.ref 412] S9 Q13 ∧ ∀ (r15 : Int32) (S14 : ovS), Q13 r15 S14 → (∃ Q18, Ex G mX12_openUp 3 [.ref 412, .int 20] S14 Q18 ∧ ∀ (r20 : Int32) (S19 : ovS), Q18 r20 S19 → RM G mX12_unit 4 Q 2 [some (.ref 412), some (.int 1), none] [] S19))) := by
        intro h
        refine ⟨_, sp_wrong (c := 2) hb (by decide) (by decide) hM, fun r S9 g => ⟨_, sp_countUnit (hW.fz g.1 rfl rfl), fun r15 S14 g2 => ?_⟩⟩
        have hL := g.2.fz g2.2 rfl
        refine ⟨_, sp_openUpN (wl := wl) (by omega) g2.1.2.2.2.1 hL.n0, fun r20 S19 g3 => ?_⟩
        refine out _ 1 S19 (((g.1.mono rfl rfl).tr (g2.2.mono rfl rfl)).tr (g3.mono rfl rfl)) (hL.fz g3 rfl) ?_
        rw [hR, frF, if_neg hn, if_pos z, if_pos h]
      rw [u1, bI_0, decide_eq_false_iff_not, hW.2.2.2.2.1, nI_le6 (by omega)]
      refine ⟨fun y => bad (Or.inl (Classical.not_not.mp y)), fun y => ⟨fun x => ⟨_, sp_countUnit hW, fun r26 S25 g => ?_⟩, fun x => bad (Or.inr (by omega))⟩⟩
      refine ⟨_, sp_openUp (s := 17) rfl (Or.inr rfl) hq (by omega) (by omega) (hM.fz g.2 rfl rfl) g.1, fun r31 S30 g2 => ?_⟩
      refine on _ _ U S30 (by omega) ?_ ((g.2.mono rfl rfl).tr (g2.2.2.mono rfl rfl)) g2.1 g2.2.1 (hS.bra (by omega)) fKp.un
      rw [hR, frF, if_neg hn, if_pos z, if_neg (by omega)]
    refine vX12_unit_2 ⟨fun z => absurd z (by decide), fun _ => ⟨fun z => absurd hM.2.2 z, fun _ => ⟨_, sp_isWord (j := 11) (by decide) rfl hb hq hM, fun r5 S4 g => ?_⟩⟩⟩
    obtain ⟨u1, u2⟩ := g
    subst u2
    rw [u1, bI_0, decide_eq_false_iff_not]
    refine ⟨fun z => mid (fun y => z y.1), fun z => ⟨_, sp_mayNot hmem (by omega) hW, fun r11 S10 g => ?_⟩⟩
    have k267 : tK b t q = 267 := Classical.not_not.mp z
    obtain ⟨v1, v2⟩ := g
    subst v2
    rw [v1, bI_0]
    refine ⟨fun y => mid (fun x => by rw [y] at x; cases x.2), fun y => ?_⟩
    have hm : mayN wl = true := by
      revert y
      cases mayN wl <;> simp
    rw [hW.2.2.2.2.1, nI_le6 (by omega)]
    refine ⟨fun x => ⟨_, sp_openUp (s := 8) rfl (Or.inl rfl) hq (by omega) (by omega) hM hW, fun r18 S17 g2 => ?_⟩, fun x => ⟨_, sp_wrong (c := 2) hb (by decide) (by decide) hM, fun r23 S22 g => ?_⟩⟩
    · refine on V _ U S17 (by omega) ?_ (g2.2.2.mono rfl rfl) g2.1 g2.2.1 (hS.not (by omega)) fKp.rf
      rw [hR, frF, if_pos ⟨k267, hm⟩, if_neg (by omega)]
    · refine ⟨_, sp_openUpN (wl := wl) (by omega) (by rw [g.1.sl 19 rfl]; exact hW.2.2.2.1) g.2.n0, fun r28 S27 g3 => ?_⟩
      refine out _ 1 S27 ((g.1.mono rfl rfl).tr (g3.mono rfl rfl)) (g.2.fz g3 rfl) ?_
      rw [hR, frF, if_pos ⟨k267, hm⟩, if_pos (by omega)]
end
