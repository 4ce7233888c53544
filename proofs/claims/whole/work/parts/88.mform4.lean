/-! ===== the reference reads an e: all ===== -/
theorem jo_mo : ∀ k, k = 37 ∨ k = 42 ∨ k = 43 ∨ k = 45 ∨ k = 47 ∨ k = 60 ∨ k = 61 ∨ k = 62 → mo (joS k) = nI k ∧ ¬ joS k = 99 := by
  intro k h
  rcases h with rfl | rfl | rfl | rfl | rfl | rfl | rfl | rfl <;> decide
section
variable {G : ovG} {S : ovS} {b : Nat → Nat} {t q : Nat} {V : pV} {wl : List Nat} {U : Nat}
theorem sp_sign (hb : ∀ i, i < t → b i < 256) (hq : q ≤ t) (hM : MS b t q S) : Ex G mX12_sign 2 [.ref 412] S (fun r S1 => r = (if joS (tK b t q) = 99 then 0 else mo (joS (tK b t q))) ∧ S1 = S) := by
  have eK : ∀ j, j < 256 → ¬ j = 1 → ¬ j = 3 → (S.1 412 6 = nI j ↔ tK b t q = j) := fun j h1 h2 h3 => by rw [hM.so hb h1, so_eq h2 h3 h1]
  refine eX12_sign (vX12_sign_0 ⟨_, sp_isWord (j := 10) (by decide) rfl hb hq hM, fun r3 S2 g => ?_⟩)
  obtain ⟨g1, g2⟩ := g
  subst g2
  rw [g1, bI_0, decide_eq_false_iff_not]
  refine ⟨fun z0 => ⟨_, sp_isWord (j := 9) (by decide) rfl hb hq hM, fun r9 S8 g => ?_⟩, fun z => ⟨?_, rfl⟩⟩
  · obtain ⟨g1, g2⟩ := g
    subst g2
    rw [g1, bI_0, decide_eq_false_iff_not]
    refine ⟨fun z1 => ?_, fun z => ⟨?_, rfl⟩⟩
    · have yes : ∀ k, (k = 37 ∨ k = 42 ∨ k = 43 ∨ k = 45 ∨ k = 47 ∨ k = 60 ∨ k = 61 ∨ k = 62) → S8.1 412 6 = nI k → RM G mX12_sign 2 (fun r S1 => r = (if joS (tK b t q) = 99 then 0 else mo (joS (tK b t q))) ∧ S1 = S8) 98 [some (.ref 412)] [] S8 := by
        intro k hk h
        have e := (eK k (by omega) (by omega) (by omega)).mp h
        have hj := jo_mo k hk
        refine vX12_sign_98 ⟨?_, rfl⟩
        rw [e, if_neg hj.2, hj.1, h]
      refine ⟨fun z => yes 60 (by omega) z, fun n60 => ⟨fun z => yes 62 (by omega) z, fun n62 => ⟨fun z => yes 61 (by omega) z, fun n61 => ⟨fun z => yes 43 (by omega) z, fun n43 => ⟨fun z => yes 45 (by omega) z, fun n45 => ⟨fun z => yes 42 (by omega) z, fun n42 => ⟨fun z => yes 47 (by omega) z, fun n47 => ⟨fun n37 => ⟨?_, rfl⟩, fun z => yes 37 (by omega) z⟩⟩⟩⟩⟩⟩⟩⟩
      rw [if_pos]
      unfold joS
      rw [if_neg (fun x => n37 ((eK 37 (by decide) (by decide) (by decide)).mpr x)), if_neg (fun x => n42 ((eK 42 (by decide) (by decide) (by decide)).mpr x)), if_neg (fun x => n43 ((eK 43 (by decide) (by decide) (by decide)).mpr x)), if_neg (fun x => n45 ((eK 45 (by decide) (by decide) (by decide)).mpr x)), if_neg (fun x => n47 ((eK 47 (by decide) (by decide) (by decide)).mpr x)), if_neg (fun x => n60 ((eK 60 (by decide) (by decide) (by decide)).mpr x)), if_neg (fun x => n61 ((eK 61 (by decide) (by decide) (by decide)).mpr x)), if_neg (fun x => n62 ((eK 62 (by decide) (by decide) (by decide)).mpr x)), if_neg z1, if_neg z0]
    · rw [Classical.not_not.mp z]
      rfl
  · rw [Classical.not_not.mp z]
    rfl
theorem mo_n0 : ∀ s, s < 18 → 6 ≤ s → ¬ mo s = 0 := by decide
/-- how readLoaf ends -/
def LRm (b : Nat → Nat) (t : Nat) (S1 : ovS) (R : pR) : Prop := (∃ e, R = .inl e ∧ FLm e S1) ∨ (∃ q', R = .inl (ftt b t q' 2) ∧ MS b t q' S1 ∧ ¬ tK b t q' = 59) ∨ (∃ V' q', R = .inr (V', q') ∧ MS b t q' S1 ∧ STm S1 V' ∧ S1.1 412 20 = nI (V' 0 9))
theorem sp_mLoop (hb : ∀ i, i < t → b i < 256) {S0 : ovS} {R : pR} {Q : Int32 → ovS → Prop} (hQ : ∀ S1, FZ Lu Ju S0 S1 → LRm b t S1 R → Q 0 S1) : ∀ (f : Nat) (V : pV) (q : Nat) (wl : List Nat) (U : Nat) (S : ovS), t < q + f → q ≤ t → MS b t q S → MW S V wl → SI V wl U 1 → DNm S V → FZ Lu Ju S0 S → R = frF b t f V q false wl → RM G mX12_readLoaf 5 Q 30 [some (.ref 412), some (.int 1), none] [] S := by
  intro f
  induction f using Nat.strongRecOn with
  | _ f ih =>
    intro V q wl U S hf hq hM hW hS hD hZ hR
    have hlen := hS.len
    have hmem := hS.2.2.2.2.2.2.2.2
    have hkt := tK_lt (q := q) hb
    have hE := tE_hi (b := b) hq
    obtain ⟨f, rfl⟩ : ∃ g, f = g + 1 := ⟨f - 1, by omega⟩
    -- a FAULT: out
    have out : ∀ (e : Nat × Nat) (x : Int32) (S1 : ovS), FZ Lu Ju S0 S1 → FLm e S1 → R = .inl e → RM G mX12_readLoaf 5 Q 30 [some (.ref 412), some (.int x), none] [] S1 := by
      intro e x S1 a1 a2 a3
      have hq0 : Q 0 S1 := hQ S1 a1 (Or.inl ⟨e, a3, a2⟩)
      have h157 : RM G mX12_readLoaf 5 Q 157 [some (.ref 412), none, none] [] S1 := vX12_readLoaf_157 ⟨fun _ => ⟨fun _ => hq0, fun z => absurd z a2.n0⟩, fun z => absurd z a2.n0⟩
      exact vX12_readLoaf_30 ⟨fun _ => h157, fun _ => ⟨fun _ => h157, fun z => absurd z a2.n0⟩⟩
    -- the e ends here
    have fin : (tK b t q = 59 ∧ cB wl = 0 → R = .inr (uwV 1 wl V, q)) → (¬ (tK b t q = 59 ∧ cB wl = 0) → R = .inl (ftt b t q 2)) → RM G mX12_readLoaf 5 Q 30 [some (.ref 412), some (.int 0), none] [] S := by
      intro h1 h2
      refine vX12_readLoaf_30 ⟨fun _ => vX12_readLoaf_157 ⟨fun z => absurd hM.2.2 z, fun _ => ⟨_, sp_hasBracket hmem (by omega) hW, fun r10 S9 g => ?_⟩⟩, fun z => absurd rfl z⟩
      obtain ⟨u1, u2⟩ := g
      subst u2
      rw [u1, bI_0, decide_eq_false_iff_not]
      refine ⟨fun y => ⟨fun z => absurd hM.2.2 z, fun _ => ⟨_, sp_close (r := 1) (by decide) close_0 hS hW, fun r17 S16 g => ?_⟩⟩, fun y => ⟨_, sp_wrong (c := 2) hb (by decide) (by decide) hM, fun r22 S21 g => ⟨fun _ => ?_, fun z => absurd z g.2.n0⟩⟩⟩
      · have hcb : cB wl = 0 := Classical.not_not.mp y
        have hM2 := hM.fz g.2 rfl rfl
        refine hQ _ (hZ.tr (g.2.mono rfl rfl)) (Or.inr ?_)
        by_cases k : tK b t q = 59
        · exact Or.inr ⟨_, _, h1 ⟨k, hcb⟩, hM2, g.1.1, g.1.2.1⟩
        · exact Or.inl ⟨q, h2 (fun z => k z.1), hM2, k⟩
      · exact hQ _ (hZ.tr (g.1.mono rfl rfl)) (Or.inl ⟨_, h2 (fun z => y (fun w => w z.2)), g.2⟩)
    -- behind a joining: a unit, and on
    have go : ∀ (V' : pV) (wl' : List Nat) (S1 : ovS), ¬ tK b t q = 0 → R = frF b t f V' (tE b t q) true wl' → FZ Lu Ju S S1 → MS b t (tE b t q) S1 → MW S1 V' wl' → SI V' wl' U 0 → fKp V V' → (∃ Q25, Ex G mX12_unit 4 [.ref 412] S1 Q25 ∧ ∀ (r27 : Int32) (S26 : ovS), Q25 r27 S26 → RM G mX12_readLoaf 5 Q 30 [some (.ref 412), some (.int 1), none] [] S26) := by
      intro V' wl' S1 k0 e1 a1 a2 a3 a4 a5
      have hl := tE_lo (b := b) (t := t) (q := q) k0
      refine ⟨_, eX12_unit (vX12_unit_0 (sp_munit hb (S0 := S1) (V00 := V') (R := R) (F := f) f V' (tE b t q) wl' U S1 (Nat.le_refl _) (by omega) hE a2 a3 a4 (hD.fz a1 rfl rfl a5) FZ.rf fKp.rf e1)), fun r27 S26 g => ?_⟩
      obtain ⟨g1, g2⟩ := g
      have hZ26 := (hZ.tr a1).tr g1
      rcases g2 with ⟨e, h1, h2⟩ | ⟨f', V2, q', wl2, U2, hle, h1, h2, h3, h4, h5, h6, h7⟩
      · exact out e 1 S26 hZ26 h2 h1
      · exact ih f' (by omega) V2 q' wl2 U2 S26 h2 h3 h4 h5 h6 ((hD.fz a1 rfl rfl a5).fz g1 rfl rfl h7) hZ26 h1
    have join : ∀ (s : Nat), s = joS (tK b t q) → ¬ s = 99 → ¬ tK b t q = 41 → ¬ tK b t q = 59 → ¬ (rk s = 4 ∧ relN wl = true) → (∃ Q8, Ex G mX12_tight 1 [.int (mo s)] S Q8 ∧ ∀ (r10 : Int32) (S9 : ovS), Q8 r10 S9 → (∃ Q13, Ex G mX12_close 2 [.ref 412, .int r10] S9 Q13 ∧ ∀ (r15 : Int32) (S14 : ovS), Q13 r15 S14 → (vp_in (S14.1 412 19) 160 ∧ (∀ S18 : ovS, S18 = stI S14 419 ((S14.1 412 19)).toNatClampNeg (mo s) → (∀ S19 : ovS, S19 = stI S18 412 19 ((S18.1 412 19) + 1) → (∃ Q20, Ex G mX12_token 2 [.ref 412] S19 Q20 ∧ ∀ (r22 : Int32) (S21 : ovS), Q20 r22 S21 → (∃ Q25, Ex G mX12_unit 4 [.ref 412] S21 Q25 ∧ ∀ (r27 : Int32) (S26 : ovS), Q25 r27 S26 → RM G mX12_readLoaf 5 Q 30 [some (.ref 412), some (.int 1), none] [] S26))))))) := by
      intro s hs h99 h41 h59 hrel
      have hj := (jo_r (tK b t q)).resolve_left (by rw [← hs]; exact h99)
      rw [← hs] at hj
      have hr := rk_lt s (by omega)
      have hr1 := rk_pos hj.1 hj.2.1
      have k0 : ¬ tK b t q = 0 := fun x => h99 (by rw [hs, x]; rfl)
      have k1 : ¬ tK b t q = 1 := fun x => h99 (by rw [hs, x]; rfl)
      refine ⟨_, sp_tight hj.1 hj.2.1, fun r10 S9 g => ?_⟩
      obtain ⟨u1, u2⟩ := g
      subst u2
      rw [u1]
      refine ⟨_, sp_close (r := rk s) hr1 (close_r hr) hS hW, fun r15 S14 g => ?_⟩
      obtain ⟨c1, c2⟩ := g
      have hS' := SI.uw hr1 hS
      have hlen' := hS'.len
      obtain ⟨w1, w2, w3, w4, w5, w6⟩ := c1
      rw [w4, nI_ix (by omega)]
      refine ⟨vp_in_nI (by omega) (by decide), fun S18 e18 S19 e19 => ?_⟩
      have e4 : S18.1 412 19 = nI (uwR (rk s) wl).length := by rw [e18, stI_row (by decide)]; exact w4
      rw [e4, nI_1] at e19
      have hF : FZ [419] [19] S14 S19 := by rw [e19, e18]; exact (FZ.rf.st rfl rfl).sm rfl
      have hF2 : FZ Lu Ju S9 S19 := (c2.mono rfl rfl).tr (hF.mono rfl rfl)
      have hM2 := (hM.fz c2 rfl rfl).fz hF rfl rfl
      have hW2 : MW S19 (uwV (rk s) wl V) (s :: uwR (rk s) wl) := by
        refine ⟨w1.fz hF rfl rfl, by rw [hF.sl 20 rfl]; exact w2, by rw [hF.sl 22 rfl]; exact w3, ?_, ?_, ?_, ?_⟩
        · rw [e19, stI_1, if_pos rfl, if_pos rfl, List.length_cons]
        · rw [hF.sl 23 rfl, w5, cN, cB, if_neg hj.2.2, if_neg (by omega), Nat.zero_add, Nat.zero_add]
        · rw [e19, stI_row (by decide), e18, stI_self]
          simp [upd]
        · rw [e19, stI_row (by decide), e18, stI_self]
          exact w6.up (Nat.le_refl _)
      refine ⟨_, sp_tok hq hM2 k1, fun r22 S21 g => go (uwV (rk s) wl V) (s :: uwR (rk s) wl) S21 k0 ?_ (hF2.tr (g.1.mono rfl rfl)) g.2 (hW2.fz g.1 rfl rfl) (hS'.join hj.1 hj.2.1 hj.2.2) fKp.uw⟩
      rw [hR, frF, if_neg (fun z => h59 z.1), if_neg h41, ← hs, if_neg h99, if_neg hrel]
    have m94 : (¬ tK b t q = 41 ∨ cB wl = 0) → RM G mX12_readLoaf 5 Q 94 [some (.ref 412), some (.int 1), some (.int (if joS (tK b t q) = 99 then 0 else mo (joS (tK b t q))))] [] S := by
      intro h41
      by_cases h99 : joS (tK b t q) = 99
      · rw [if_pos h99]
        refine vX12_readLoaf_94 ⟨fun _ => fin (fun z => ?_) (fun z => ?_), fun z => absurd rfl z⟩
        · rw [hR, frF, if_pos z]
        · rw [hR, frF, if_neg z]
          by_cases k : tK b t q = 41
          · rw [if_pos k, if_pos (h41.resolve_left (fun x => x k))]
          · rw [if_neg k, if_pos h99]
      · rw [if_neg h99]
        have hj := (jo_r (tK b t q)).resolve_left h99
        have k41 : ¬ tK b t q = 41 := fun x => h99 (by rw [x]; rfl)
        have k59 : ¬ tK b t q = 59 := fun x => h99 (by rw [x]; rfl)
        have hr := rk_lt (joS (tK b t q)) (by omega)
        refine vX12_readLoaf_94 ⟨fun z => absurd z (mo_n0 _ (by omega) hj.1), fun _ => ⟨_, sp_tight hj.1 hj.2.1, fun r4 S3 g => ?_⟩⟩
        obtain ⟨u1, u2⟩ := g
        subst u2
        rw [u1, show (4 : Int32) = nI 4 from rfl, nI_eq_i (by omega) (by decide)]
        refine ⟨fun z => join _ rfl h99 k41 k59 (fun y => z y.1), fun z => ⟨_, sp_hasRelation hmem (by omega) hW, fun r32 S31 g => ?_⟩⟩
        obtain ⟨v1, v2⟩ := g
        subst v2
        rw [v1, bI_0]
        refine ⟨fun y => fin (fun x => absurd x.1 k59) (fun _ => ?_), fun y => join _ rfl h99 k41 k59 (fun x => by rw [y] at x; cases x.2)⟩
        have hrel : relN wl = true := by
          revert y
          cases relN wl <;> simp
        rw [hR, frF, if_neg (fun x => k59 x.1), if_neg k41, if_neg h99, if_pos ⟨z, hrel⟩]
    refine vX12_readLoaf_30 ⟨fun z => absurd z (by decide), fun _ => ⟨fun z => absurd hM.2.2 z, fun _ => ⟨_, sp_sign hb hq hM, fun r5 S4 g => ?_⟩⟩⟩
    obtain ⟨u1, u2⟩ := g
    subst u2
    rw [u1, show (41 : Int32) = nI 41 from rfl, hM.so hb (by decide), so_eq (by decide) (by decide) (by decide)]
    refine ⟨fun z => m94 (Or.inl z), fun z => ⟨_, sp_hasBracket hmem (by omega) hW, fun r11 S10 g => ?_⟩⟩
    obtain ⟨v1, v2⟩ := g
    subst v2
    rw [v1, bI_0, decide_eq_false_iff_not]
    refine ⟨fun y => m94 (Or.inr (Classical.not_not.mp y)), fun y => ⟨_, sp_close (r := 1) (by decide) close_0 hS hW, fun r17 S16 g S20 e20 S21 e21 => ?_⟩⟩
    have hcb : ¬ cB wl = 0 := fun x => y (fun w => w x)
    obtain ⟨c1, c2⟩ := g
    obtain ⟨l, e1, e2⟩ := (uw_bra hmem).2 hcb
    have hS' := SI.uw (r := 1) (by decide) hS
    rw [e1] at c1 hS'
    have hlen' := hS'.len
    obtain ⟨w1, w2, w3, w4, w5, w6⟩ := c1
    rw [List.length_cons] at w4 hlen'
    rw [w4, nI_pred] at e20
    have e23 : S20.1 412 23 = nI (cN l + cB l + 1) := by
      rw [e20, stI_1, if_pos rfl, if_neg (by decide), w5, cN, cB, if_neg (by decide), if_pos rfl]
      congr 1
      omega
    rw [e23, nI_pred] at e21
    have hF : FZ [] [19, 23] S16 S21 := by rw [e21, e20]; exact (FZ.rf.sm rfl).sm rfl
    have hW2 : MW S21 (uwV 1 wl V) l := by
      refine ⟨w1.fz hF rfl rfl, by rw [hF.sl 20 rfl]; exact w2, by rw [hF.sl 22 rfl]; exact w3, ?_, ?_, by rw [hF.at 419 rfl]; exact w6.2⟩
      · rw [e21, stI_1, if_pos rfl, if_neg (by decide), e20, stI_1, if_pos rfl, if_pos rfl]
      · rw [e21, stI_1, if_pos rfl, if_pos rfl]
    have hM2 := (hM.fz c2 rfl rfl).fz hF rfl rfl
    have hl := tE_lo (b := b) (t := t) (q := q) (by omega)
    refine ⟨_, sp_tok hq hM2 (by omega), fun r24 S23 g => ?_⟩
    have hF3 : FZ Lu Ju S10 S23 := ((c2.mono rfl rfl).tr (hF.mono rfl rfl)).tr (g.1.mono rfl rfl)
    refine ih f (Nat.lt_succ_self _) (uwV 1 wl V) (tE b t q) l U S23 (by omega) hE g.2 (hW2.fz g.1 rfl rfl) hS'.close (hD.fz hF3 rfl rfl fKp.uw) (hZ.tr hF3) ?_
    rw [hR, frF, if_neg (fun x => absurd x.1 (by omega)), if_pos z, if_neg hcb, e1]
    rfl
end
