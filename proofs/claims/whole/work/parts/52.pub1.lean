/-! ===== calls that change nothing: both sides answer alike ===== -/
/-- the class's call, then the reference's: the same answer, and all holds on -/
def PB (G : ovG) (mc : ovM) (hc : Nat) (ac : List Value) (mm : ovM) (hm : Nat) (am : List Value) (S : ovS) : Prop := Ex G mc hc ac S (fun r S1 => Ex G mm hm am S1 (fun r2 S2 => r2 = r ∧ Inv S2))
def KL (S S1 : ovS) : Prop := KP S S1 ∧ S1.1 369 4 = S.1 369 4 ∧ S1.1 412 48 = S.1 412 48 ∧ S1.1 370 = S.1 370 ∧ S1.1 431 = S.1 431
theorem KL.rf {S : ovS} : KL S S := ⟨KP.rf, rfl, rfl, rfl, rfl⟩
theorem KL.tr {S S1 S2 : ovS} (h : KL S S1) (h2 : KL S1 S2) : KL S S2 := ⟨h.1.tr h2.1, h2.2.1.trans h.2.1, h2.2.2.1.trans h.2.2.1, h2.2.2.2.1.trans h.2.2.2.1, h2.2.2.2.2.trans h.2.2.2.2⟩
theorem KL.fr {L : List Nat} {S S1 : ovS} (h : Fr L S S1) (hL : (L.all fun k => SCr.contains k) = true) (h2 : (L.contains 412 || L.contains 376) = false) (h3 : ([369, 370, 431].all fun k => !(L.contains k)) = true) : KL S S1 := by
  have e : ∀ k, k ∈ ([369, 370, 431] : List Nat) → S1.1 k = S.1 k := by
    intro k hk
    have h4 := List.all_eq_true.mp h3 k hk
    exact h.1 k (by simpa using h4)
  have h5 := (Bool.or_eq_false_iff.mp h2).1
  exact ⟨KP.fr h hL h2, by rw [e 369 (by decide)], by rw [h.1 412 h5], e 370 (by decide), e 431 (by decide)⟩
theorem KL.fj {L J : List Nat} {S S1 : ovS} (h : FJ L J S S1) (hL : (L.all fun k => SCr.contains k) = true) (h2 : L.contains 376 = false) (hJ : (JK.all fun k => !(J.contains k)) = true) (h3 : ([369, 370, 431].all fun k => !(L.contains k)) = true) (h4 : J.contains 48 = false) : KL S S1 := by
  have e : ∀ k, k ∈ ([369, 370, 431] : List Nat) → S1.1 k = S.1 k := by
    intro k hk
    have h4 := List.all_eq_true.mp h3 k hk
    exact h.1 k (by simpa using h4) (fun e => by subst e; revert hk; decide)
  exact ⟨KP.fj h hL h2 hJ, by rw [e 369 (by decide)], h.2.1 48 h4, e 370 (by decide), e 431 (by decide)⟩
theorem Inv.kl {S S1 : ovS} {n m : Nat} (hI : IC S n m) (hL : Ly S n) (h : KL S S1) : Inv S1 := ⟨n, m, hI.kp h.1, hL.cg h.2.1 h.2.2.1 h.2.2.2.1 h.2.2.2.2⟩
theorem Ly.kl {S S1 : ovS} {n : Nat} (hL : Ly S n) (h : KL S S1) : Ly S1 n := hL.cg h.2.1 h.2.2.1 h.2.2.2.1 h.2.2.2.2
section
variable {G : ovG} {S : ovS} {n m : Nat}
theorem PB.q {mc mm : ovM} {hc hm : Nat} {ac am : List Value} {A : Int32 → Prop} (hI : IC S n m) (hL : Ly S n) (h1 : Ex G mc hc ac S (fun r S1 => A r ∧ KL S S1)) (h2 : ∀ r S1, A r → IC S1 n m → KL S S1 → Ex G mm hm am S1 (fun r2 S2 => r2 = r ∧ KL S1 S2)) : PB G mc hc ac mm hm am S := by
  refine Ex.imp h1 (fun r S1 q => ?_)
  have hI1 := hI.kp q.2.1
  refine Ex.imp (h2 r S1 q.1 hI1 q.2) (fun r2 S2 q2 => ⟨q2.1, ?_⟩)
  exact Inv.kl hI1 (hL.kl q.2) q2.2
theorem ge_iff {x : Int32} (hn : n < 2147483648) : (¬ x < 0 ∧ ¬ nI n ≤ x) ↔ sIn n x := by
  rcases pk_ix x (n := n) (by omega) with z | z | ⟨j, hj, z⟩
  · refine ⟨fun q => absurd z q.1, fun ⟨i, h1, h2⟩ => absurd z ?_⟩
    rw [h2]
    exact nI_neg (by omega)
  · refine ⟨fun q => absurd z q.2, fun ⟨i, h1, h2⟩ => absurd z ?_⟩
    rw [h2, nI_le_i (by omega) (by omega)]
    omega
  · refine ⟨fun _ => ⟨j, hj, z⟩, fun _ => ⟨by rw [z]; exact nI_neg (by omega), ?_⟩⟩
    rw [z, nI_le_i (by omega) (by omega)]
    omega
theorem sp_cIsSoul {x : Int32} (h : S.1 16 0 = nI n) (hn : n ≤ 5) : Ex G mX11_isSoul 1 [.ref 0, .int x] S (fun r S1 => (r = 0 ↔ ¬ sIn n x) ∧ S1 = S) := by
  refine eX11_isSoul (vX11_isSoul_0 ?_)
  rw [h]
  have hg := ge_iff (x := x) (n := n) (by omega)
  refine ⟨fun c => ⟨⟨fun _ z => (hg.mpr z).1 c, fun _ => rfl⟩, rfl⟩, fun c => ⟨fun d => ⟨⟨fun _ z => (hg.mpr z).2 d, fun _ => rfl⟩, rfl⟩, fun d => ⟨⟨fun z => absurd z (by decide), fun z => absurd (hg.mp ⟨c, d⟩) z⟩, rfl⟩⟩⟩
theorem sp_cIsDeed {x : Int32} (h : S.1 16 1 = nI n) (hn : n ≤ 5) : Ex G mX11_isDeed 1 [.ref 0, .int x] S (fun r S1 => (r = 0 ↔ ¬ sIn n x) ∧ S1 = S) := by
  refine eX11_isDeed (vX11_isDeed_0 ?_)
  rw [h]
  have hg := ge_iff (x := x) (n := n) (by omega)
  refine ⟨fun c => ⟨⟨fun _ z => (hg.mpr z).1 c, fun _ => rfl⟩, rfl⟩, fun c => ⟨fun d => ⟨⟨fun _ z => (hg.mpr z).2 d, fun _ => rfl⟩, rfl⟩, fun d => ⟨⟨fun z => absurd z (by decide), fun z => absurd (hg.mp ⟨c, d⟩) z⟩, rfl⟩⟩⟩
theorem sp_cIsHundredth {x : Int32} : Ex G mX11_isHundredth 1 [.int x] S (fun r S1 => (r = 0 ↔ ¬ sIn 100 x) ∧ S1 = S) := by
  refine eX11_isHundredth (vX11_isHundredth_0 ?_)
  have hg := in100 (y := x)
  refine ⟨fun c => ⟨⟨fun _ z => (hg.mpr z).1 c, fun _ => rfl⟩, rfl⟩, fun c => ⟨fun d => ⟨⟨fun _ z => (hg.mpr z).2 d, fun _ => rfl⟩, rfl⟩, fun d => ⟨⟨fun z => absurd z (by decide), fun z => absurd (hg.mp ⟨c, d⟩) z⟩, rfl⟩⟩⟩
theorem nn_in {P : Prop} {r : Int32} (h : r = 0 ↔ ¬ P) (hr : ¬ r = 0) : P := Classical.not_not.mp (fun z => hr (h.mpr z))
theorem gG_kl {S1 : ovS} (h : KP S S1) : gG S1 = gG S := gG_sm ⟨h.at 20 rfl, h.at 21 rfl, h.at 22 rfl, h.at 25 rfl, h.at 27 rfl, h.at 28 rfl, h.at 24 rfl⟩ (h.at 29 rfl)
theorem KP.sm {S1 : ovS} (h : KP S S1) : SmL S S1 := ⟨h.at 20 rfl, h.at 21 rfl, h.at 22 rfl, h.at 25 rfl, h.at 27 rfl, h.at 28 rfl, h.at 24 rfl⟩
theorem fdF_kl {S1 : ovS} (h : KP S S1) : fdF S1 = fdF S := by
  funext nm s
  unfold fdF
  rw [gG_kl h, h.at 17 rfl]
theorem lvF_kl {S1 : ovS} (h : KP S S1) : lvF S1 = lvF S := by
  have e : bsN S1 = bsN S := by
    funext n nm s
    unfold bsN
    rw [gG_kl h]
  funext n nm s
  unfold lvF
  rw [e]
theorem pb_fed (hI : IC S n m) (hL : Ly S n) : PB G mX11_fed 8 [.ref 0] mX12_fed 7 [.ref 412] S := by
  refine PB.q (A := fun r => r = nI (mk (fdF S (S.1 26)) n)) hI hL ?_ (fun r S1 hA h1 hK => ?_)
  · exact eX11_fed (vX11_fed_0 ⟨_, sp_fedNow hI.cx hI.vn, fun r S2 q => ⟨q.1, KL.fr q.2 rfl rfl rfl⟩⟩)
  · refine Ex.imp (sp_mFed h1.1) (fun r2 S2 q => ⟨?_, KL.fr q.2 rfl rfl rfl⟩)
    rw [q.1, hA, fdF_kl hK.1, hK.1.at 26 rfl]
theorem pb_stone (hI : IC S n m) (hL : Ly S n) : PB G mX11_stone 2 [.ref 0] mX12_stone 3 [.ref 412] S := by
  refine PB.q (A := fun r => r = bI (gSt S (S.1 26))) hI hL ?_ (fun r S1 hA h1 hK => ?_)
  · refine eX11_stone (vX11_stone_0 ⟨_, sp_sayers, fun r3 S2 q => ?_⟩)
    obtain ⟨q1, q2⟩ := q
    subst q1 q2
    refine ⟨_, sp_quarrel, fun r8 S7 q => ?_⟩
    obtain ⟨q1, q2⟩ := q
    subst q1 q2
    exact ⟨b01 _, rfl, KL.rf⟩
  · refine Ex.imp (sp_mStone h1.1) (fun r2 S2 q => ⟨?_, KL.fr q.2 rfl rfl rfl⟩)
    rw [q.1, hA, gSt, gSt, hK.1.at 26 rfl, hK.1.at 29 rfl]
theorem pb_isSteady (hI : IC S n m) (hL : Ly S n) : PB G mX11_isSteady 8 [.ref 0] mX12_isSteady 9 [.ref 412] S := by
  refine PB.q (A := fun r => r = bI (!anyN n (lvF S n (S.1 26)))) hI hL ?_ (fun r S1 hA h1 hK => ?_)
  · refine eX11_isSteady (vX11_isSteady_0 ⟨_, sp_isSteadyNow hI.cx hI.vn, fun r3 S2 q => ⟨by rw [q.1]; exact b01 _, q.1, KL.fr q.2 rfl rfl rfl⟩⟩)
  · refine Ex.imp (sp_mIsSteady h1.1) (fun r2 S2 q => ⟨?_, KL.fr q.2 rfl rfl rfl⟩)
    rw [q.1, hA, lvF_kl hK.1, hK.1.at 26 rfl]
theorem pb_silent (hI : IC S n m) (hL : Ly S n) : PB G mX11_silent 3 [.ref 0] mX12_silent 3 [.ref 412] S := by
  refine PB.q (A := fun r => r = fvF (stSi S (nI (mk (fun i => decide (¬ S.1 26 i = -1)) 5))) (nI (mk (fun i => decide (¬ S.1 26 i = -1)) 5)) (2 ^ n)) hI hL ?_ (fun r S1 hA h1 hK => ?_)
  · refine eX11_silent (vX11_silent_0 ⟨_, sp_silent hI.cx.1 hI.n5, fun r3 S2 q => ⟨q.1, by rw [q.2]; exact KL.rf⟩⟩)
  · refine Ex.imp (sp_mSilent h1.1) (fun r2 S2 q => ⟨?_, KL.fr q.2 rfl rfl rfl⟩)
    have e : stSi S1 = stSi S := by
      funext a b c
      unfold stSi
      rw [hK.1.at 29 rfl]
    rw [q.1, hA, e, hK.1.at 26 rfl]
theorem pb_spoiler {x : Int32} (hI : IC S n m) (hL : Ly S n) : PB G mX11_spoiler 8 [.ref 0, .int x] mX12_spoiler 6 [.ref 412, .int x] S := by
  refine PB.q (A := fun r => r = (if x = 0 then (fvF (stSp S n (S.1 26)) (-1, -1) n).1 else if x = 1 then (fvF (stSp S n (S.1 26)) (-1, -1) n).2 else -1)) hI hL ?_ (fun r S1 hA h1 hK => ?_)
  · refine eX11_spoiler (vX11_spoiler_0 ⟨fun c => ⟨_, sp_spoiler hI.cx hI.vn, fun r3 S2 q => ⟨?_, KL.fr q.2 rfl rfl rfl⟩⟩, fun c => ⟨fun d => ⟨?_, KL.rf⟩, fun d => ⟨_, sp_spoiler hI.cx hI.vn, fun r3 S2 q => ⟨?_, KL.fr q.2 rfl rfl rfl⟩⟩⟩⟩)
    · rw [q.1, if_pos c, if_pos c]
    · rw [if_neg c, if_neg d]
    · rw [q.1, if_neg c, if_neg c, if_pos d]
  · refine Ex.imp (sp_mSpoiler h1.1) (fun r2 S2 q => ⟨?_, KL.fr q.2 rfl rfl rfl⟩)
    have e : stSp S1 = stSp S := by
      funext a b c d
      unfold stSp
      rw [gG_kl hK.1]
    rw [q.1, hA, e, hK.1.at 26 rfl]
theorem pb_claims {x : Int32} (hI : IC S n m) (hL : Ly S n) : PB G mX11_claims 2 [.ref 0, .int x] mX12_claims 3 [.ref 412, .int x] S := by
  refine PB.q (A := fun r => (¬ sIn n x → r = -1) ∧ (sIn n x → r = nI (mk (fun i => decide (S.1 26 i = x)) 5))) hI hL ?_ (fun r S1 hA h1 hK => ?_)
  · refine eX11_claims (vX11_claims_0 ⟨_, sp_cIsSoul hI.cx.1 hI.n5, fun r3 S2 q => ?_⟩)
    obtain ⟨q1, q2⟩ := q
    subst q2
    refine ⟨fun c => ⟨⟨fun _ => rfl, fun z => absurd z (q1.mp c)⟩, KL.rf⟩, fun c => ⟨_, sp_sayersOf, fun r9 S8 q => ⟨⟨fun z => absurd (nn_in q1 c) z, fun _ => q.1⟩, by rw [q.2]; exact KL.rf⟩⟩⟩
  · refine Ex.imp (sp_mClaims h1.1) (fun r2 S2 q => ⟨?_, by rw [q.2]; exact KL.rf⟩)
    rw [hK.1.at 26 rfl] at q
    by_cases c : sIn n x
    · rw [q.1.2 c, hA.2 c]
    · rw [q.1.1 c, hA.1 c]
theorem pb_peace {x : Int32} (hI : IC S n m) (hL : Ly S n) : PB G mX11_peace 3 [.ref 0, .int x] mX12_peace 3 [.ref 412, .int x] S := by
  refine PB.q (A := fun r => r = peR S n x) hI hL ?_ (fun r S1 hA h1 hK => ?_)
  · refine eX11_peace (vX11_peace_0 ⟨fun c => ⟨_, sp_peace hI.cx.1 hI.n5, fun r4 S3 q => ⟨fun z => absurd c z, fun _ => ⟨_, sp_bitCount, fun r10 S9 q9 => ⟨?_, ?_⟩⟩⟩⟩, fun c => ⟨fun d => ⟨_, sp_peace hI.cx.1 hI.n5, fun r4 S3 q => ⟨fun _ => ⟨?_, ?_⟩, fun z => absurd z c⟩⟩, fun d => ⟨?_, KL.rf⟩⟩⟩)
    · rw [q9.1, q.1, peR, if_pos c]
    · rw [q9.2, q.2]; exact KL.rf
    · rw [q.1, peR, if_neg c, if_pos d]
    · rw [q.2]; exact KL.rf
    · rw [peR, if_neg c, if_neg d]
  · refine Ex.imp (sp_mPeace h1.1) (fun r2 S2 q => ⟨?_, by rw [q.2]; exact KL.rf⟩)
    have e : stPe S1 = stPe S := by
      funext a b
      unfold stPe
      rw [hK.1.at 29 rfl]
    rw [q.1, hA, peR, peR, e]
theorem pb_alike (hI : IC S n m) (hL : Ly S n) : PB G mX11_alike 6 [.ref 0] mX12_alike 7 [.ref 412] S := by
  refine PB.q (A := fun r => r = nI (alF (fun i => gLo S i (gSd (S.1 26))) n n)) hI hL ?_ (fun r S1 hA h1 hK => ?_)
  · exact eX11_alike (vX11_alike_0 ⟨_, sp_alike hI.cx hI.vn, fun r S2 q => ⟨q.1, KL.fr q.2 rfl rfl rfl⟩⟩)
  · refine Ex.imp (sp_mAlike h1.1) (fun r2 S2 q => ⟨?_, KL.fr q.2 rfl rfl rfl⟩)
    rw [q.1, hA, gLo_sm hK.1.sm, hK.1.at 26 rfl]
theorem pb_makes {x w : Int32} (hI : IC S n m) (hL : Ly S n) : PB G mX11_makes 5 [.ref 0, .int x, .int w] mX12_makes 5 [.ref 412, .int x, .int w] S := by
  have hn := hI.n5
  refine PB.q (A := fun r => (¬ sIn n x → r = 0) ∧ ∀ s, s < n → x = nI s → r = nI (mk (fun d => decide (LF S (nI d) (S.1 27 s) (S.1 28 s) (S.1 24 7) (nI (gSd (S.1 26))) = w)) (2 ^ m))) hI hL ?_ (fun r S1 hA h1 hK => ?_)
  · refine eX11_makes (vX11_makes_0 ⟨_, sp_cIsSoul hI.cx.1 hI.n5, fun r3 S2 q => ?_⟩)
    obtain ⟨q1, q2⟩ := q
    subst q2
    refine ⟨fun c => ⟨⟨fun _ => rfl, fun s hs e => absurd ⟨s, hs, e⟩ (q1.mp c)⟩, KL.rf⟩, fun c => ?_⟩
    obtain ⟨s, hs, hx⟩ := nn_in q1 c
    subst hx
    refine ⟨_, sp_makes hI.fok (by omega) hI.2.1, fun r9 S8 q => ⟨⟨fun z => absurd ⟨s, hs, rfl⟩ z, fun s' hs' e => ?_⟩, KL.fr q.2 rfl rfl rfl⟩⟩
    rw [← (nI_eq_i (by omega) (by omega)).mp e]
    exact q.1
  · refine Ex.imp (sp_mMakes h1.1 h1.2.2.1 h1.m5) (fun r2 S2 q => ⟨?_, KL.fr q.2 rfl rfl rfl⟩)
    by_cases c : sIn n x
    · obtain ⟨s, hs, hx⟩ := c
      rw [q.1.2 s hs hx, hA.2 s hs hx, LF_sm hK.1.sm, hK.1.at 27 rfl, hK.1.at 28 rfl, hK.1.at 24 rfl, hK.1.at 26 rfl]
    · rw [q.1.1 c, hA.1 c]
theorem pb_warm {x w : Int32} (hI : IC S n m) (hL : Ly S n) : PB G mX11_warm 5 [.ref 0, .int x, .int w] mX12_warm 5 [.ref 412, .int x, .int w] S := by
  have hn := hI.n5
  refine PB.q (A := fun r => (¬ sIn n x → r = -1) ∧ ∀ s, s < n → x = nI s → r = nI (mk (fun h => decide (¬ LF S (S.1 25 s) (S.1 27 s) (S.1 28 s) (nI h) (nI (gSd (S.1 26))) < w)) 10)) hI hL ?_ (fun r S1 hA h1 hK => ?_)
  · refine eX11_warm (vX11_warm_0 ⟨_, sp_cIsSoul hI.cx.1 hI.n5, fun r3 S2 q => ?_⟩)
    obtain ⟨q1, q2⟩ := q
    subst q2
    refine ⟨fun c => ⟨⟨fun _ => rfl, fun s hs e => absurd ⟨s, hs, e⟩ (q1.mp c)⟩, KL.rf⟩, fun c => ?_⟩
    obtain ⟨s, hs, hx⟩ := nn_in q1 c
    subst hx
    refine ⟨_, sp_warm hI.fok (by omega), fun r9 S8 q => ⟨⟨fun z => absurd ⟨s, hs, rfl⟩ z, fun s' hs' e => ?_⟩, KL.fr q.2 rfl rfl rfl⟩⟩
    rw [← (nI_eq_i (by omega) (by omega)).mp e]
    exact q.1
  · refine Ex.imp (sp_mWarm h1.1) (fun r2 S2 q => ⟨?_, KL.fr q.2 rfl rfl rfl⟩)
    by_cases c : sIn n x
    · obtain ⟨s, hs, hx⟩ := c
      rw [q.1.2 s hs hx, hA.2 s hs hx, LF_sm hK.1.sm, hK.1.at 27 rfl, hK.1.at 28 rfl, hK.1.at 25 rfl, hK.1.at 26 rfl]
    · rw [q.1.1 c, hA.1 c]
theorem pb_wants {x w y : Int32} (hI : IC S n m) (hL : Ly S n) : PB G mX11_wants 5 [.ref 0, .int x, .int w, .int y] mX12_wants 5 [.ref 412, .int x, .int w, .int y] S := by
  have hn := hI.n5
  have hp := pow5 hI.m5
  refine PB.q (A := fun r => (¬ sIn n x ∨ ¬ (y = 0 ∨ y = 1) → r = -1) ∧ ∀ s, s < n → x = nI s → (y = 0 ∨ y = 1) → r = waR (fvF (stFd S s w) (-1) (2 ^ m)) y) hI hL ?_ (fun r S1 hA h1 hK => ?_)
  · refine eX11_wants (vX11_wants_0 ⟨_, sp_cIsSoul hI.cx.1 hI.n5, fun r3 S2 q => ?_⟩)
    obtain ⟨q1, q2⟩ := q
    subst q2
    refine ⟨fun c => ⟨⟨fun _ => rfl, fun s hs e => absurd ⟨s, hs, e⟩ (q1.mp c)⟩, KL.rf⟩, fun c => ?_⟩
    obtain ⟨s, hs, hx⟩ := nn_in q1 c
    subst hx
    have fin : ∀ {v : Int32} {S9 : ovS}, v = waR (fvF (stFd S2 s w) (-1) (2 ^ m)) y → (y = 0 ∨ y = 1) → KL S2 S9 → ((¬ sIn n (nI s) ∨ ¬ (y = 0 ∨ y = 1) → v = -1) ∧ ∀ s', s' < n → nI s = nI s' → (y = 0 ∨ y = 1) → v = waR (fvF (stFd S2 s' w) (-1) (2 ^ m)) y) ∧ KL S2 S9 := by
      intro v S9 hv hy h9
      refine ⟨⟨fun z => z.elim (fun z => absurd ⟨s, hs, rfl⟩ z) (fun z => absurd hy z), fun s' hs' e _ => ?_⟩, h9⟩
      rw [← (nI_eq_i (by omega) (by omega)).mp e]
      exact hv
    refine ⟨fun d => ⟨_, sp_wants hI.fok (by omega) hI.2.1, fun r10 S9 q => ?_⟩, fun d => ⟨fun d2 => ⟨_, sp_wants hI.fok (by omega) hI.2.1, fun r10 S9 q => ?_⟩, fun d2 => ⟨⟨fun _ => rfl, fun s' _ _ z => absurd z (fun z => z.elim d d2)⟩, KL.rf⟩⟩⟩
    · have hk := KL.fr q.2 rfl rfl rfl
      refine ⟨fun e => fin (by rw [← q.1, waR, if_pos e, e]) (Or.inl d) hk, fun e => ⟨fun f => ⟨_, sp_bitCount, fun r17 S16 q2 => fin ?_ (Or.inl d) (by rw [q2.2]; exact hk)⟩, fun f => ?_⟩⟩
      · rw [← q.1, waR, if_neg e, if_pos d, q2.1]
      · rw [d] at f
        exact absurd f (by decide)
    · have hk := KL.fr q.2 rfl rfl rfl
      refine ⟨fun e => fin (by rw [← q.1, waR, if_pos e, e]) (Or.inr d2) hk, fun e => ⟨fun f => absurd d2 f, fun f => fin ?_ (Or.inr d2) hk⟩⟩
      rw [← q.1, waR, if_neg e, if_neg d]
  · refine Ex.imp (sp_mWants h1.1 h1.2.2.1 h1.m5) (fun r2 S2 q => ⟨?_, KL.fr q.2 rfl rfl rfl⟩)
    by_cases c : sIn n x
    · by_cases d : y = 0 ∨ y = 1
      · obtain ⟨s, hs, hx⟩ := c
        have e : stFd S1 = stFd S := by
          funext a b c d
          unfold stFd
          rw [LF_sm hK.1.sm, hK.1.at 27 rfl, hK.1.at 28 rfl, hK.1.at 24 rfl, hK.1.at 26 rfl]
        rw [q.1.2 s hs hx d, hA.2 s hs hx d, e]
      · rw [q.1.1 (Or.inr d), hA.1 (Or.inr d)]
    · rw [q.1.1 (Or.inl c), hA.1 (Or.inl c)]
theorem farN_kl {S1 : ovS} (h : KP S S1) : farN S1 = farN S := by
  have e0 : far0 S1 = far0 S := by
    funext s
    unfold far0
    rw [h.at 27 rfl, h.at 24 rfl, h.at 26 rfl, gLo_sm h.sm]
  have e1 : farS S1 = farS S := by
    funext a
    unfold farS
    rw [LF_sm h.sm]
  funext s k
  unfold farN
  rw [e0, e1]
theorem pb_will {x y : Int32} (hI : IC S n m) (hL : Ly S n) : PB G mX11_will 7 [.ref 0, .int x, .int y] mX12_will 6 [.ref 412, .int x, .int y] S := by
  have hn := hI.n5
  refine PB.q (A := fun r => (¬ sIn n x ∨ ¬ sIn 61 y → r = -1) ∧ ∀ s k, s < n → x = nI s → k ≤ 60 → y = nI k → r = (farN S s k).2.2) hI hL ?_ (fun r S1 hA h1 hK => ?_)
  · refine eX11_will (vX11_will_0 ⟨_, sp_cIsSoul hI.cx.1 hI.n5, fun r3 S2 q => ?_⟩)
    obtain ⟨q1, q2⟩ := q
    subst q2
    refine ⟨fun c => ⟨⟨fun _ => rfl, fun s k hs e => absurd ⟨s, hs, e⟩ (q1.mp c)⟩, KL.rf⟩, fun c => ?_⟩
    obtain ⟨s, hs, hx⟩ := nn_in q1 c
    subst hx
    have bad : ¬ sIn 61 y → ((¬ sIn n (nI s) ∨ ¬ sIn 61 y → (-1 : Int32) = -1) ∧ ∀ s' k, s' < n → nI s = nI s' → k ≤ 60 → y = nI k → (-1 : Int32) = (farN S2 s' k).2.2) ∧ KL S2 S2 := fun h => ⟨⟨fun _ => rfl, fun s' k _ _ hk e => absurd ⟨k, by omega, e⟩ h⟩, KL.rf⟩
    refine ⟨fun d => bad (fun z => (in60.mpr z).1 d), fun d => ⟨fun d2 => ?_, fun d2 => bad (fun z => (in60.mpr z).2 (Int32.not_le.mp d2))⟩⟩
    obtain ⟨k, hk, hy⟩ := in60.mp ⟨d, Int32.not_lt.mpr d2⟩
    subst hy
    refine ⟨_, sp_will hI.fok (by omega) (by omega), fun r11 S10 q => ⟨⟨fun z => z.elim (fun z => absurd ⟨s, hs, rfl⟩ z) (fun z => absurd ⟨k, hk, rfl⟩ z), fun s' k' hs' e hk' e' => ?_⟩, KL.fr q.2 rfl rfl rfl⟩⟩
    rw [← (nI_eq_i (by omega) (by omega)).mp e, ← (nI_eq_i (by omega) (by omega)).mp e']
    exact q.1
  · refine Ex.imp (sp_mWill h1.1 h1.sty) (fun r2 S2 q => ⟨?_, KL.fj q.2 rfl rfl rfl rfl rfl⟩)
    by_cases c : sIn n x
    · by_cases d : sIn 61 y
      · obtain ⟨s, hs, hx⟩ := c
        obtain ⟨k, hk, hy⟩ := d
        rw [q.1.2 s k hs hx (by omega) hy, hA.2 s k hs hx (by omega) hy, farN_kl hK.1]
      · rw [q.1.1 (Or.inr d), hA.1 (Or.inr d)]
    · rw [q.1.1 (Or.inl c), hA.1 (Or.inl c)]
theorem pb_soonest {x w : Int32} (hI : IC S n m) (hL : Ly S n) : PB G mX11_soonest 7 [.ref 0, .int x, .int w] mX12_soonest 6 [.ref 412, .int x, .int w] S := by
  have hn := hI.n5
  refine PB.q (A := fun r => (¬ sIn n x → r = -1) ∧ ∀ s, s < n → x = nI s → ((∃ k, k ≤ 60 ∧ r = nI k ∧ ¬ (farN S s k).2.2 < w ∧ ∀ q, q < k → (farN S s q).2.2 < w) ∨ (r = -1 ∧ ∀ q, q ≤ 60 → (farN S s q).2.2 < w))) hI hL ?_ (fun r S1 hA h1 hK => ?_)
  · refine eX11_soonest (vX11_soonest_0 ⟨_, sp_cIsSoul hI.cx.1 hI.n5, fun r3 S2 q => ?_⟩)
    obtain ⟨q1, q2⟩ := q
    subst q2
    refine ⟨fun c => ⟨⟨fun _ => rfl, fun s hs e => absurd ⟨s, hs, e⟩ (q1.mp c)⟩, KL.rf⟩, fun c => ?_⟩
    obtain ⟨s, hs, hx⟩ := nn_in q1 c
    subst hx
    refine ⟨_, sp_soonest hI.fok (by omega), fun r9 S8 q => ⟨⟨fun z => absurd ⟨s, hs, rfl⟩ z, fun s' hs' e => ?_⟩, KL.fr q.1 rfl rfl rfl⟩⟩
    rw [← (nI_eq_i (by omega) (by omega)).mp e]
    exact q.2
  · refine Ex.imp (sp_mSoonest h1.1 h1.sty) (fun r2 S2 q => ⟨?_, KL.fj q.2 rfl rfl rfl rfl rfl⟩)
    by_cases c : sIn n x
    · obtain ⟨s, hs, hx⟩ := c
      have a := hA.2 s hs hx
      have b := q.1.2 s hs hx
      rw [farN_kl hK.1] at b
      rcases a with ⟨k, h1, h2, h3, h4⟩ | ⟨h1, h2⟩
      · rcases b with ⟨k', g1, g2, g3, g4⟩ | ⟨g1, g2⟩
        · have : k = k' := by
            rcases Nat.lt_trichotomy k k' with z | z | z
            · exact absurd (g4 k z) h3
            · exact z
            · exact absurd (h4 k' z) g3
          rw [h2, g2, this]
        · exact absurd (g2 k h1) h3
      · rcases b with ⟨k', g1, g2, g3, g4⟩ | ⟨g1, g2⟩
        · exact absurd (h2 k' g1) g3
        · rw [h1, g1]
    · rw [q.1.1 c, hA.1 c]
theorem sp_gainNow' {s : Nat} (hX : CX S n) (hV : VN n (S.1 26)) (hs : s < n) : Ex G mX8_gainNow 6 [.ref 369, .int (nI s)] S (fun r S1 => r = gG S (S.1 26) s ∧ Fr L6 S S1) :=
  eX8_gainNow (vX8_gainNow_0 ⟨_, sp_lookAtNow hX hV, fun r3 S2 q => ⟨_, sp_gain hX hV q hs, fun r8 S7 q7 => ⟨q7.1, q7.2.1⟩⟩⟩)
theorem pb_soul {x y : Int32} (hI : IC S n m) (hL : Ly S n) : PB G mX11_soul 7 [.ref 0, .int x, .int y] mX12_soul 7 [.ref 412, .int x, .int y] S := by
  have hn := hI.n5
  refine PB.q (A := fun r => (¬ sIn n x → r = -2) ∧ ∀ s, s < n → x = nI s → r = slF S s y) hI hL ?_ (fun r S1 hA h1 hK => ?_)
  · refine eX11_soul (vX11_soul_0 ⟨_, sp_cIsSoul hI.cx.1 hI.n5, fun r3 S2 q => ?_⟩)
    obtain ⟨q1, q2⟩ := q
    subst q2
    refine ⟨fun c => ?_, fun c => ⟨⟨fun _ => rfl, fun s hs e => absurd ⟨s, hs, e⟩ (q1.mp c)⟩, KL.rf⟩⟩
    obtain ⟨s, hs, hx⟩ := nn_in q1 c
    subst hx
    have fin : ∀ {v : Int32} {S9 : ovS}, v = slF S2 s y → KL S2 S9 → ((¬ sIn n (nI s) → v = -2) ∧ ∀ s', s' < n → nI s = nI s' → v = slF S2 s' y) ∧ KL S2 S9 := by
      intro v S9 hv h9
      refine ⟨⟨fun z => absurd ⟨s, hs, rfl⟩ z, fun s' hs' e => ?_⟩, h9⟩
      rw [← (nI_eq_i (by omega) (by omega)).mp e]
      exact hv
    have i5 : vp_in (nI s) 5 := vp_in_nI (by omega) (by decide)
    rw [nI_ix (n := s) (by omega)]
    refine ⟨fun d => ⟨i5, fin ?_ KL.rf⟩, fun d => ⟨i5, fin ?_ KL.rf⟩, fun d => ⟨i5, fin ?_ KL.rf⟩, fun d => ⟨i5, fin ?_ KL.rf⟩, fun d => ⟨i5, fin ?_ KL.rf⟩, fun d => ⟨_, sp_loafNow hI.fok (by omega), fun r S9 q => fin ?_ (KL.fr q.2 rfl rfl rfl)⟩, fun d => ⟨_, sp_gainNow' hI.cx hI.vn hs, fun r S9 q => fin ?_ (KL.fr q.2 rfl rfl rfl)⟩, fun d => ⟨i5, fin ?_ KL.rf⟩, fun d => ⟨i5, fin ?_ KL.rf⟩, fun d => ⟨i5, fin ?_ KL.rf⟩, fun d0 d1 d2 d3 d4 d5 d6 d7 d8 d9 => fin ?_ KL.rf⟩
    · subst d; rfl
    · subst d; rfl
    · subst d; rfl
    · subst d; rfl
    · subst d; rfl
    · subst d; exact q.1
    · subst d; exact q.1
    · subst d; rfl
    · subst d; rfl
    · subst d; rfl
    · simp only [slF, if_neg d0, if_neg d1, if_neg d2, if_neg d3, if_neg d4, if_neg d5, if_neg d6, if_neg d7, if_neg d8, if_neg d9]
  · refine Ex.imp (sp_mSoul h1.1) (fun r2 S2 q => ⟨?_, KL.fr q.2 rfl rfl rfl⟩)
    by_cases c : sIn n x
    · obtain ⟨s, hs, hx⟩ := c
      rw [q.1.2 s hs hx, hA.2 s hs hx, slF, slF, hK.1.at 17 rfl, hK.1.at 25 rfl, hK.1.at 26 rfl, hK.1.at 27 rfl, hK.1.at 28 rfl, hK.1.at 29 rfl, hK.1.at 30 rfl, hK.1.at 31 rfl, gLo_sm hK.1.sm, gG_kl hK.1]
    · rw [q.1.1 c, hA.1 c]
theorem pb_fault {x : Int32} (hI : IC S n m) (hL : Ly S n) : PB G mX11_fault 1 [.ref 0, .int x] mX12_fault 1 [.ref 412, .int x] S := by
  have h3 := hI.2.2.2.2.2.2.2.2.2.1
  have h4 := hI.2.2.2.2.2.2.2.2.2.2
  refine PB.q (A := fun r => r = if x = 0 then S.1 0 3 else if x = 1 then S.1 0 4 else -1) hI hL ?_ (fun r S1 hA h1 hK => ?_)
  · refine eX11_fault (vX11_fault_0 ⟨fun c => ⟨fun d => ⟨by rw [if_neg c, if_neg d], KL.rf⟩, fun d => ⟨by rw [if_neg c, if_pos d], KL.rf⟩⟩, fun c => ⟨by rw [if_pos c], KL.rf⟩⟩)
  · have g3 := hK.1.2.1 2 rfl
    have g4 := hK.1.2.1 3 rfl
    refine eX12_fault (vX12_fault_0 ⟨fun c => ⟨fun d => ⟨by rw [hA, if_neg c, if_neg d], KL.rf⟩, fun d => ⟨by rw [hA, if_neg c, if_pos d, g4, h4], KL.rf⟩⟩, fun c => ⟨by rw [hA, if_pos c, g3, h3], KL.rf⟩⟩)
theorem pb_lies {x : Int32} (hI : IC S n m) (hL : Ly S n) : PB G mX11_lies 1 [.ref 0, .int x] mX12_lies 2 [.ref 412, .int x] S := by
  have hn := hI.n5
  obtain ⟨c, hc, l1, l2, l3⟩ := id hL
  refine PB.q (A := fun r => (¬ sIn c x → r = -2) ∧ ∀ i, i < c → x = nI i → r = S.1 370 i) hI hL ?_ (fun r S1 hA h1 hK => ?_)
  · refine eX11_lies (vX11_lies_0 ?_)
    rw [l1]
    have hg := ge_iff (x := x) (n := c) (by omega)
    refine ⟨fun d => ⟨⟨fun _ => rfl, fun i hi e => absurd d (hg.mpr ⟨i, hi, e⟩).1⟩, KL.rf⟩, fun d => ⟨fun e => ⟨⟨fun _ => rfl, fun i hi z => absurd e (hg.mpr ⟨i, hi, z⟩).2⟩, KL.rf⟩, fun e => ?_⟩⟩
    obtain ⟨i, hi, hx⟩ := hg.mp ⟨d, e⟩
    subst hx
    refine ⟨vp_in_nI (by omega) (by decide), ⟨fun z => absurd ⟨i, hi, rfl⟩ z, fun j hj z => ?_⟩, KL.rf⟩
    rw [← (nI_eq_i (by omega) (by omega)).mp z, nI_ix (n := i) (by omega)]
  · refine eX12_lies (vX12_lies_0 ⟨_, sp_isIn, fun r3 S2 q => ?_⟩)
    obtain ⟨q1, q2⟩ := q
    subst q2
    rw [hK.2.2.1, l2] at q1
    rw [q1, bI_0, decide_eq_false_iff_not, in_lt (by omega)]
    refine ⟨fun d => ⟨(hA.1 d).symm, KL.rf⟩, fun d => ?_⟩
    obtain ⟨i, hi, hx⟩ := Classical.not_not.mp d
    have := hA.2 i hi hx
    subst hx
    refine ⟨vp_in_nI (by omega) (by decide), ?_, KL.rf⟩
    rw [nI_ix (n := i) (by omega), hK.2.2.2.2, ← l3 i hi, this]
theorem fitP_kl {S1 : ovS} (h : KP S S1) : fitP S1 = fitP S := by
  have e : rpF S1 = rpF S := by
    funext d k j
    unfold rpF
    rw [LF_sm h.sm, h.at 377 rfl, h.at 378 rfl, h.at 379 rfl, h.at 380 rfl, h.at 381 rfl, h.at 382 rfl]
  funext c k d
  unfold fitP
  rw [e]
theorem RR.kp {S1 : ovS} {c : Nat} (hR : RR S c) (h : KP S S1) : RR S1 c := hR.cg (fun k hk => h.1 k (RRr_nsc k hk)) h.2.2.1 h.2.2.2 (h.2.1 63 rfl) (h.2.1 64 rfl)
theorem pb_sets {x : Int32} (hI : IC S n m) (hL : Ly S n) : PB G mX11_sets 5 [.ref 0, .int x] mX12_sets 6 [.ref 412, .int x] S := by
  obtain ⟨c, hR⟩ := hI.2.2.2.2.2.2.2.1
  refine PB.q (A := fun r => r = nI (mk (fitP S c x) (2 ^ m))) hI hL ?_ (fun r S1 hA h1 hK => ?_)
  · exact eX11_sets (vX11_sets_0 ⟨_, sp_fitting hI.fok hR.1 hI.2.1, fun r S2 q => ⟨q.1, KL.fr q.2 rfl rfl rfl⟩⟩)
  · refine Ex.imp (sp_mSets h1.1 (hR.kp hK.1) h1.2.2.1 h1.m5) (fun r2 S2 q => ⟨?_, KL.fj q.2 rfl rfl rfl rfl rfl⟩)
    rw [q.1, hA, fitP_kl hK.1]
theorem pb_sure {x k : Int32} (hI : IC S n m) (hL : Ly S n) : PB G mX11_sure 6 [.ref 0, .int x, .int k] mX12_sure 6 [.ref 412, .int x, .int k] S := by
  obtain ⟨c, hR⟩ := hI.2.2.2.2.2.2.2.1
  have hm := hI.m5
  refine PB.q (A := fun r => (¬ sIn m x → r = -1) ∧ ∀ d, d < m → x = nI d → r = suF (fitP S c k) (2 ^ m) d) hI hL ?_ (fun r S1 hA h1 hK => ?_)
  · refine eX11_sure (vX11_sure_0 ⟨_, sp_cIsDeed hI.2.1.1 hm, fun r3 S2 q => ?_⟩)
    obtain ⟨q1, q2⟩ := q
    subst q2
    refine ⟨fun c => ⟨⟨fun _ => rfl, fun s hs e => absurd ⟨s, hs, e⟩ (q1.mp c)⟩, KL.rf⟩, fun c => ?_⟩
    obtain ⟨d, hd, hx⟩ := nn_in q1 c
    subst hx
    refine ⟨_, sp_sure hI.fok hR.1 hI.2.1 (by omega), fun r9 S8 q => ⟨⟨fun z => absurd ⟨d, hd, rfl⟩ z, fun s' hs' e => ?_⟩, KL.fr q.2 rfl rfl rfl⟩⟩
    rw [← (nI_eq_i (by omega) (by omega)).mp e]
    exact q.1
  · refine Ex.imp (sp_mSure h1.1 (hR.kp hK.1) h1.2.2.1 h1.m5) (fun r2 S2 q => ⟨?_, KL.fj q.2 rfl rfl rfl rfl rfl⟩)
    rw [fitP_kl hK.1] at q
    by_cases c : sIn m x
    · obtain ⟨s, hs, hx⟩ := c
      rw [q.1.2 s hs hx, hA.2 s hs hx]
    · rw [q.1.1 c, hA.1 c]
theorem tlF_kl {S1 : ovS} (h : KP S S1) : tlF S1 = tlF S := by
  unfold tlF
  rw [LF_sm h.sm]
theorem pb_ask {st o w k : Int32} (hI : IC S n m) (hL : Ly S n) : PB G mX11_ask 6 [.ref 0, .int st, .int o, .int w, .int k] mX12_ask 6 [.ref 412, .int st, .int o, .int w, .int k] S := by
  obtain ⟨c, hR⟩ := hI.2.2.2.2.2.2.2.1
  refine PB.q (A := fun r => (¬ (sIn 100 st ∧ sIn 100 o ∧ (w = 0 ∨ w = 1)) → r = -1) ∧ (sIn 100 st ∧ sIn 100 o ∧ (w = 0 ∨ w = 1) → r = asR (fitP S c k) (2 ^ m) (tlF S st o) w)) hI hL ?_ (fun r S1 hA h1 hK => ?_)
  · have bad : ¬ (sIn 100 st ∧ sIn 100 o ∧ (w = 0 ∨ w = 1)) → ((¬ (sIn 100 st ∧ sIn 100 o ∧ (w = 0 ∨ w = 1)) → (-1 : Int32) = -1) ∧ (sIn 100 st ∧ sIn 100 o ∧ (w = 0 ∨ w = 1) → (-1 : Int32) = asR (fitP S c k) (2 ^ m) (tlF S st o) w)) ∧ KL S S := fun h => ⟨⟨fun _ => rfl, fun z => absurd z h⟩, KL.rf⟩
    refine eX11_ask (vX11_ask_0 ⟨_, sp_cIsHundredth, fun r3 S2 q => ?_⟩)
    obtain ⟨q1, q2⟩ := q
    subst q2
    refine ⟨fun z => bad (fun y => (q1.mp z) y.1), fun z => ⟨_, sp_cIsHundredth, fun r9 S8 q => ?_⟩⟩
    obtain ⟨p1, p2⟩ := q
    subst p2
    have z1 := nn_in q1 z
    refine ⟨fun z => bad (fun y => (p1.mp z) y.2.1), fun z => ?_⟩
    have z2 := nn_in p1 z
    refine ⟨fun d => ⟨_, sp_ask hI.fok hR.1 hI.2.1, fun r16 S15 q => ⟨⟨fun y => absurd ⟨z1, z2, Or.inl d⟩ y, fun _ => q.1⟩, KL.fr q.2 rfl rfl rfl⟩⟩, fun d => ⟨fun e => ⟨_, sp_ask hI.fok hR.1 hI.2.1, fun r16 S15 q => ⟨⟨fun y => absurd ⟨z1, z2, Or.inr e⟩ y, fun _ => q.1⟩, KL.fr q.2 rfl rfl rfl⟩⟩, fun e => bad (fun y => y.2.2.elim d e)⟩⟩
  · refine Ex.imp (sp_mAsk h1.1 (hR.kp hK.1) h1.2.2.1 h1.m5) (fun r2 S2 q => ⟨?_, KL.fj q.2 rfl rfl rfl rfl rfl⟩)
    rw [fitP_kl hK.1, tlF_kl hK.1] at q
    by_cases d : sIn 100 st ∧ sIn 100 o ∧ (w = 0 ∨ w = 1)
    · rw [q.1.2 d, hA.2 d]
    · rw [q.1.1 d, hA.1 d]
end
