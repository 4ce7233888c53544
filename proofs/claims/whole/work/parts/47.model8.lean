/-! ===== the reference: groups, likes ===== -/
section
variable {G : ovG} {S : ovS} {n : Nat} {nm : Nat → Int32}
theorem mem5 : ∀ g, g < 32 → ∀ b, b < 5 → (nI g >>> (nI b &&& 31)) &&& 1 = (if g.testBit b then 1 else 0) := by decide +kernel
theorem sp_members {g : Nat} (hg : g < 32) : Ex G mX12_members 1 [.int (nI g)] S (fun r S1 => r = bcF (nI g) ∧ S1 = S) := by
  rw [bc5 g hg]
  refine eX12_members (vX12_members_0 (loopUp (n := 5) (P := fun i => RM G mX12_members 1 _ 4 [some (.int (nI g)), some (.int (nI (fb_ct (fun i => g.testBit i) i))), some (.int (nI i))] [] S) ?_ ?_ 0 (by omega)))
  · exact vX12_members_4 ⟨fun _ => ⟨rfl, rfl⟩, fun c => absurd (by decide) c⟩
  · intro i hi ih
    refine vX12_members_4 ⟨fun c => absurd ((nI_le_i (a := 5) (by decide) (by omega)).mp c) (by omega), fun _ => ?_⟩
    rw [mem5 g hg i hi]
    cases hb : g.testBit i with
    | true =>
      rw [← ct_t (p := fun i => g.testBit i) (i := i) hb, nI_succ i] at ih
      exact ih
    | false =>
      rw [ct_f (p := fun i => g.testBit i) (i := i) hb, nI_succ i] at ih
      simp only [Bool.false_eq_true, if_false, Int32.add_zero]
      exact ih
theorem nt_nI (x : Nat) : nI x ^^^ (-1) = nI (x ^^^ (2 ^ 32 - 1)) := by rw [m1_nI, fb_xorI]
def gNm (g : Nat) : Nat → Int32 := fun i => if g.testBit i then 0 else -1
theorem gNm_m1 {g i : Nat} : gNm g i = -1 ↔ g.testBit i = false := by
  unfold gNm
  cases g.testBit i <;> simp
theorem gNm_VN {g : Nat} (hn : n ≤ 5) (hg : g < 2 ^ n) : VN n (gNm g) := by
  intro i hi
  refine ⟨fun h => ?_, fun h => ?_⟩
  · unfold gNm
    split
    · exact Or.inr ⟨0, by omega, rfl⟩
    · exact Or.inl rfl
  · rw [gNm_m1]
    exact Nat.testBit_lt_two_pow (Nat.lt_of_lt_of_le hg (Nat.pow_le_pow_right (by decide) h))
theorem mk_self {g n : Nat} (hg : g < 2 ^ n) : mk (fun i => g.testBit i) n = g := by
  apply Nat.eq_of_testBit_eq
  intro j
  rw [mk_bit]
  rcases Nat.lt_or_ge j n with q | q
  · simp [q]
  · rw [Nat.testBit_lt_two_pow (Nat.lt_of_lt_of_le hg (Nat.pow_le_pow_right (by decide) q))]
    simp
theorem gNm_mk {g : Nat} (hg : g < 32) : mk (fun i => decide (¬ gNm g i = -1)) 5 = g := by
  have e : mk (fun i => decide (¬ gNm g i = -1)) 5 = mk (fun i => g.testBit i) 5 := mk_ext (fun i _ => by
    cases h : g.testBit i with
    | true => exact decide_eq_true (fun z => absurd (gNm_m1.mp z) (by simp [h]))
    | false => exact decide_eq_false (fun z => z (gNm_m1.mpr h)))
  rw [e, mk_self (n := 5) hg]
theorem sp_isPeace {g : Nat} (hM : MX S n) (hg : g < 2 ^ n) : Ex G mX12_isPeace 2 [.ref 412, .int (nI g)] S (fun r S1 => r = bI (!anyN 5 (qrF (S.1 29) (nI g))) ∧ S1 = S) := by
  have hn := hM.n5
  have hg5 := pow5l hn hg
  obtain ⟨F, hF⟩ := hM.2.2.2.2.1
  have e := gSt_any (S := S) hn (gNm_VN hn hg) hF
  rw [gSt, gNm_mk hg5] at e
  rw [e]
  have sP : ∀ i j, stP F (gNm g) i j = (g.testBit i && g.testBit j && (F i).testBit j) := by
    intro i j
    unfold stP
    congr 1
    have h : ∀ i, decide (¬ gNm g i = -1) = g.testBit i := by
      intro i
      cases h : g.testBit i with
      | true => exact decide_eq_true (fun z => absurd (gNm_m1.mp z) (by simp [h]))
      | false => exact decide_eq_false (fun z => z (gNm_m1.mpr h))
    rw [h i, h j]
  refine eX12_isPeace (vX12_isPeace_0 (loopUp (n := n) (P := fun i => RM G mX12_isPeace 2 _ 4 [some (.ref 412), some (.int (nI g)), some (.int (bI (!anyN i (fun i => anyN i (stP F (gNm g) i))))), some (.int (nI i)), none] [] S) ?_ ?_ 0 (by omega)))
  · exact vX12_isPeace_4 ⟨fun _ => ⟨b01 _, rfl, rfl⟩, fun c => absurd hM.ge c⟩
  · intro i hi ih
    refine vX12_isPeace_4 ⟨fun c => absurd c (hM.le hi), fun _ => ?_⟩
    refine loopUp (n := i) (P := fun j => RM G mX12_isPeace 2 _ 15 [some (.ref 412), some (.int (nI g)), some (.int (bI (!(anyN i (fun i => anyN i (stP F (gNm g) i)) || anyN j (stP F (gNm g) i))))), some (.int (nI i)), some (.int (nI j))] [] S) ?_ ?_ 0 (by omega) |> fun h => by rw [show bI (!anyN i (fun i => anyN i (stP F (gNm g) i))) = bI (!(anyN i (fun i => anyN i (stP F (gNm g) i)) || anyN 0 (stP F (gNm g) i))) by simp [anyN]]; exact h
    · rw [nI_succ i] at ih
      exact vX12_isPeace_15 ⟨fun _ => ih, fun c => absurd (Int32.le_refl _) c⟩
    · intro j hj ih2
      rw [anyN, ← Bool.or_assoc, nI_succ j] at ih2
      generalize hb : (anyN i (fun i => anyN i (stP F (gNm g) i)) || anyN j (stP F (gNm g) i)) = b at ih2 ⊢
      refine vX12_isPeace_15 ⟨fun c => absurd ((nI_le_i (by omega) (by omega)).mp c) (by omega), fun _ => ⟨fun c => ?_, fun c => ?_⟩⟩
      · cases b
        · exact absurd c (by decide)
        · exact ih2
      · cases b
        · rw [sr5 g hg5 i (by omega), sr5 g hg5 j (by omega)]
          rw [sP i j, Bool.false_or] at ih2
          refine ⟨fun d => ?_, fun d => ⟨fun d2 => ?_, fun d2 => ⟨_, sp_isFeud hM hF.1 (by omega) (by omega), fun r7 S6 q => ?_⟩⟩⟩
          · rw [Bool.not_eq_true] at d
            rw [d] at ih2
            exact ih2
          · rw [Bool.not_eq_true] at d2
            rw [d2, Bool.and_false] at ih2
            exact ih2
          · obtain ⟨q1, q2⟩ := q
            subst q1 q2
            rw [d, d2, Bool.true_and] at ih2
            refine ⟨fun c2 => ?_, fun c2 => ?_⟩
            · rw [bI_0, Bool.not_eq_false] at c2
              rw [c2] at ih2
              exact ih2
            · rw [bI_0] at c2
              rw [c2] at ih2
              exact ih2
        · exact absurd rfl c
theorem pe_inv (N : Nat) (S : ovS) : ∀ v, v ≤ N → ∃ b, b ≤ N ∧ fvF (stPe S) 0 v = nI b
  | 0, _ => ⟨0, by omega, rfl⟩
  | v + 1, h => by
    rw [fvF, stPe]
    split
    · exact ⟨v, by omega, rfl⟩
    · exact pe_inv N S v (by omega)
theorem pe_inv' (S : ovS) : ∀ v, v ≤ 32 → ∃ b, b < 32 ∧ fvF (stPe S) 0 v = nI b
  | 0, _ => ⟨0, by omega, rfl⟩
  | v + 1, h => by
    rw [fvF, stPe]
    split
    · exact ⟨v, by omega, rfl⟩
    · exact pe_inv' S v (by omega)
def peR (S : ovS) (n : Nat) (x : Int32) : Int32 := if x = 0 then bcF (fvF (stPe S) 0 (2 ^ n)) else if x = 1 then fvF (stPe S) 0 (2 ^ n) else -1
theorem sp_mPeace {x : Int32} (hM : MX S n) : Ex G mX12_peace 3 [.ref 412, .int x] S (fun r S1 => r = peR S n x ∧ S1 = S) := by
  have hn := hM.n5
  have hp := pow5 hn
  have e35 : (1 : Int32) <<< (S.1 412 35 &&& 31) = nI (2 ^ n) := by rw [hM.2.1, sh1 n (by omega)]
  refine eX12_peace (vX12_peace_0 ?_)
  have h1 : fvF (stPe S) 0 1 = 0 := by
    rw [fvF, fvF, stPe, if_neg]
    exact fun z => z.1 (Int32.le_refl _)
  have hpos : 1 ≤ 2 ^ n := Nat.two_pow_pos n
  have key := loopUp (n := 2 ^ n) (P := fun i => 1 ≤ i → RM G mX12_peace 3 (fun r S1 => r = peR S n x ∧ S1 = S) 4 [some (.ref 412), some (.int x), some (.int (fvF (stPe S) 0 i)), some (.int (nI i))] [] S) ?_ ?_ 1 hpos (by omega)
  · rw [h1] at key
    exact key
  · intro _
    refine vX12_peace_4 ⟨fun _ => ⟨fun c => ⟨fun d => ⟨?_, rfl⟩, fun d => ⟨?_, rfl⟩⟩, fun c => ?_⟩, fun z => absurd (by rw [e35]; exact Int32.le_refl _) z⟩
    · rw [peR, if_neg c, if_neg d]
    · rw [peR, if_neg c, if_pos d]
    · obtain ⟨b, hb, eb⟩ := pe_inv' S (2 ^ n) hp
      rw [peR, if_pos c, eb]
      exact ⟨_, sp_members hb, fun r S5 q => q⟩
  · intro i hi ih _
    have ih' := ih (by omega)
    have hs : fvF (stPe S) 0 (i + 1) = stPe S (fvF (stPe S) 0 i) i := rfl
    rw [hs, nI_succ i] at ih'
    obtain ⟨b, hb, eb⟩ := pe_inv' S i (by omega)
    rw [eb] at ih' ⊢
    refine vX12_peace_4 ⟨fun c => ?_, fun _ => ⟨_, sp_members (by omega), fun r11 S10 q => ?_⟩⟩
    · rw [e35, nI_le_i (by omega) (by omega)] at c
      omega
    · obtain ⟨q1, q2⟩ := q
      subst q1 q2
      refine ⟨_, sp_members hb, fun r16 S15 q => ?_⟩
      obtain ⟨q1, q2⟩ := q
      subst q1 q2
      refine ⟨fun c => ?_, fun c => ⟨_, sp_isPeace hM hi, fun r22 S21 q => ?_⟩⟩
      · rw [stPe, if_neg (fun z => z.1 c)] at ih'
        exact ih'
      · obtain ⟨q1, q2⟩ := q
        subst q2
        rw [q1, bI_0]
        refine ⟨fun d => ?_, fun d => ?_⟩
        · rw [stPe, if_neg (fun z => by rw [z.2] at d; cases d)] at ih'
          exact ih'
        · rw [stPe, if_pos ⟨c, by simpa using d⟩] at ih'
          exact ih'
/-! silent -/
def siP (S : ovS) (sy : Nat) (g : Nat) : Bool := decide ((nI g &&& (nI sy ^^^ (-1))) = 0) && !(anyN 5 (qrF (S.1 29) (nI sy &&& (nI g ^^^ (-1)))))
def stSm (S : ovS) (sy : Nat) (b : Int32) (g : Nat) : Int32 := if siP S sy g = true ∧ (b < 0 ∨ ¬ bcF b ≤ bcF (nI g)) then nI g else b
theorem subs_bc : ∀ s, s < 32 → ∀ g, g < 32 → (nI g &&& (nI s ^^^ (-1))) = 0 → g ≠ s → ¬ bcF (nI s) ≤ bcF (nI g) := by decide +kernel
theorem self_z : ∀ s, s < 32 → (nI s &&& (nI s ^^^ (-1))) = 0 := by decide +kernel
theorem stSi_of {S : ovS} {sy g : Nat} {b : Int32} : stSi S (nI sy) b g = if ¬ bcF b ≤ bcF (nI g) ∧ siP S sy g = true then nI g else b := by
  unfold stSi siP
  simp only [Bool.and_eq_true, decide_eq_true_iff, Bool.not_eq_true']
theorem si_eq {S : ovS} {sy : Nat} (hs : sy < 32) : ∀ v, v ≤ 32 → (fvF (stSm S sy) (-1) v = -1 ∧ fvF (stSi S (nI sy)) (nI sy) v = nI sy ∧ v ≤ sy) ∨ (∃ b, b < 32 ∧ fvF (stSm S sy) (-1) v = nI b ∧ fvF (stSi S (nI sy)) (nI sy) v = nI b)
  | 0, _ => Or.inl ⟨rfl, rfl, by omega⟩
  | v + 1, h => by
    have hq : siP S sy sy = true := by
      have e : qrF (S.1 29) 0 = fun _ => false := by
        funext i
        unfold qrF
        rw [Int32.zero_and]
        simp
      have h2 : nI sy &&& (nI sy ^^^ (-1)) = 0 := self_z sy hs
      unfold siP
      rw [h2, e]
      decide
    rcases si_eq (S := S) hs v (by omega) with ⟨h1, h2, h3⟩ | ⟨b, hb, h1, h2⟩
    · rw [fvF, fvF, h1, h2, stSm, stSi_of]
      by_cases hc : siP S sy v = true
      · rw [if_pos ⟨hc, Or.inl (by decide)⟩]
        right
        refine ⟨v, by omega, rfl, ?_⟩
        by_cases e : v = sy
        · subst e
          split <;> rfl
        · have hc1 : (nI v &&& (nI sy ^^^ (-1))) = 0 := by
            have hc2 := hc
            simp only [siP, Bool.and_eq_true, decide_eq_true_iff] at hc2
            exact hc2.1
          rw [if_pos ⟨subs_bc sy hs v (by omega) hc1 e, hc⟩]
      · rw [if_neg (fun z => hc z.1), if_neg (fun z => hc z.2)]
        refine Or.inl ⟨rfl, rfl, ?_⟩
        have : v ≠ sy := fun e => by subst e; exact hc hq
        omega
    · rw [fvF, fvF, h1, h2, stSm, stSi_of]
      right
      have hnn : ¬ nI b < 0 := nI_neg (by omega)
      by_cases hc : siP S sy v = true ∧ ¬ bcF (nI b) ≤ bcF (nI v)
      · rw [if_pos ⟨hc.1, Or.inr hc.2⟩, if_pos ⟨hc.2, hc.1⟩]
        exact ⟨v, by omega, rfl, rfl⟩
      · rw [if_neg (fun z => hc ⟨z.1, z.2.resolve_left hnn⟩), if_neg (fun z => hc ⟨z.2, z.1⟩)]
        exact ⟨b, hb, rfl, rfl⟩
theorem sm_inv {S : ovS} {sy : Nat} : ∀ v, v ≤ 32 → fvF (stSm S sy) (-1) v = -1 ∨ ∃ b, b < 32 ∧ fvF (stSm S sy) (-1) v = nI b
  | 0, _ => Or.inl rfl
  | v + 1, h => by
    rw [fvF, stSm]
    split
    · exact Or.inr ⟨v, by omega, rfl⟩
    · exact sm_inv v (by omega)
/-- the sayings without a group -/
def wo (nm : Nat → Int32) (g i : Nat) : Nat → Int32 := fun s => if s < i ∧ g.testBit s = true then -1 else nm s
theorem wo_VN {g i : Nat} (hV : VN n nm) : VN n (wo nm g i) := by
  intro s hs
  unfold wo
  split
  · exact ⟨fun _ => Or.inl rfl, fun _ => rfl⟩
  · exact hV s hs
theorem wo_mk {sy g : Nat} (hn : n ≤ 5) (hV : VN n nm) (hsy : sy = mk (fun i => decide (¬ nm i = -1)) 5) (hg : g < 2 ^ n) : nI (mk (fun i => decide (¬ wo nm g n i = -1)) 5) = nI sy &&& (nI g ^^^ (-1)) := by
  rw [nt_nI, fa_and]
  congr 1
  rw [hsy]
  have h5 : g < 2 ^ 5 := pow5l hn hg
  conv => rhs; rw [← mk_self (g := g) (n := 5) h5]
  rw [mk_not (by decide)]
  refine mk_ext (fun i hi => ?_)
  unfold wo
  cases hb : g.testBit i with
  | true =>
    have : i < n := by
      rcases Nat.lt_or_ge i n with q | q
      · exact q
      · rw [Nat.testBit_lt_two_pow (Nat.lt_of_lt_of_le hg (Nat.pow_le_pow_right (by decide) q))] at hb
        cases hb
    simp [this]
  | false => simp
def cnF (nm : Nat → Int32) (g : Nat) (i : Nat) : Bool := anyN i (fun s => g.testBit s && decide (nm s = -1))
theorem cn_sub {sy g : Nat} (hn : n ≤ 5) (hV : VN n nm) (hsy : sy = mk (fun i => decide (¬ nm i = -1)) 5) (hg : g < 2 ^ n) : (nI g &&& (nI sy ^^^ (-1))) = 0 ↔ cnF nm g n = false := by
  have h5 : g < 2 ^ 5 := pow5l hn hg
  have e : nI g &&& (nI sy ^^^ (-1)) = nI (mk (fun i => g.testBit i && !(decide (¬ nm i = -1))) 5) := by
    rw [nt_nI, fa_and, hsy]
    congr 1
    conv => lhs; rw [← mk_self (g := g) (n := 5) h5]
    rw [mk_not (by decide)]
  rw [e, nI_z (mk_lt32 (by decide)), mk_z]
  have : anyN 5 (fun i => g.testBit i && !(decide (¬ nm i = -1))) = cnF nm g n := by
    rw [any5 hn]
    · unfold cnF
      congr 1
      funext s
      rw [decide_not, Bool.not_not]
    · intro i h1 _
      rw [Nat.testBit_lt_two_pow (Nat.lt_of_lt_of_le hg (Nat.pow_le_pow_right (by decide) h1))]
      rfl
  rw [this]
theorem sp_mSilent (hM : MX S n) : Ex G mX12_silent 3 [.ref 412] S (fun r S1 => r = fvF (stSi S (nI (mk (fun i => decide (¬ S.1 26 i = -1)) 5))) (nI (mk (fun i => decide (¬ S.1 26 i = -1)) 5)) (2 ^ n) ∧ Fr M5 S S1) := by
  have hn := hM.n5
  have hV := hM.2.2.2.2.2.1
  have hp := pow5 hn
  obtain ⟨sy, hsy⟩ : ∃ sy, sy = mk (fun i => decide (¬ S.1 26 i = -1)) 5 := ⟨_, rfl⟩
  have hs32 : sy < 32 := by rw [hsy]; exact mk_lt _ 5
  have hsn : sy < 2 ^ n := by
    have : sy = mk (fun i => decide (¬ S.1 26 i = -1)) n := by
      rw [hsy]
      apply Nat.eq_of_testBit_eq
      intro j
      rw [mk_bit, mk_bit]
      rcases Nat.lt_or_ge j n with h | h
      · simp [h, show j < 5 by omega]
      · by_cases h5 : j < 5
        · simp [(hV j h5).2 h]
        · simp [h5, Nat.not_lt.mpr h]
    rw [this]
    exact mk_lt _ n
  rw [← hsy]
  have hfin : fvF (stSi S (nI sy)) (nI sy) (2 ^ n) = fvF (stSm S sy) (-1) (2 ^ n) := by
    rcases si_eq (S := S) hs32 (2 ^ n) hp with ⟨_, _, h⟩ | ⟨b, _, h1, h2⟩
    · omega
    · rw [h1, h2]
  rw [hfin]
  obtain ⟨Q, hQ⟩ : ∃ Q : Int32 → ovS → Prop, Q = (fun r S1 => r = fvF (stSm S sy) (-1) (2 ^ n) ∧ Fr M5 S S1) := ⟨_, rfl⟩
  rw [← hQ]
  refine eX12_silent (vX12_silent_0 ?_)
  have key : ∀ k g : Nat, ∀ S' : ovS, g + k = 2 ^ n → Fr M5 S S' → RM G mX12_silent 3 Q 4 [some (.ref 412), some (.int (fvF (stSm S sy) (-1) g)), some (.int (nI g)), none, none] [] S' := by
    intro k
    induction k with
    | zero =>
      intro g S' hg hF
      have : g = 2 ^ n := by omega
      subst this
      refine vX12_silent_4 ⟨fun _ => by rw [hQ]; exact ⟨rfl, hF⟩, fun c => absurd ?_ c⟩
      rw [(hM.fm (FM.of hF rfl)).2.1, sh1 n (by omega)]
      exact Int32.le_refl _
    | succ k ih =>
      intro g S' hg hF
      have hg2 : g < 2 ^ n := by omega
      have hg5 := pow5l hn hg2
      have ih' := ih (g + 1)
      have hs : fvF (stSm S sy) (-1) (g + 1) = stSm S sy (fvF (stSm S sy) (-1) g) g := rfl
      rw [hs, nI_succ g] at ih'
      have hin := sm_inv (S := S) (sy := sy) g (by omega)
      generalize fvF (stSm S sy) (-1) g = b at ih' hin ⊢
      have hM' := hM.fm (FM.of hF rfl)
      refine vX12_silent_4 ⟨fun c => ?_, fun _ => ⟨_, sp_mLoad' hM', fun r4 S3 q => ?_⟩⟩
      · rw [hM'.2.1, sh1 n (by omega), nI_le_i (by omega) (by omega)] at c
        omega
      · obtain ⟨p1, p2⟩ := q
        rw [hF.at 26 rfl] at p1
        have inner : ∀ k2 i : Nat, ∀ S2 : ovS, i + k2 = n → SY S2 n (wo (S.1 26) g i) → Fr M5 S S2 → RM G mX12_silent 3 Q 23 [some (.ref 412), some (.int b), some (.int (nI g)), some (.int (bI (!cnF (S.1 26) g i))), some (.int (nI i))] [] S2 := by
          intro k2
          induction k2 with
          | zero =>
            intro i S2 hi h1 h2
            have : i = n := by omega
            subst this
            have hM2 := hM.fm (FM.of h2 rfl)
            have hsub := cn_sub hn hV hsy hg2
            have hst : gSt S2 (wo (S.1 26) g i) = anyN 5 (qrF (S.1 29) (nI sy &&& (nI g ^^^ (-1)))) := by
              rw [gSt, wo_mk hn hV hsy hg2, h2.at 29 rfl]
            refine vX12_silent_23 ⟨fun _ => ⟨fun c => ?_, fun c => ⟨_, sp_isStone hM2 (wo_VN hV) h1, fun r5 S4 q => ?_⟩⟩, fun c => absurd hM2.ge c⟩
            · rw [bI_0] at c
              have : siP S sy g = false := by
                unfold siP
                rw [decide_eq_false (fun z => by rw [hsub.mp z] at c; cases c)]
                rfl
              rw [stSm, if_neg (fun z => by rw [this] at z; exact absurd z.1 (by decide))] at ih'
              exact ih' S2 (by omega) h2
            · rw [bI_0, Bool.not_eq_false] at c
              have c' : cnF (S.1 26) g i = false := by simpa using c
              obtain ⟨q1, q2⟩ := q
              subst q2
              rw [hst] at q1
              have hsi : siP S sy g = !(anyN 5 (qrF (S.1 29) (nI sy &&& (nI g ^^^ (-1))))) := by
                unfold siP
                rw [decide_eq_true (hsub.mpr c'), Bool.true_and]
              rw [q1, bI_0]
              refine ⟨fun d => ?_, fun d => ?_⟩
              · rw [Bool.not_eq_false] at d
                rw [d] at hsi
                rw [stSm, if_neg (fun z => by rw [hsi] at z; exact absurd z.1 (by decide))] at ih'
                exact ih' _ (by omega) h2
              · rw [d] at hsi
                rcases hin with hb | ⟨bb, hbb, hb⟩
                · rw [stSm, if_pos ⟨hsi, Or.inl (by rw [hb]; decide)⟩] at ih'
                  exact ⟨fun _ => ih' _ (by omega) h2, fun z => absurd (by rw [hb]; decide) z⟩
                · rw [hb] at ih' ⊢
                  have hnn : ¬ nI bb < 0 := nI_neg (by omega)
                  refine ⟨fun z => absurd z hnn, fun _ => ⟨_, sp_members hg5, fun r12 S11 q => ?_⟩⟩
                  obtain ⟨z1, z2⟩ := q
                  subst z1 z2
                  refine ⟨_, sp_members hbb, fun r17 S16 q => ?_⟩
                  obtain ⟨z1, z2⟩ := q
                  subst z1 z2
                  refine ⟨fun e => ?_, fun e => ?_⟩
                  · rw [stSm, if_neg (fun z => z.2.elim hnn (fun y => y e))] at ih'
                    exact ih' _ (by omega) h2
                  · rw [stSm, if_pos ⟨hsi, Or.inr e⟩] at ih'
                    exact ih' _ (by omega) h2
          | succ k2 ih2 =>
            intro i S2 hi h1 h2
            have hi' : i < n := by omega
            have hM2 := hM.fm (FM.of h2 rfl)
            have hii : vp_in (nI i) 5 := vp_in_nI (by omega) (by decide)
            have hix : (nI i).toNatClampNeg = i := nI_ix (by omega)
            have hwi : S2.1 427 i = S.1 26 i := by rw [h1 i hi', wo, if_neg (fun z => absurd z.1 (by omega))]
            have hh := ih2 (i + 1)
            rw [nI_succ i, cnF, anyN, ← cnF] at hh
            have b2 : ((nI g >>> (nI i &&& 31)) &&& 1) = 0 ↔ g.testBit i = false := by
              rw [mem5 g hg5 i (by omega)]
              cases g.testBit i <;> decide
            have sy1 : g.testBit i = true → SY (stI S2 427 i (-1)) n (wo (S.1 26) g (i + 1)) := by
              intro hb j hj
              rw [stI_self]
              by_cases e : j = i
              · subst e
                simp [upd, wo, hb]
              · simp only [upd, if_neg e]
                rw [h1 j hj]
                unfold wo
                have : (j < i ∧ g.testBit j = true) ↔ (j < i + 1 ∧ g.testBit j = true) := and_congr_left (fun _ => by omega)
                simp only [this]
            refine vX12_silent_23 ⟨fun c => absurd c (hM2.le hi'), fun _ => ?_⟩
            rw [b2, hix, hwi]
            refine ⟨fun c => ?_, fun c => ?_⟩
            · rw [Bool.not_eq_false] at c
              rw [c, Bool.true_and] at hh
              refine ⟨fun d => ⟨hii, fun S23 e23 => ?_⟩, fun d => ⟨hii, ?_⟩⟩
              · subst e23
                rw [bI_0] at d
                have d' : cnF (S.1 26) g i = true := by simpa using d
                rw [d', Bool.true_or] at hh
                exact hh _ (by omega) (sy1 c) (h2.st rfl)
              · rw [bI_0, Bool.not_eq_false] at d
                have d' : cnF (S.1 26) g i = false := by simpa using d
                rw [d', Bool.false_or] at hh
                rw [nm_neg ((hV i (by omega)).1 hi') hn]
                refine ⟨fun e => ⟨hii, fun S25 e25 => ?_⟩, fun e => ⟨hii, fun S25 e25 => ?_⟩⟩
                · subst e25
                  rw [decide_eq_true e] at hh
                  exact hh _ (by omega) (sy1 c) (h2.st rfl)
                · subst e25
                  rw [decide_eq_false e] at hh
                  exact hh _ (by omega) (sy1 c) (h2.st rfl)
            · rw [c, Bool.false_and, Bool.or_false] at hh
              refine hh S2 (by omega) (fun j hj => ?_) h2
              rw [h1 j hj]
              unfold wo
              by_cases e : j = i
              · subst e
                simp [c]
              · have : (j < i ∧ g.testBit j = true) ↔ (j < i + 1 ∧ g.testBit j = true) := and_congr_left (fun _ => by omega)
                simp only [this]
        refine inner n 0 S3 (by omega) (fun j hj => ?_) (hF.tr p2)
        rw [p1 j hj, wo, if_neg (fun z => absurd z.1 (by omega))]
  exact key (2 ^ n) 0 S (by omega) Fr.rf
/-! alike -/
def alM (f : Nat → Int32) : Nat → Nat
  | 0 => 0
  | a + 1 => alM f a + fb_ct (fun b => decide (f a = f b)) a
theorem al_eq {f : Nat → Int32} (hn : n ≤ 5) : alM f n = alF f n n := by
  have e : ∀ a b, decide (f a = f b) = decide (f b = f a) := fun a b => decide_eq_decide.mpr eq_comm
  have : n = 0 ∨ n = 1 ∨ n = 2 ∨ n = 3 ∨ n = 4 ∨ n = 5 := by omega
  rcases this with rfl | rfl | rfl | rfl | rfl | rfl
  · rfl
  · simp [alM, alF, fb_ct]
  · simp [alM, alF, fb_ct, e 1 0]
  · simp [alM, alF, fb_ct, e 1 0, e 2 0, e 2 1]
    omega
  · simp [alM, alF, fb_ct, e 1 0, e 2 0, e 2 1, e 3 0, e 3 1, e 3 2]
    omega
  · simp [alM, alF, fb_ct, e 1 0, e 2 0, e 2 1, e 3 0, e 3 1, e 3 2, e 4 0, e 4 1, e 4 2, e 4 3]
    omega
theorem sp_mAlike (hM : MX S n) : Ex G mX12_alike 7 [.ref 412] S (fun r S1 => r = nI (alF (fun i => gLo S i (gSd (S.1 26))) n n) ∧ Fr M5 S S1) := by
  have hn := hM.n5
  rw [← al_eq hn]
  refine eX12_alike (vX12_alike_0 ⟨_, sp_layNow hM, fun r3 S2 q => ?_⟩)
  obtain ⟨p1, p2, p3, p4⟩ := q
  have hM2 := hM.fm (FM.of p4 rfl)
  generalize hf : (fun i => gLo S i (gSd (S.1 26))) = f
  have hl : ∀ i, i < n → S2.1 428 i = f i := fun i hi => by rw [p2 i hi, ← hf]
  refine loopUp (n := n) (P := fun i => RM G mX12_alike 7 (fun r S1 => r = nI (alM f n) ∧ Fr M5 S S1) 8 [some (.ref 412), some (.int (nI (alM f i))), some (.int (nI i)), none] [] S2) ?_ ?_ 0 (by omega)
  · exact vX12_alike_8 ⟨fun _ => ⟨rfl, p4⟩, fun c => absurd hM2.ge c⟩
  · intro i hi ih
    refine vX12_alike_8 ⟨fun c => absurd c (hM2.le hi), fun _ => ?_⟩
    refine loopUp (n := i) (P := fun j => RM G mX12_alike 7 (fun r S1 => r = nI (alM f n) ∧ Fr M5 S S1) 18 [some (.ref 412), some (.int (nI (alM f i + fb_ct (fun b => decide (f i = f b)) j))), some (.int (nI i)), some (.int (nI j))] [] S2) ?_ ?_ 0 (by omega)
    · rw [nI_succ i] at ih
      exact vX12_alike_18 ⟨fun _ => ih, fun c => absurd (Int32.le_refl _) c⟩
    · intro j hj ih2
      refine vX12_alike_18 ⟨fun c => absurd ((nI_le_i (by omega) (by omega)).mp c) (by omega), fun _ => ⟨vp_in_nI (by omega) (by decide), vp_in_nI (by omega) (by decide), ?_⟩⟩
      rw [nI_ix (n := i) (by omega), nI_ix (n := j) (by omega), hl i hi, hl j (by omega)]
      refine ⟨fun c => ⟨_, tr0, fun r5 S4 q => ?_⟩, fun c => ⟨_, tr1, fun r5 S4 q => ?_⟩⟩
      · obtain ⟨q1, q2⟩ := q
        subst q1 q2
        rw [ct_f (i := j) (by simp [c]), nI_succ j] at ih2
        rw [Int32.add_zero]
        exact ih2
      · obtain ⟨q1, q2⟩ := q
        subst q1 q2
        rw [fb_ct, if_pos (by simp [c]), ← Nat.add_assoc, nI_succ j, ← nI_1] at ih2
        exact ih2
end
