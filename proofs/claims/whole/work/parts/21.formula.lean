/-! ===== the class's formula: units, joinings, the reckoning ===== -/
def fU (s t d st o h sd : Int32) : Int32 := if s = 1 then (d >>> (t &&& 31)) &&& 1 else if s = 2 then st else if s = 3 then o else if s = 4 then h else if s = 5 then sd else t
def fJ (s a b : Int32) : Int32 :=
  if s = 6 then (if a = 0 then (if b = 0 then 0 else 1) else 1)
  else if s = 7 then (if a = 0 then 0 else if b = 0 then 0 else 1)
  else if s = 9 then (if b ≤ a then 0 else 1)
  else if s = 10 then (if a ≤ b then 0 else 1)
  else if s = 11 then (if a = b then 1 else 0)
  else if s = 12 then a + b
  else if s = 13 then a - b
  else if s = 14 then a * b
  else if s = 15 then (if b = 0 then 0 else a / b)
  else (if b = 0 then 0 else orem a b)
theorem sp_unit {G : ovG} {S : ovS} {s t d st o h sd : Int32} : Ex G mX1_unit 1 [.int s, .int t, .int d, .int st, .int o, .int h, .int sd] S (fun r S1 => r = fU s t d st o h sd ∧ S1 = S) := by
  refine eX1_unit (vX1_unit_0 ⟨fun c => ⟨by subst c; rfl, rfl⟩, fun c => ⟨by subst c; rfl, rfl⟩, fun c => ⟨by subst c; rfl, rfl⟩, fun c => ⟨by subst c; rfl, rfl⟩, fun c => ⟨by subst c; rfl, rfl⟩, fun c1 c2 c3 c4 c5 => ⟨?_, rfl⟩⟩)
  simp only [fU, if_neg c1, if_neg c2, if_neg c3, if_neg c4, if_neg c5]
theorem sp_join {G : ovG} {S : ovS} {s a b : Int32} : Ex G mX1_join 1 [.int s, .int a, .int b] S (fun r S1 => r = fJ s a b ∧ S1 = S) := by
  refine eX1_join (vX1_join_0 ⟨fun c => ?_, fun c => ?_, fun c => ?_, fun c => ?_, fun c => ?_, fun c => ?_, fun c => ?_, fun c => ?_, fun c => ?_, fun c => ?_, fun c1 c2 c3 c4 c5 c6 c7 c8 c9 c10 => ?_⟩)
  · subst c
    refine ⟨fun q => ⟨?_, rfl⟩, fun q => ⟨fun q2 => ⟨?_, rfl⟩, fun q2 => ⟨?_, rfl⟩⟩⟩ <;> simp [fJ, *]
  · subst c
    refine ⟨fun q => ⟨?_, rfl⟩, fun q => ⟨fun q2 => ⟨?_, rfl⟩, fun q2 => ⟨?_, rfl⟩⟩⟩ <;> simp [fJ, *]
  · subst c
    refine ⟨fun q => ⟨q, ?_, rfl⟩, fun q => ⟨?_, rfl⟩⟩ <;> simp [fJ, *]
  · subst c
    refine ⟨fun q => ⟨?_, rfl⟩, fun q => ⟨?_, rfl⟩⟩ <;> simp [fJ, *]
  · subst c
    refine ⟨fun q => ⟨?_, rfl⟩, fun q => ⟨?_, rfl⟩⟩ <;> simp [fJ, *]
  · subst c
    refine ⟨fun q => ⟨?_, rfl⟩, fun q => ⟨?_, rfl⟩⟩ <;> simp [fJ, *]
  · subst c
    exact ⟨rfl, rfl⟩
  · subst c
    exact ⟨rfl, rfl⟩
  · subst c
    exact ⟨rfl, rfl⟩
  · subst c
    refine ⟨fun q => ⟨q, ?_, rfl⟩, fun q => ⟨?_, rfl⟩⟩ <;> simp [fJ, *]
  · refine ⟨fun q => ⟨q, ?_, rfl⟩, fun q => ⟨?_, rfl⟩⟩ <;> simp [fJ, *]
def evL (s t : Nat → Int32) (d st o h sd : Int32) : Nat → List Int32
  | 0 => []
  | i + 1 =>
    if 5 < s i then
      (if s i = 8 then (match evL s t d st o h sd i with
        | a :: r => (if a = 0 then 1 else 0) :: r
        | [] => [])
      else (match evL s t d st o h sd i with
        | b :: a :: r => fJ (s i) a b :: r
        | l => l))
    else if 31 ≤ (evL s t d st o h sd i).length then evL s t d st o h sd i else fU (s i) (t i) d st o h sd :: evL s t d st o h sd i
def clL (x : Int32) : Int32 := omax 0 (omin 99 x)
/-- a LOAF by n steps -/
def LFl (n : Nat) (s t : Nat → Int32) (d st o h sd : Int32) : Int32 := if n = 0 then 10 else clL ((evL s t d st o h sd n).getLastD 0)
/-- a row holds a stack, its bottom first -/
def SK (f : Nat → Int32) : List Int32 → Prop
  | [] => True
  | a :: l => f l.length = a ∧ SK f l
theorem SK_up {f : Nat → Int32} {v : Int32} : ∀ {l : List Int32} {j : Nat}, SK f l → l.length ≤ j → SK (upd f j v) l
  | [], _, _, _ => trivial
  | a :: l, j, h, hj => by
    rw [List.length_cons] at hj
    refine ⟨?_, SK_up h.2 (by omega)⟩
    simp only [upd, if_neg (show ¬ l.length = j by omega)]
    exact h.1
theorem SK.bot {f : Nat → Int32} : ∀ {l : List Int32}, l ≠ [] → SK f l → f 0 = l.getLastD 0
  | [], h, _ => absurd rfl h
  | [a], _, h => h.1
  | a :: b :: l, _, h => by
    have := SK.bot (l := b :: l) (by simp) h.2
    rw [this]
    simp
theorem evL_len (s t : Nat → Int32) (d st o h sd : Int32) : ∀ n, (evL s t d st o h sd n).length ≤ 31
  | 0 => by simp [evL]
  | n + 1 => by
    have ih := evL_len s t d st o h sd n
    rw [evL]
    split
    · split
      · cases hk : evL s t d st o h sd n with
        | nil => simp
        | cons a r => rw [hk] at ih; simpa using ih
      · cases hk : evL s t d st o h sd n with
        | nil => simp
        | cons b r =>
          cases r with
          | nil => simp
          | cons a r =>
            rw [hk] at ih
            simp only [List.length_cons] at ih ⊢
            omega
    · split
      · exact ih
      · rw [List.length_cons]
        omega
theorem evL_ne (s t : Nat → Int32) (d st o h sd : Int32) (h0 : ¬ 5 < s 0) : ∀ n, evL s t d st o h sd (n + 1) ≠ []
  | 0 => by simp [evL, h0]
  | n + 1 => by
    have ih := evL_ne s t d st o h sd h0 n
    rw [evL]
    cases hk : evL s t d st o h sd (n + 1) with
    | nil => exact absurd hk ih
    | cons a r =>
      split
      · split
        · simp
        · cases r with
          | nil => simp
          | cons b r => simp
      · split <;> simp
theorem nI2m1 (m : Nat) : nI (m + 2) + (-1) = nI (m + 1) := pk_m1 (m + 1)
theorem nI2m2 (m : Nat) : nI (m + 1) - 1 = nI m := nI_pred m
theorem sp_loaf {G : ovG} {S : ovS} {n : Nat} {d st o h sd : Int32} (hn : n ≤ 300) (e : S.1 20 1 = nI n) (h0 : n = 0 ∨ ¬ 5 < S.1 21 0) : Ex G mX1_loaf 2 [.ref 20, .int d, .int st, .int o, .int h, .int sd] S (fun r S1 => r = LFl n (S.1 21) (S.1 22) d st o h sd ∧ Fr [23] S S1) := by
  refine eX1_loaf (vX1_loaf_0 ⟨fun c => ?_, fun c => ?_⟩)
  · have hn0 : n ≠ 0 := fun q => c (by rw [e, q]; rfl)
    have h5 : ¬ 5 < S.1 21 0 := h0.resolve_left hn0
    have key : ∀ k i : Nat, ∀ S' : ovS, i + k = n → Fr [23] S S' → SK (S'.1 23) (evL (S.1 21) (S.1 22) d st o h sd i) → RM G mX1_loaf 2 (fun r S1 => r = LFl n (S.1 21) (S.1 22) d st o h sd ∧ Fr [23] S S1) 16 [some (.ref 20), some (.int d), some (.int st), some (.int o), some (.int h), some (.int sd), some (.int (nI (evL (S.1 21) (S.1 22) d st o h sd i).length)), some (.int (nI i)), none] [] S' := by
      intro k
      induction k with
      | zero =>
        intro i S' hi hF hK
        have hi' : i = n := by omega
        subst hi'
        obtain ⟨m, rfl⟩ : ∃ m, i = m + 1 := ⟨i - 1, by omega⟩
        refine vX1_loaf_16 ⟨fun c => ⟨?_, hF⟩, fun c => absurd (by rw [hF.at 20 rfl, e]; exact Int32.le_refl _) c⟩
        rw [LFl, if_neg hn0, clL, hK.bot (evL_ne _ _ _ _ _ _ _ h5 m)]
      | succ k ih =>
        intro i S' hi hF hK
        have hlt : i < n := by omega
        have e20 := hF.at 20 rfl
        have e21 := hF.at 21 rfl
        have e22 := hF.at 22 rfl
        have hix : (nI i).toNatClampNeg = i := nI_ix (by omega)
        have hlen := evL_len (S.1 21) (S.1 22) d st o h sd i
        obtain ⟨l, hl⟩ : ∃ l, evL (S.1 21) (S.1 22) d st o h sd i = l := ⟨_, rfl⟩
        have ih' := ih (i + 1)
        rw [nI_succ] at ih'
        simp only [evL, hl] at ih'
        rw [hl] at hK hlen ⊢
        refine vX1_loaf_16 ⟨fun c => absurd c ?_, fun c => ⟨vp_in_nI (by omega) (by omega), fun c1 => ?_, fun c1 => ?_⟩⟩
        · rw [e20, e, nI_le_i (by omega) (by omega)]
          omega
        · rw [e21, hix] at c1
          simp only [if_pos c1] at ih'
          rw [e21, hix]
          refine ⟨fun c2 => ?_, fun c2 => ?_⟩
          · simp only [if_neg c2] at ih'
            match l, hK, hlen, ih' with
            | [], hK, _, ih' => exact ⟨fun _ => ih' S' (by omega) hF hK, fun c3 => absurd (by decide) c3⟩
            | [a], hK, _, ih' => exact ⟨fun _ => ih' S' (by omega) hF hK, fun c3 => absurd (show nI 1 < 2 by decide) c3⟩
            | b :: a :: r, hK, hlen, ih' =>
              simp only [List.length_cons] at hlen ⊢
              have x1 : nI (r.length + 1 + 1) + (-1) = nI (r.length + 1) := nI2m1 _
              have x2 : (nI (r.length + 1)).toNatClampNeg = r.length + 1 := nI_ix (by omega)
              have x3 : (nI r.length).toNatClampNeg = r.length := nI_ix (by omega)
              rw [x1, nI2m2, x2, x3]
              refine ⟨fun c3 => absurd ((nI_lt_i (b := 2) (by omega) (by decide)).mp c3) (by omega), fun _ => ⟨vp_in_nI (by omega) (by omega), vp_in_nI (by omega) (by omega), _, sp_join, fun r1 S1 q => ⟨vp_in_nI (by omega) (by omega), fun S2 e2 => ?_⟩⟩⟩
              obtain ⟨q1, q2⟩ := q
              subst q2
              subst e2
              have hb : S1.1 23 (r.length + 1) = b := hK.1
              have ha : S1.1 23 r.length = a := hK.2.1
              rw [hb, ha] at q1
              refine ih' _ (by omega) (hF.st rfl) ?_
              rw [stI_self]
              refine ⟨?_, SK_up hK.2.2 (Nat.le_refl _)⟩
              simp [upd, q1]
          · simp only [if_pos c2] at ih'
            match l, hK, hlen, ih' with
            | [], hK, _, ih' => exact ⟨fun _ => ih' S' (by omega) hF hK, fun c3 => absurd (by decide) c3⟩
            | a :: r, hK, hlen, ih' =>
              simp only [List.length_cons] at hlen ⊢
              have x3 : (nI r.length).toNatClampNeg = r.length := nI_ix (by omega)
              rw [nI2m2, x3]
              have ha : S'.1 23 r.length = a := hK.1
              refine ⟨fun c3 => absurd ((nI_lt_i (b := 1) (by omega) (by decide)).mp c3) (by omega), fun _ => ⟨vp_in_nI (by omega) (by omega), fun c4 => ⟨vp_in_nI (by omega) (by omega), fun S2 e2 => ?_⟩, fun c4 => ⟨vp_in_nI (by omega) (by omega), fun S2 e2 => ?_⟩⟩⟩
              · subst e2
                refine ih' _ (by omega) (hF.st rfl) ?_
                rw [stI_self]
                refine ⟨?_, SK_up hK.2 (Nat.le_refl _)⟩
                rw [ha] at c4
                simp [upd, c4]
              · subst e2
                refine ih' _ (by omega) (hF.st rfl) ?_
                rw [stI_self]
                refine ⟨?_, SK_up hK.2 (Nat.le_refl _)⟩
                rw [ha] at c4
                simp [upd, c4]
        · rw [e21, hix] at c1
          simp only [if_neg c1] at ih'
          refine ⟨fun c2 => ?_, fun c2 => ⟨vp_in_nI (by omega) (by omega), _, sp_unit, fun r1 S1 q => ?_⟩⟩
          · have c2' : 31 ≤ l.length := (nI_le_i (a := 31) (by decide) (by omega)).mp c2
            simp only [if_pos c2'] at ih'
            exact ih' S' (by omega) hF hK
          · have c2' : ¬ 31 ≤ l.length := fun q => c2 ((nI_le_i (a := 31) (by decide) (by omega)).mpr q)
            simp only [if_neg c2'] at ih'
            obtain ⟨q1, q2⟩ := q
            subst q2
            rw [e21, e22, hix] at q1
            refine ⟨vp_in_nI (by omega) (by omega), fun S2 e2 => ?_⟩
            subst e2
            rw [List.length_cons, nI_succ] at ih'
            have x3 : (nI l.length).toNatClampNeg = l.length := nI_ix (by omega)
            refine ih' _ (by omega) (hF.st rfl) ?_
            rw [x3, stI_self]
            refine ⟨?_, SK_up hK (Nat.le_refl _)⟩
            simp [upd, q1]
    exact key n 0 S (by omega) Fr.rf trivial
  · have hn0 : n = 0 := by
      rw [e] at c
      exact (nI_eq_i (b := 0) (by omega) (by decide)).mp c
    exact ⟨by rw [LFl, if_pos hn0], Fr.rf⟩
