/-! ===== steps that can be: from TOKEN to TOKEN ===== -/
section
variable {V : pV} {wl : List Nat} {U u : Nat}
/-- one that waited goes to the steps -/
theorem SI.e1 {s : Nat} {l : List Nat} (h17 : ¬ s = 17) (h : SI V (s :: l) U 1) : SI (addS V s 0) l U 1 := by
  have hr : 1 ≤ rk s := by
    have := h.2.2.2.2.2.2.2.2 s (List.mem_cons_self ..)
    have hh : ∀ s, s < 18 → 6 ≤ s → ¬ s = 17 → 1 ≤ rk s := by decide
    exact hh s (by omega) this.1 h17
  obtain ⟨a1, a2, a3, a4, a5, a6, a7, a8, a9⟩ := h
  have hs := a9 s (List.mem_cons_self ..)
  have hu : (if (1 : Nat) = 0 then cN (s :: l) else 0) = 0 := rfl
  have hu' : (if (1 : Nat) = 0 then cN l else 0) = 0 := rfl
  rw [hu] at a6
  rw [cJ] at a3 a4 a6
  rw [cN] at a5 a6
  rw [cB, if_neg h17] at a5
  by_cases h8 : s = 8
  · subst h8
    rw [if_pos (Or.inl rfl)] at a3 a4 a6
    rw [if_pos rfl] at a5 a6
    obtain ⟨b1, b2, b3⟩ := SI.add (s := 8) (d := 0) a7 a8 (by decide) (by decide) (fun _ => by omega) (fun _ x => absurd rfl x) (fun x => absurd (by decide) x)
    refine ⟨by rw [addS_0 (by decide)]; exact a1, by rw [addS_0 (by decide)]; exact a2, ?_, by omega, by omega, ?_, by rw [addS_n]; exact b1, by rw [addS_n]; exact b2, fun x hx => a9 x (List.mem_cons_of_mem _ hx)⟩
    · rw [addS_n, b3, if_pos (by decide), if_pos rfl]
      omega
    · rw [addS_n, hu']
      omega
  · rw [if_neg (by omega)] at a3 a4 a6
    rw [if_neg h8] at a5 a6
    obtain ⟨b1, b2, b3⟩ := SI.add (s := s) (d := 0) a7 a8 (by omega) (by omega) (fun x => absurd x h8) (fun _ _ => by omega) (fun x => absurd (by omega) x)
    refine ⟨by rw [addS_0 (by decide)]; exact a1, by rw [addS_0 (by decide)]; exact a2, ?_, by omega, by omega, ?_, by rw [addS_n]; exact b1, by rw [addS_n]; exact b2, fun x hx => a9 x (List.mem_cons_of_mem _ hx)⟩
    · rw [addS_n, b3, if_pos (by omega), if_neg h8]
      omega
    · rw [addS_n, hu']
      omega
theorem SI.not (h : SI V wl U 0) (hw : ¬ 6 < cN wl + cB wl) : SI V (8 :: wl) U 0 := by
  obtain ⟨a1, a2, a3, a4, a5, a6, a7, a8, a9⟩ := h
  rw [if_pos rfl] at a6
  refine ⟨a1, a2, ?_, ?_, ?_, ?_, a7, a8, fun x hx => ?_⟩
  · rw [cJ, if_pos (Or.inl rfl)]
    omega
  · rw [cJ, if_pos (Or.inl rfl)]
    omega
  · rw [cN, cB, if_pos rfl, if_neg (by decide)]
    omega
  · rw [if_pos rfl, cJ, cN, if_pos (Or.inl rfl), if_pos rfl]
    omega
  · rcases List.mem_cons.mp hx with e | e
    · omega
    · exact a9 x e
theorem SI.bra (h : SI V wl U 0) (hw : ¬ (30 ≤ V 0 9 ∨ 6 < cN wl + cB wl)) : SI (upV V 0 9 (V 0 9 + 1)) (17 :: wl) U 0 := by
  obtain ⟨a1, a2, a3, a4, a5, a6, a7, a8, a9⟩ := h
  rw [if_pos rfl] at a6
  have e8 : upV V 0 9 (V 0 9 + 1) 0 8 = V 0 8 := upV_ne (by decide)
  have e6 : upV V 0 9 (V 0 9 + 1) 6 = V 6 := upV_row (by decide)
  have e7 : upV V 0 9 (V 0 9 + 1) 7 = V 7 := upV_row (by decide)
  refine ⟨by rw [upV_at]; omega, by rw [upV_at]; omega, ?_, ?_, ?_, ?_, ?_, ?_, fun x hx => ?_⟩
  · rw [e8, e6, cJ, if_pos (Or.inr rfl)]
    omega
  · rw [cJ, if_pos (Or.inr rfl)]
    omega
  · rw [cN, cB, if_pos rfl, if_neg (by decide)]
    omega
  · rw [e8, if_pos rfl, cJ, cN, if_pos (Or.inr rfl), if_neg (by decide)]
    omega
  · rw [e8, e6]; exact a7
  · rw [e8, e6, e7]; exact a8
  · rcases List.mem_cons.mp hx with e | e
    · omega
    · exact a9 x e
theorem SI.unit {s d : Nat} (h : SI V wl U 0) (hw : ¬ 30 ≤ V 0 9) (hs : s ≤ 5) (hd : s = 1 → d < 5) : SI (addS (upV V 0 9 (V 0 9 + 1)) s d) wl (U + 1) 1 := by
  obtain ⟨a1, a2, a3, a4, a5, a6, a7, a8, a9⟩ := h
  rw [if_pos rfl] at a6
  have e8 : upV V 0 9 (V 0 9 + 1) 0 8 = V 0 8 := upV_ne (by decide)
  have e6 : upV V 0 9 (V 0 9 + 1) 6 = V 6 := upV_row (by decide)
  have e7 : upV V 0 9 (V 0 9 + 1) 7 = V 7 := upV_row (by decide)
  have e9 : upV V 0 9 (V 0 9 + 1) 0 9 = V 0 9 + 1 := upV_at
  generalize upV V 0 9 (V 0 9 + 1) = V1 at *
  rw [← e8, ← e6] at a3 a7
  rw [← e8] at a6
  rw [← e8, ← e6, ← e7] at a8
  obtain ⟨b1, b2, b3⟩ := SI.add (s := s) (d := d) a7 a8 (by omega) hd (by omega) (by omega) (fun _ => by omega)
  refine ⟨by rw [addS_0 (by decide)]; omega, by rw [addS_0 (by decide)]; omega, ?_, by omega, a5, ?_, by rw [addS_n]; exact b1, by rw [addS_n]; exact b2, a9⟩
  · rw [addS_n, b3, if_neg (by omega)]
    omega
  · rw [addS_n, if_neg (by decide)]
    omega
theorem SI.join {j : Nat} (h : SI V wl U 1) (h6 : 6 ≤ j) (h16 : j ≤ 16) (h8 : ¬ j = 8) : SI V (j :: wl) U 0 := by
  obtain ⟨a1, a2, a3, a4, a5, a6, a7, a8, a9⟩ := h
  rw [if_neg (by decide)] at a6
  refine ⟨a1, a2, ?_, ?_, ?_, ?_, a7, a8, fun x hx => ?_⟩
  · rw [cJ, if_neg (by omega)]
    omega
  · rw [cJ, if_neg (by omega)]
    omega
  · rw [cN, cB, if_neg h8, if_neg (by omega)]
    omega
  · rw [if_pos rfl, cJ, cN, if_neg (by omega), if_neg h8]
    omega
  · rcases List.mem_cons.mp hx with e | e
    · omega
    · exact a9 x e
theorem SI.close (h : SI V (17 :: wl) U 1) : SI V wl U 1 := by
  obtain ⟨a1, a2, a3, a4, a5, a6, a7, a8, a9⟩ := h
  rw [if_neg (by decide)] at a6
  rw [cJ, if_pos (Or.inr rfl)] at a3 a4 a6
  rw [cN, cB, if_neg (by decide), if_pos rfl] at a5
  rw [cN, if_neg (by decide)] at a6
  refine ⟨a1, a2, by omega, by omega, by omega, ?_, a7, a8, fun x hx => a9 x (List.mem_cons_of_mem _ hx)⟩
  rw [if_neg (by decide)]
  omega
/-- down to the bracket -/
theorem uw_bra : ∀ {wl : List Nat}, (∀ s, s ∈ wl → 6 ≤ s ∧ s ≤ 17) → (cB wl = 0 → uwR 1 wl = []) ∧ (¬ cB wl = 0 → ∃ l, uwR 1 wl = 17 :: l ∧ cB wl = cB l + 1)
  | [], _ => ⟨fun _ => rfl, fun h => absurd rfl h⟩
  | s :: l, h => by
    have hs := h s (List.mem_cons_self ..)
    have ih := uw_bra (wl := l) (fun x hx => h x (List.mem_cons_of_mem _ hx))
    rw [cB, uwR]
    by_cases e : s = 17
    · subst e
      rw [if_pos rfl, if_neg (rk_17 (by decide))]
      exact ⟨fun z => absurd z (by omega), fun _ => ⟨l, rfl, by omega⟩⟩
    · have hr : 1 ≤ rk s := by
        have hh : ∀ s, s < 18 → 6 ≤ s → ¬ s = 17 → 1 ≤ rk s := by decide
        exact hh s (by omega) hs.1 e
      rw [if_neg e, if_pos hr, Nat.zero_add]
      exact ih
theorem uw_cB {r : Nat} (hr : 1 ≤ r) : ∀ {wl : List Nat}, cB (uwR r wl) = cB wl
  | [] => rfl
  | s :: l => by
    rw [uwR]
    split
    · next h =>
      have e : ¬ s = 17 := fun z => rk_17 hr (by rw [← z]; exact h)
      rw [cB, if_neg e, Nat.zero_add]
      exact uw_cB hr
    · rfl
theorem uwR_mem {r : Nat} : ∀ {wl : List Nat} {s : Nat}, s ∈ uwR r wl → s ∈ wl
  | [], _, h => h
  | x :: l, s, h => by
    rw [uwR] at h
    split at h
    · exact List.mem_cons_of_mem _ (uwR_mem h)
    · exact h
/-- no relation waits: what binds by 5 and by 4 is the same -/
theorem rel_uw : ∀ {wl : List Nat} {V : pV}, relN wl = false → uwR 4 wl = uwR 5 wl ∧ uwV 4 wl V = uwV 5 wl V
  | [], _, _ => ⟨rfl, rfl⟩
  | s :: l, V, h => by
    rw [uwR, uwR, uwV, uwV]
    by_cases c : 5 ≤ rk s
    · rw [if_pos (show 4 ≤ rk s by omega), if_pos c, if_pos (show 4 ≤ rk s by omega), if_pos c]
      refine rel_uw (wl := l) ?_
      unfold relN at h ⊢
      rw [uwR, if_pos c] at h
      exact h
    · unfold relN at h
      rw [uwR, if_neg c] at h
      have h4 : ¬ rk s = 4 := by simpa using h
      rw [if_neg (show ¬ 4 ≤ rk s by omega), if_neg c, if_neg (show ¬ 4 ≤ rk s by omega), if_neg c]
      exact ⟨rfl, rfl⟩
theorem jo_r : ∀ k, joS k = 99 ∨ (6 ≤ joS k ∧ joS k ≤ 16 ∧ ¬ joS k = 8) := by
  intro k
  unfold joS
  repeat' split
  all_goals omega
theorem un_r : ∀ k, unS k = 99 ∨ (unS k ≤ 5 ∧ (unS k = 1 ↔ k = 3) ∧ (unS k = 0 ↔ k = 2)) := by
  intro k
  unfold unS
  repeat' split
  all_goals omega
theorem fnd_le {f : Nat → Nat} {w : Nat} : ∀ n, fndI f w n ≤ n
  | 0 => Nat.le_refl _
  | n + 1 => by
    rw [fndI]
    have := fnd_le (f := f) (w := w) n
    split
    · omega
    · split <;> omega
theorem fnd_at {f : Nat → Nat} {w : Nat} : ∀ {n : Nat}, fndI f w n < n → f (fndI f w n) = w
  | 0, h => absurd h (by simp [fndI])
  | n + 1, h => by
    rw [fndI] at h ⊢
    by_cases c : fndI f w n < n
    · rw [if_pos c]
      exact fnd_at c
    · rw [if_neg c] at h ⊢
      by_cases e : f n = w
      · rw [if_pos e]; exact e
      · rw [if_neg e] at h
        omega
theorem fnd_no {f : Nat → Nat} {w : Nat} : ∀ {n : Nat}, ∀ i, i < n → i < fndI f w n → ¬ f i = w
  | 0, i, h, _ => absurd h (by omega)
  | n + 1, i, h, h2 => by
    rw [fndI] at h2
    by_cases c : fndI f w n < n
    · rw [if_pos c] at h2
      exact fnd_no (n := n) i (by omega) h2
    · rw [if_neg c] at h2
      by_cases e : i = n
      · rw [e] at h2 ⊢
        intro z
        rw [if_pos z] at h2
        omega
      · have hl := fnd_le (f := f) (w := w) n
        exact fnd_no (n := n) i (by omega) (by omega)
theorem fnd_is {f : Nat → Nat} {w n i : Nat} (hi : i < n) (he : f i = w) (hm : ∀ j, j < i → ¬ f j = w) : fndI f w n = i := by
  have h1 : ¬ i < fndI f w n := fun z => fnd_no i hi z he
  have h2 : ¬ fndI f w n < i := fun z => hm _ z (fnd_at (by omega))
  omega
theorem fnd_n {f : Nat → Nat} {w n : Nat} (hm : ∀ j, j < n → ¬ f j = w) : ¬ fndI f w n < n := fun z => hm _ z (fnd_at z)
/-- the rows that an e leaves alone -/
def fKp (V V1 : pV) : Prop := (∀ r, r ≠ 0 → r ≠ 6 → r ≠ 7 → V1 r = V r) ∧ ∀ j, j ≠ 8 → j ≠ 9 → V1 0 j = V 0 j
theorem fKp.rf : fKp V V := ⟨fun _ _ _ _ => rfl, fun _ _ _ => rfl⟩
theorem fKp.tr {V1 V2 : pV} (h : fKp V V1) (h2 : fKp V1 V2) : fKp V V2 := ⟨fun r a c d => (h2.1 r a c d).trans (h.1 r a c d), fun j a c => (h2.2 j a c).trans (h.2 j a c)⟩
theorem fKp.add {s d : Nat} : fKp V (addS V s d) := ⟨fun r a c d => addS_r a c d, fun j a _ => addS_0 a⟩
theorem fKp.un {x : Nat} : fKp V (upV V 0 9 x) := ⟨fun r a _ _ => upV_row a, fun j _ c => upV_ne c⟩
theorem fKp.uw {r : Nat} : ∀ {wl : List Nat} {V : pV}, fKp V (uwV r wl V)
  | [], _ => fKp.rf
  | s :: l, V => by
    rw [uwV]
    split
    · exact fKp.add.tr fKp.uw
    · exact fKp.rf
theorem uw_9 {r : Nat} : ∀ {wl : List Nat} {V : pV}, uwV r wl V 0 9 = V 0 9
  | [], _ => rfl
  | s :: l, V => by
    rw [uwV]
    split
    · rw [uw_9, addS_0 (by decide)]
    · rfl
theorem uwR_5s {r : Nat} : ∀ {wl : List Nat}, (∀ s, s ∈ wl → 6 ≤ s ∧ s ≤ 17) → ∀ s, s ∈ uwR r wl → 6 ≤ s ∧ s ≤ 17 := fun h s hs => h s (uwR_mem hs)
end
section
variable {b : Nat → Nat} {t : Nat}
/-- what an e that is read whole has left -/
theorem fr_ok : ∀ (f : Nat) (V : pV) (q : Nat) (due : Bool) (wl : List Nat) (U : Nat) (V1 : pV) (q1 : Nat), q ≤ t → V 0 0 ≤ 5 → SI V wl U (if due then 0 else 1) → frF b t f V q due wl = .inr (V1, q1) → fKp V V1 ∧ V1 0 9 ≤ 30 ∧ 1 ≤ V1 0 8 ∧ V1 0 8 ≤ 290 ∧ WN (V1 6) (V1 0 8) ∧ (∀ i, i < V1 0 8 → V1 6 i ≤ 16 ∧ (V1 6 i = 1 → V1 7 i < 5)) ∧ tK b t q1 = 59 ∧ q ≤ q1 ∧ q1 ≤ t
  | 0, V, q, due, wl, U, V1, q1, hq, h5, hS, h => by
    rw [frF] at h
    cases h
  | f + 1, V, q, true, wl, U, V1, q1, hq, h5, hS, h => by
    rw [frF] at h
    have hE := tE_hi (b := b) hq
    split at h
    · next c =>
      split at h
      · cases h
      · next d =>
        have hl := tE_lo (b := b) (t := t) (q := q) (by omega)
        obtain ⟨g1, g2, g3, g4, g5, g6, g7, g8, g9⟩ := fr_ok f V _ true _ U V1 q1 hE h5 (hS.not d) h
        exact ⟨g1, g2, g3, g4, g5, g6, g7, by omega, g9⟩
    · split at h
      · next c =>
        split at h
        · cases h
        · next d =>
          have hl := tE_lo (b := b) (t := t) (q := q) (by omega)
          obtain ⟨g1, g2, g3, g4, g5, g6, g7, g8, g9⟩ := fr_ok f _ _ true _ U V1 q1 hE (by rw [upV_ne (by decide)]; exact h5) (hS.bra d) h
          exact ⟨fKp.un.tr g1, g2, g3, g4, g5, g6, g7, by omega, g9⟩
      · split at h
        · cases h
        · next c =>
          split at h
          · cases h
          · next d =>
            have hu := (un_r (tK b t q)).resolve_left (fun z => c (Or.inl z))
            have h0 : ¬ tK b t q = 0 := fun z => c (Or.inl (by rw [z]; rfl))
            have hl := tE_lo (b := b) (t := t) (q := q) h0
            obtain ⟨g1, g2, g3, g4, g5, g6, g7, g8, g9⟩ := fr_ok f _ _ false _ (U + 1) V1 q1 hE (by rw [addS_0 (by decide), upV_ne (by decide)]; exact h5) (hS.unit (fun z => c (Or.inr z)) hu.1 (fun z => by
              have e3 := hu.2.1.mp z
              rw [if_neg (by omega), if_pos e3]
              have : fndI (V 1) (tW b t q) (V 0 0) < V 0 0 := Classical.not_not.mp (fun y => d ⟨e3, y⟩)
              omega)) h
            exact ⟨(fKp.un.tr fKp.add).tr g1, g2, g3, g4, g5, g6, g7, by omega, g9⟩
  | f + 1, V, q, false, wl, U, V1, q1, hq, h5, hS, h => by
    rw [frF] at h
    have hE := tE_hi (b := b) hq
    have hw := hS.2.2.2.2.2.2.2.2
    split at h
    · next c =>
      simp only [Sum.inr.injEq, Prod.mk.injEq] at h
      obtain ⟨e1, e2⟩ := h
      subst e1 e2
      have hS' := SI.uw (r := 1) (by decide) hS
      have hl := hS'.len
      rw [(uw_bra hw).1 c.2] at hS'
      obtain ⟨a1, a2, a3, a4, a5, a6, a7, a8, a9⟩ := hS'
      refine ⟨fKp.uw, a1, ?_, hl.1, a7, a8, c.1, Nat.le_refl _, hq⟩
      rcases Nat.eq_zero_or_pos (uwV 1 wl V 0 8) with z | z
      · rw [z] at a3
        simp [dN, cJ] at a3
      · exact z
    · split at h
      · next c =>
        split at h
        · cases h
        · next d =>
          have hl := tE_lo (b := b) (t := t) (q := q) (by omega)
          obtain ⟨l, e1, e2⟩ := (uw_bra hw).2 d
          have hS' := SI.uw (r := 1) (by decide) hS
          rw [e1] at hS' h
          obtain ⟨g1, g2, g3, g4, g5, g6, g7, g8, g9⟩ := fr_ok f _ _ false _ U V1 q1 hE (by rw [fKp.uw.2 0 (by decide) (by decide)]; exact h5) hS'.close h
          exact ⟨fKp.uw.tr g1, g2, g3, g4, g5, g6, g7, by omega, g9⟩
      · split at h
        · cases h
        · next c =>
          split at h
          · cases h
          · next d =>
            have hj := (jo_r (tK b t q)).resolve_left c
            have h0 : ¬ tK b t q = 0 := fun z => c (by rw [z]; rfl)
            have hl := tE_lo (b := b) (t := t) (q := q) h0
            have hr : 1 ≤ rk (joS (tK b t q)) := by
              have hh : ∀ s, s < 18 → 6 ≤ s → ¬ s = 17 → 1 ≤ rk s := by decide
              exact hh _ (by omega) hj.1 (by omega)
            obtain ⟨g1, g2, g3, g4, g5, g6, g7, g8, g9⟩ := fr_ok f _ _ true _ U V1 q1 hE (by rw [fKp.uw.2 0 (by decide) (by decide)]; exact h5) ((SI.uw hr hS).join hj.1 hj.2.1 hj.2.2) h
            exact ⟨fKp.uw.tr g1, g2, g3, g4, g5, g6, g7, by omega, g9⟩
end
