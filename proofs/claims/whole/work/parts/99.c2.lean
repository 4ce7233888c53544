/-! the world at the law's entry -/
theorem mlL_9 : Cond.methodLink RL 9 yX11_init ∈ tblG := tblG_of 134 (by decide +kernel) (by decide +kernel)
theorem mlL_12 : Cond.methodLink RL 12 yX12_init ∈ tblG := tblG_of 1382 (by decide +kernel) (by decide +kernel)
theorem tblG_lw {w : Cond} (h : w ∈ tblG) : w ∈ lw_tbl := (List.mem_filter.mp h).1
theorem law_Kn {args : Array Value} {s : State} (hts : ∀ w ∈ tblG, w.before args s = true) : ∃ D : va_G, ∀ (k : Nat) (q : vw_C), vwCl[k]? = some q → u_Kn s q.1 q.2.1 q.2.2 (D.1 k) (D.2 k) := by
  have key : ∀ (C : String) (T : u_T) (N : Nat), (∀ w ∈ u_ws C T N, w ∈ tblG) → Cond.instantiable C N ∈ tblG → ∃ d : ClassId × (Nat → Nat), u_Kn s C T N d.1 d.2 := fun C T N h1 h2 => by
    obtain ⟨c, i, h⟩ := u_known (C := C) (T := T) (N := N) (n := N) hts h1 (hts _ h2)
    exact ⟨(c, i), h⟩
  have h0 : ∀ k : Nat, ∃ d : ClassId × (Nat → Nat), ∀ q : vw_C, vwCl[k]? = some q → u_Kn s q.1 q.2.1 q.2.2 d.1 d.2 := by
    intro k
    obtain ⟨d0, k0⟩ := key _ _ _ fdX0_0.1 ninX0
    obtain ⟨d1, k1⟩ := key _ _ _ fdX1_0.1 ninX1
    obtain ⟨d2, k2⟩ := key _ _ _ fdX2_0.1 ninX2
    obtain ⟨d3, k3⟩ := key _ _ _ fdX3_0.1 ninX3
    obtain ⟨d4, k4⟩ := key _ _ _ fdX4_0.1 ninX4
    obtain ⟨d5, k5⟩ := key _ _ _ fdX5_0.1 ninX5
    obtain ⟨d6, k6⟩ := key _ _ _ fdX6_0.1 ninX6
    obtain ⟨d7, k7⟩ := key _ _ _ fdX7_0.1 ninX7
    obtain ⟨d8, k8⟩ := key _ _ _ fdX8_0.1 ninX8
    obtain ⟨d9, k9⟩ := key _ _ _ fdX9_0.1 ninX9
    obtain ⟨d10, k10⟩ := key _ _ _ fdX10_0.1 ninX10
    obtain ⟨d11, k11⟩ := key _ _ _ fdX11_0.1 ninX11
    obtain ⟨d12, k12⟩ := key _ _ _ fdX12_0.1 ninX12
    match k with
    | 0 => exact ⟨d0, fun q hq => by cases hq; exact k0⟩
    | 1 => exact ⟨d1, fun q hq => by cases hq; exact k1⟩
    | 2 => exact ⟨d2, fun q hq => by cases hq; exact k2⟩
    | 3 => exact ⟨d3, fun q hq => by cases hq; exact k3⟩
    | 4 => exact ⟨d4, fun q hq => by cases hq; exact k4⟩
    | 5 => exact ⟨d5, fun q hq => by cases hq; exact k5⟩
    | 6 => exact ⟨d6, fun q hq => by cases hq; exact k6⟩
    | 7 => exact ⟨d7, fun q hq => by cases hq; exact k7⟩
    | 8 => exact ⟨d8, fun q hq => by cases hq; exact k8⟩
    | 9 => exact ⟨d9, fun q hq => by cases hq; exact k9⟩
    | 10 => exact ⟨d10, fun q hq => by cases hq; exact k10⟩
    | 11 => exact ⟨d11, fun q hq => by cases hq; exact k11⟩
    | 12 => exact ⟨d12, fun q hq => by cases hq; exact k12⟩
    | k + 13 => exact ⟨d0, fun q hq => by simp [vwCl] at hq⟩
  obtain ⟨d, hd⟩ := Classical.axiomOfChoice h0
  exact ⟨(fun k => (d k).1, fun k => (d k).2), hd⟩
theorem law_arr {args : Array Value} {s : State} {ty : FieldType} (hn : ∀ C, ty ≠ .object C) (h : (Cond.arrayClass ty).before args s = true) : ∃ cA : ClassId, ArrOfT s cA ty ∧ va_RA s cA ty := by
  obtain ⟨cA, kA, comp, h1, h2, h3⟩ := Cond.arrayClass_spec h
  refine ⟨cA, fun n z => ⟨fun k q => (by cases q), kA, h2, comp, h3⟩, ?_⟩
  cases ty with
  | object C => exact absurd rfl (hn C)
  | _ => exact h1
theorem law_arrO {s : State} {C : String} (h : va_AO C s) : ∃ cA : ClassId, ArrOfT s cA (.object C) ∧ va_RA s cA (.object C) := by
  obtain ⟨comp, cA, kA, g1, -, g3, g4, g5⟩ := Cond.arrayOver_spec (va_AO.use (A := #[]) h)
  exact ⟨cA, fun n z => ⟨fun k q => (by cases q), kA, g3, comp, g4⟩, kA, comp, g3, g4, g1, g5⟩
theorem law_e1 : ∀ j, j < 15 → Cond.eq (.elem (.static "OvenNames$Scanner" "WORDS" "[J") (.int (Int32.ofNat j))) (.long (oWd.getD j 0)) ∈ flatC (Jvm.Cond.and given_1 narrow_1) := by decide +kernel
theorem law_e2 : ∀ j, j < 18 → Cond.eq (.elem (.static "OvenNames$FormulaReader" "RANKS" "[I") (.int (Int32.ofNat j))) (.int (oRk.getD j 0)) ∈ flatC (Jvm.Cond.and given_1 narrow_1) := by decide +kernel
theorem law_e3 : ∀ j, j < 11 → Cond.eq (.elem (.field (.string "OvenNames$Scanner" 48) "java/lang/String" "value" "[B") (.int (Int32.ofNat j))) (.int (([oSg].getD 0 []).getD j 0)) ∈ flatC (Jvm.Cond.and given_1 narrow_1) := by decide +kernel
theorem law_world {p : Program} {s : State} {m : MethodId} {meth : Method} {c : Code} (l : Launch) {b L : Nat} {xs : Nat → Int32} (C0 : lw_At p s m meth c b L xs) : ∃ G : ovG, G.1 = l ∧ G.2.1 = s.heap.size ∧ G.2.2.2.2 451 = b ∧ va_K G.2.2.1 vwCl (otys G) s ∧ oSx G s ∧ nSx s := by
  obtain ⟨hx, hb, hr, hml, hown, hts, hX, hbl, hlocks, hgv⟩ := C0
  have hs := flat_of_before _ hgv
  have hA : ∀ a : Nat, a < s.heap.size → ¬ (fun q : Nat => s.heap.size ≤ q) a := fun a h => Nat.not_le.mpr h
  have htG : ∀ w ∈ tblG, w.before #[Value.ref b] s = true := fun w hw => hts w (tblG_lw hw)
  have ht : ∀ (i : Nat) (w : Cond), lw_tbl[i]? = some w → w.before #[Value.ref b] s = true := fun i w h => hts w (List.mem_of_getElem? h)
  obtain ⟨D, hD⟩ := law_Kn htG
  have hAO : va_AO "OvenNames$State" s := va_AO.of (ht 402 _ (by decide +kernel))
  obtain ⟨a0, g0⟩ := law_arr (fun C => by intro h; cases h) (htG _ nac_byte)
  obtain ⟨a1, g1⟩ := law_arr (fun C => by intro h; cases h) (htG _ nac_int)
  obtain ⟨a2, g2⟩ := law_arr (fun C => by intro h; cases h) (htG _ nac_long)
  obtain ⟨a3, g3⟩ := law_arr (fun C => by intro h; cases h) (htG _ nac_boolean)
  obtain ⟨a4, g4⟩ := law_arrO hAO
  obtain ⟨aC, q0, q1, q2, q3, q4⟩ : ∃ aC : Nat → ClassId, aC 0 = a0 ∧ aC 1 = a1 ∧ aC 2 = a2 ∧ aC 3 = a3 ∧ aC 4 = a4 := ⟨fun k => match k with | 0 => a0 | 1 => a1 | 2 => a2 | 3 => a3 | _ => a4, rfl, rfl, rfl, rfl, rfl⟩
  obtain ⟨t1, v1, T1⟩ := va_Tof (tm := .static "OvenNames$Scanner" "WORDS" "[J") (ty := .long) (N := 15) (f := fun j => .long (oWd.getD j 0)) (A := fun q : Nat => s.heap.size ≤ q) (by decide) (hs _ (by decide +kernel)) (va_eqt (hs _ (by decide +kernel))) (fun j hj => va_eqtl (hs _ (law_e1 j hj))) hA
  obtain ⟨t2, v2, T2⟩ := va_Tof (tm := .static "OvenNames$FormulaReader" "RANKS" "[I") (ty := .int) (N := 18) (f := fun j => .int (oRk.getD j 0)) (A := fun q : Nat => s.heap.size ≤ q) (by decide) (hs _ (by decide +kernel)) (va_eqt (hs _ (by decide +kernel))) (fun j hj => va_eqt (hs _ (law_e2 j hj))) hA
  obtain ⟨adK, adV, hS, hE⟩ := vk_Sof (args := #[Value.ref b]) (s := s) (N := 1) (tm := fun _ => .string "OvenNames$Scanner" 48) (len := [11]) (byt := [oSg]) (A := fun q : Nat => s.heap.size ≤ q) (by decide)
    (fun i hi => by have e : i = 0 := by omega
                    subst e
                    exact hs _ (by decide +kernel))
    (fun i hi => by have e : i = 0 := by omega
                    subst e
                    exact hs _ (by decide +kernel))
    (fun i hi => by have e : i = 0 := by omega
                    subst e
                    exact hs _ (by decide +kernel))
    (fun i hi => by have e : i = 0 := by omega
                    subst e
                    exact hs _ (by decide +kernel))
    (fun i hi j hj => by have e : i = 0 := by omega
                         subst e
                         exact hs _ (law_e3 j hj))
    (fun i j hi hj hne => absurd (show i = j by omega) hne) hA
  obtain ⟨ad, d1, d2, d3, d4, d5⟩ : ∃ ad : Nat → Nat, ad 447 = t1 ∧ ad 448 = t2 ∧ ad 449 = adK 0 ∧ ad 450 = adV 0 ∧ ad 451 = b := ⟨fun k => if k = 447 then t1 else if k = 448 then t2 else if k = 449 then adK 0 else if k = 450 then adV 0 else b, by simp, by simp, by simp, by simp, by simp⟩
  refine ⟨(l, s.heap.size, D, aC, ad), rfl, rfl, d5, ⟨hD, fun k q hq => ?_⟩, ⟨?_, ?_, ?_, ?_, ?_, ?_, ?_, ?_⟩, ?_⟩
  · match k, hq with
    | 0, hq => cases hq; show ArrOfT s (aC 0) .byte ∧ va_RA s (aC 0) .byte; rw [q0]; exact g0
    | 1, hq => cases hq; show ArrOfT s (aC 1) .int ∧ va_RA s (aC 1) .int; rw [q1]; exact g1
    | 2, hq => cases hq; show ArrOfT s (aC 2) .long ∧ va_RA s (aC 2) .long; rw [q2]; exact g2
    | 3, hq => cases hq; show ArrOfT s (aC 3) .boolean ∧ va_RA s (aC 3) .boolean; rw [q3]; exact g3
    | 4, hq => cases hq; show ArrOfT s (aC 4) (.object "OvenNames$State") ∧ va_RA s (aC 4) (.object "OvenNames$State"); rw [q4]; exact g4
    | k + 5, hq => simp [otys] at hq
  · show va_Z _ _ _ (.ref (ad 447)) (fun q : Nat => s.heap.size ≤ q) s s.heap
    rw [d1]
    exact va_Zof (ht 687 _ (by decide +kernel)) (htG _ nitX7) v1 hA
  · show va_T _ (ad 447) _ _ (fun q : Nat => s.heap.size ≤ q) s s.heap
    rw [d1]
    exact T1
  · show va_Z _ _ _ (.ref (ad 448)) (fun q : Nat => s.heap.size ≤ q) s s.heap
    rw [d2]
    exact va_Zof (ht 838 _ (by decide +kernel)) (htG _ nitX2) v2 hA
  · show va_T _ (ad 448) _ _ (fun q : Nat => s.heap.size ≤ q) s s.heap
    rw [d2]
    exact T2
  · show vk_R _ _ _ (ad 449) s
    rw [d3]
    exact vk_R.of (ht 696 _ (by decide +kernel)) (hE 0 (by decide))
  · show vk_S 1 [11] [oSg] (fun _ => ad 449) (fun _ => ad 450) (fun q : Nat => s.heap.size ≤ q) s s.heap
    rw [d3, d4]
    refine ⟨fun i hi => ?_, fun i j hi hj _ => by omega⟩
    have e : i = 0 := by omega
    subst e
    exact hS.1 0 hi
  · exact va_Zof (ht 710 _ (by decide +kernel)) (ht 126 _ (by decide +kernel)) (va_eqi (hs _ (by decide +kernel))) hA
  · exact va_Nw.of rfl (ht 1268 _ (by decide +kernel))
  · exact ⟨hAO, va_Nw.of rfl (ht 148 _ (by decide +kernel)), va_Nw.of rfl (ht 154 _ (by decide +kernel)), va_Nw.of rfl (ht 336 _ (by decide +kernel)), va_Nw.of rfl (ht 339 _ (by decide +kernel)), va_Nw.of rfl (ht 403 _ (by decide +kernel))⟩
