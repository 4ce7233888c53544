theorem tblG_good {w : Cond} (h : w ∈ tblG) : goodWord w = true := (List.mem_filter.mp h).2
theorem tblG_in {ws : List Cond} (h : ∀ w ∈ ws, w ∈ tblG) : GoodIn tblG ws := fun w hw => ⟨h w hw, good_of_word (tblG_good (h w hw))⟩
theorem tblG_of {w : Cond} (i : Nat) (h : lw_tbl[i]? = some w) (hg : goodWord w = true) : w ∈ tblG := List.mem_filter.mpr ⟨List.mem_of_getElem? h, hg⟩
theorem ofv_seI {G : ovG} {S : ovS} {o ci i : Nat} {f : Nat → Int32} (h : f i = S.1 o i) : ofv G (seI S o f) o ci i = ofv G S o ci i := by
  simp only [ofv, seI, va_up_self, h]
theorem ofv_seJ {G : ovG} {S : ovS} {o ci i : Nat} {f : Nat → Int64} (h : f i = S.2 o i) : ofv G (seJ S o f) o ci i = ofv G S o ci i := by
  simp only [ofv, seJ, va_up_self, h]
theorem ofs_set {G : ovG} {S S' : ovS} {o ci j N : Nat} {v : Value} (hN : ofn ci = N) (hj : j < N) (hv : ofv G S' o ci j = v) (hx : ∀ i, i ≠ j → ofv G S' o ci i = ofv G S o ci i) : (List.range (ofn ci)).map (ofv G S' o ci) = ((List.range (ofn ci)).map (ofv G S o ci)).set j v := by
  apply List.ext_getElem?
  intro i
  by_cases hij : i = j
  · subst hij
    rw [List.getElem?_set_self (by rw [List.length_map, List.length_range, hN]; exact hj), List.getElem?_map, List.getElem?_range (by rw [hN]; exact hj), ← hv]
    rfl
  · rw [List.getElem?_set_ne (Ne.symm hij), List.getElem?_map, List.getElem?_map]
    rcases Nat.lt_or_ge i (ofn ci) with q | q
    · rw [List.getElem?_range q]
      simp only [Option.map_some, hx i hij]
    · rw [List.getElem?_eq_none (by rw [List.length_range]; exact q)]
      rfl
theorem o_bool {v : Int32} (h : v = 0 ∨ v = 1) : narrow .boolean (.int v) = .int v ∧ fits .boolean (.int v) = true := by
  rcases h with rfl | rfl
  · decide
  · decide
theorem oad_x {G : ovG} {k : Nat} (h : ¬ k < ovNN) : oad G k = G.2.2.2.2 k := by simp [oad, h]
theorem r_putI {G : ovG} {k : ovM} {R : Room} {cells slots : Nat} {Z : List Frame → Array Value → State → State → Prop} {pc : Nat} {ls : List (Option Value)} {st : List Value} {S : ovS} {o ci j index : Nat} {C : String} {T : u_T} {N : Nat} (hw : Cond.fieldLink k.1.cls index C (T j).2.1 (T j).2.2.1 ∈ tblG) (hin : ∀ w ∈ u_ws C T N, w ∈ tblG) (hc : vwCl[ci]? = some (C, T, N)) (hC : (T j).1 = C) (ho : ocl o = ci) (hci : ci < 13) (hj : j < N) (hN : ofn ci = N) (ty0 : Nat → FieldType) (hty : ∀ k, k < N → parseFieldDescriptor (T k).2.2.1 = some (ty0 k)) (hnm : ∀ a, a < N → ∀ b, b < N → a ≠ b → (T a).2.1 ≠ (T b).2.1) (hfin : (T j).2.2.2 = false) {v : Int32} (hk : ofk ci j = (0, 0)) (hna : narrow (ty0 j) (.int v) = .int v) (hfi : fits (ty0 j) (.int v) = true) (hd : decode k.2.1 pc = .ok (.putfield index, 3)) (kk : RW G k R cells slots Z (pc + 3) ls st (seI S o (upd (S.1 o) j v))) : RW G k R cells slots Z (pc) ls (.int v :: .ref o :: st) S := by
  intro p e s m args below meth c C0 H locs la hP hS hl
  have hlt := ocl_lt ho (by omega)
  have hz : (ows G S)[o]? = some (oad G o, .inr (ci, (List.range (ofn ci)).map (ofv G S o ci))) := (ows_at (G := G) (S := S) hlt).trans (by rw [oce_obj ho hci])
  have hset : (ows G S).set o (oad G o, .inr (ci, ((List.range (ofn ci)).map (ofv G S o ci)).set j (.int v))) = ows G (seI S o (upd (S.1 o) j v)) := by
    refine ows_set hlt ?_ (fun i hi => oce_seI hi)
    rw [oce_obj ho hci]
    congr 2
    refine ofs_set hN hj ?_ (fun i hi => ofv_seI (by simp [upd, hi]))
    simp [ofv, hk, seI, va_up, upd]
  refine va_put C0.1 C0.2.1 C0.2.2.2.2.2.1 hin ty0 hty hnm C0.2.2.2.2.1 C0.2.2.2.2.2.2.1 hP ows_D hS o hz hc j hj (C0.2.2.2.2.2.1 _ hw) (fun x q => by rw [← hC]; exact q) hfin (v := .int v) (hty j hj) hna hfi (by rw [List.length_map, List.length_range, hN]; exact hj) hd (fun H1 locs1 hP1 hD1 hS1 => ?_)
  rw [hset] at hP1
  exact kk p e s m args below meth c C0 H1 locs1 la hP1 hS1 hl
theorem r_putJ {G : ovG} {k : ovM} {R : Room} {cells slots : Nat} {Z : List Frame → Array Value → State → State → Prop} {pc : Nat} {ls : List (Option Value)} {st : List Value} {S : ovS} {o ci j index : Nat} {C : String} {T : u_T} {N : Nat} (hw : Cond.fieldLink k.1.cls index C (T j).2.1 (T j).2.2.1 ∈ tblG) (hin : ∀ w ∈ u_ws C T N, w ∈ tblG) (hc : vwCl[ci]? = some (C, T, N)) (hC : (T j).1 = C) (ho : ocl o = ci) (hci : ci < 13) (hj : j < N) (hN : ofn ci = N) (ty0 : Nat → FieldType) (hty : ∀ k, k < N → parseFieldDescriptor (T k).2.2.1 = some (ty0 k)) (hnm : ∀ a, a < N → ∀ b, b < N → a ≠ b → (T a).2.1 ≠ (T b).2.1) (hfin : (T j).2.2.2 = false) {v : Int64} (hk : ofk ci j = (1, 0)) (hna : narrow (ty0 j) (.long v) = .long v) (hfi : fits (ty0 j) (.long v) = true) (hd : decode k.2.1 pc = .ok (.putfield index, 3)) (kk : RW G k R cells slots Z (pc + 3) ls st (seJ S o (vp_updL (S.2 o) j v))) : RW G k R cells slots Z (pc) ls (.long v :: .ref o :: st) S := by
  intro p e s m args below meth c C0 H locs la hP hS hl
  have hlt := ocl_lt ho (by omega)
  have hz : (ows G S)[o]? = some (oad G o, .inr (ci, (List.range (ofn ci)).map (ofv G S o ci))) := (ows_at (G := G) (S := S) hlt).trans (by rw [oce_obj ho hci])
  have hset : (ows G S).set o (oad G o, .inr (ci, ((List.range (ofn ci)).map (ofv G S o ci)).set j (.long v))) = ows G (seJ S o (vp_updL (S.2 o) j v)) := by
    refine ows_set hlt ?_ (fun i hi => oce_seJ hi)
    rw [oce_obj ho hci]
    congr 2
    refine ofs_set hN hj ?_ (fun i hi => ofv_seJ (by simp [vp_updL, hi]))
    simp [ofv, hk, seJ, va_up, vp_updL]
  refine va_put C0.1 C0.2.1 C0.2.2.2.2.2.1 hin ty0 hty hnm C0.2.2.2.2.1 C0.2.2.2.2.2.2.1 hP ows_D hS o hz hc j hj (C0.2.2.2.2.2.1 _ hw) (fun x q => by rw [← hC]; exact q) hfin (v := .long v) (hty j hj) hna hfi (by rw [List.length_map, List.length_range, hN]; exact hj) hd (fun H1 locs1 hP1 hD1 hS1 => ?_)
  rw [hset] at hP1
  exact kk p e s m args below meth c C0 H1 locs1 la hP1 hS1 hl
theorem r_iald {G : ovG} {k : ovM} {R : Room} {cells slots : Nat} {Z : List Frame → Array Value → State → State → Prop} {pc : Nat} {ls : List (Option Value)} {st : List Value} {S : ovS} {o n : Nat} {i : Int32} (ho : ocl o = 14) (hn : oln o = n) (hi : vp_in i n) (hd : decode k.2.1 pc = .ok (.iaload, 1)) (kk : RW G k R cells slots Z (pc + 1) ls (.int (S.1 o i.toNatClampNeg) :: st) S) : RW G k R cells slots Z (pc) ls (.int i :: .ref o :: st) S := by
  intro p e s m args below meth c C0 H locs la hP hS hl
  have hlt := ocl_lt ho (by omega)
  exact va_iald C0.1 C0.2.1 C0.2.2.2.2.2.2.1 hP o 1 ((ows_at hlt).trans (by rw [oce_I ho hn])) rfl hi hd (kk p e s m args below meth c C0 H locs la hP hS hl)
theorem r_bald {G : ovG} {k : ovM} {R : Room} {cells slots : Nat} {Z : List Frame → Array Value → State → State → Prop} {pc : Nat} {ls : List (Option Value)} {st : List Value} {S : ovS} {o n : Nat} {i : Int32} (ho : ocl o = 13) (hn : oln o = n) (hi : vp_in i n) (hd : decode k.2.1 pc = .ok (.baload, 1)) (kk : RW G k R cells slots Z (pc + 1) ls (.int (S.1 o i.toNatClampNeg) :: st) S) : RW G k R cells slots Z (pc) ls (.int i :: .ref o :: st) S := by
  intro p e s m args below meth c C0 H locs la hP hS hl
  have hlt := ocl_lt ho (by omega)
  exact va_bald C0.1 C0.2.1 C0.2.2.2.2.2.2.1 hP o 0 ((ows_at hlt).trans (by rw [oce_B ho hn])) rfl hi hd (kk p e s m args below meth c C0 H locs la hP hS hl)
theorem r_zald {G : ovG} {k : ovM} {R : Room} {cells slots : Nat} {Z : List Frame → Array Value → State → State → Prop} {pc : Nat} {ls : List (Option Value)} {st : List Value} {S : ovS} {o n : Nat} {i : Int32} (ho : ocl o = 16) (hn : oln o = n) (hi : vp_in i n) (hd : decode k.2.1 pc = .ok (.baload, 1)) (kk : RW G k R cells slots Z (pc + 1) ls (.int (S.1 o i.toNatClampNeg) :: st) S) : RW G k R cells slots Z (pc) ls (.int i :: .ref o :: st) S := by
  intro p e s m args below meth c C0 H locs la hP hS hl
  have hlt := ocl_lt ho (by omega)
  exact va_zald C0.1 C0.2.1 C0.2.2.2.2.2.2.1 hP o 3 ((ows_at hlt).trans (by rw [oce_Z ho hn])) rfl hi hd (kk p e s m args below meth c C0 H locs la hP hS hl)
theorem r_lald {G : ovG} {k : ovM} {R : Room} {cells slots : Nat} {Z : List Frame → Array Value → State → State → Prop} {pc : Nat} {ls : List (Option Value)} {st : List Value} {S : ovS} {o n : Nat} {i : Int32} (ho : ocl o = 15) (hn : oln o = n) (hi : vp_in i n) (hd : decode k.2.1 pc = .ok (.laload, 1)) (kk : RW G k R cells slots Z (pc + 1) ls (.long (S.2 o i.toNatClampNeg) :: st) S) : RW G k R cells slots Z (pc) ls (.int i :: .ref o :: st) S := by
  intro p e s m args below meth c C0 H locs la hP hS hl
  have hlt := ocl_lt ho (by omega)
  exact va_lald C0.1 C0.2.1 C0.2.2.2.2.2.2.1 hP o 2 ((ows_at hlt).trans (by rw [oce_J ho hn])) rfl hi hd (kk p e s m args below meth c C0 H locs la hP hS hl)
theorem r_aald {G : ovG} {k : ovM} {R : Room} {cells slots : Nat} {Z : List Frame → Array Value → State → State → Prop} {pc : Nat} {ls : List (Option Value)} {st : List Value} {S : ovS} {o n : Nat} {i : Int32} (ho : ocl o = 17) (hn : oln o = n) (hi : vp_in i n) (hd : decode k.2.1 pc = .ok (.aaload, 1)) (kk : RW G k R cells slots Z (pc + 1) ls (.ref (orow o i.toNatClampNeg) :: st) S) : RW G k R cells slots Z (pc) ls (.int i :: .ref o :: st) S := by
  intro p e s m args below meth c C0 H locs la hP hS hl
  have hlt := ocl_lt ho (by omega)
  exact va_aldq C0.1 C0.2.1 C0.2.2.2.2.2.2.1 hP o 4 (f := fun j => some (oad G (orow o j))) ((ows_at hlt).trans (by rw [oce_R ho hn])) rfl hi hd (kk p e s m args below meth c C0 H locs la hP hS hl)
theorem r_iast {G : ovG} {k : ovM} {R : Room} {cells slots : Nat} {Z : List Frame → Array Value → State → State → Prop} {pc : Nat} {ls : List (Option Value)} {st : List Value} {S : ovS} {o n : Nat} {i : Int32} {x : Int32} (ho : ocl o = 14) (hn : oln o = n) (hi : vp_in i n) (hd : decode k.2.1 pc = .ok (.iastore, 1)) (kk : RW G k R cells slots Z (pc + 1) ls st (seI S o (upd (S.1 o) i.toNatClampNeg x))) : RW G k R cells slots Z (pc) ls (.int x :: .int i :: .ref o :: st) S := by
  intro p e s m args below meth c C0 H locs la hP hS hl
  have hlt := ocl_lt ho (by omega)
  refine va_iast C0.1 C0.2.1 C0.2.2.2.2.2.2.1 hP ows_D hS o 1 ((ows_at hlt).trans (by rw [oce_I ho hn])) rfl hi hd (fun H1 locs1 hP1 hD1 hS1 => ?_)
  rw [ows_set (S' := seI S o (upd (S.1 o) i.toNatClampNeg x)) hlt (by rw [oce_I ho hn]; simp [seI, va_up]) (fun j hj => oce_seI hj)] at hP1
  exact kk p e s m args below meth c C0 H1 locs1 la hP1 hS1 hl
theorem r_bast {G : ovG} {k : ovM} {R : Room} {cells slots : Nat} {Z : List Frame → Array Value → State → State → Prop} {pc : Nat} {ls : List (Option Value)} {st : List Value} {S : ovS} {o n : Nat} {i : Int32} {x : Int32} (ho : ocl o = 13) (hn : oln o = n) (hi : vp_in i n) (hd : decode k.2.1 pc = .ok (.bastore, 1)) (kk : RW G k R cells slots Z (pc + 1) ls st (seI S o (upd (S.1 o) i.toNatClampNeg (vp_nar .byte x)))) : RW G k R cells slots Z (pc) ls (.int x :: .int i :: .ref o :: st) S := by
  intro p e s m args below meth c C0 H locs la hP hS hl
  have hlt := ocl_lt ho (by omega)
  refine va_bast C0.1 C0.2.1 C0.2.2.2.2.2.2.1 hP ows_D hS o 0 ((ows_at hlt).trans (by rw [oce_B ho hn])) rfl hi hd (fun H1 locs1 hP1 hD1 hS1 => ?_)
  rw [ows_set (S' := seI S o (upd (S.1 o) i.toNatClampNeg (vp_nar .byte x))) hlt (by rw [oce_B ho hn]; simp [seI, va_up]) (fun j hj => oce_seI hj)] at hP1
  exact kk p e s m args below meth c C0 H1 locs1 la hP1 hS1 hl
theorem r_zast {G : ovG} {k : ovM} {R : Room} {cells slots : Nat} {Z : List Frame → Array Value → State → State → Prop} {pc : Nat} {ls : List (Option Value)} {st : List Value} {S : ovS} {o n : Nat} {i : Int32} {x : Int32} (ho : ocl o = 16) (hn : oln o = n) (hi : vp_in i n) (hd : decode k.2.1 pc = .ok (.bastore, 1)) (kk : RW G k R cells slots Z (pc + 1) ls st (seI S o (upd (S.1 o) i.toNatClampNeg (vp_nar .boolean x)))) : RW G k R cells slots Z (pc) ls (.int x :: .int i :: .ref o :: st) S := by
  intro p e s m args below meth c C0 H locs la hP hS hl
  have hlt := ocl_lt ho (by omega)
  refine va_zast C0.1 C0.2.1 C0.2.2.2.2.2.2.1 hP ows_D hS o 3 ((ows_at hlt).trans (by rw [oce_Z ho hn])) rfl hi hd (fun H1 locs1 hP1 hD1 hS1 => ?_)
  rw [ows_set (S' := seI S o (upd (S.1 o) i.toNatClampNeg (vp_nar .boolean x))) hlt (by rw [oce_Z ho hn]; simp [seI, va_up]) (fun j hj => oce_seI hj)] at hP1
  exact kk p e s m args below meth c C0 H1 locs1 la hP1 hS1 hl
theorem r_last {G : ovG} {k : ovM} {R : Room} {cells slots : Nat} {Z : List Frame → Array Value → State → State → Prop} {pc : Nat} {ls : List (Option Value)} {st : List Value} {S : ovS} {o n : Nat} {i : Int32} {x : Int64} (ho : ocl o = 15) (hn : oln o = n) (hi : vp_in i n) (hd : decode k.2.1 pc = .ok (.lastore, 1)) (kk : RW G k R cells slots Z (pc + 1) ls st (seJ S o (vp_updL (S.2 o) i.toNatClampNeg x))) : RW G k R cells slots Z (pc) ls (.long x :: .int i :: .ref o :: st) S := by
  intro p e s m args below meth c C0 H locs la hP hS hl
  have hlt := ocl_lt ho (by omega)
  refine va_last C0.1 C0.2.1 C0.2.2.2.2.2.2.1 hP ows_D hS o 2 ((ows_at hlt).trans (by rw [oce_J ho hn])) rfl hi hd (fun H1 locs1 hP1 hD1 hS1 => ?_)
  rw [ows_set (S' := seJ S o (vp_updL (S.2 o) i.toNatClampNeg x)) hlt (by rw [oce_J ho hn]; simp [seJ, va_up]) (fun j hj => oce_seJ hj)] at hP1
  exact kk p e s m args below meth c C0 H1 locs1 la hP1 hS1 hl
theorem r_alenI {G : ovG} {k : ovM} {R : Room} {cells slots : Nat} {Z : List Frame → Array Value → State → State → Prop} {pc : Nat} {ls : List (Option Value)} {st : List Value} {S : ovS} {o n : Nat} {v : Int32} (ho : ocl o = 14) (hn : oln o = n) (hv : Int32.ofNat n = v) (hd : decode k.2.1 pc = .ok (.arraylength, 1)) (kk : RW G k R cells slots Z (pc + 1) ls (.int v :: st) S) : RW G k R cells slots Z (pc) ls (.ref o :: st) S := by
  intro p e s m args below meth c C0 H locs la hP hS hl
  have hlt := ocl_lt ho (by omega)
  exact va_alen C0.1 C0.2.1 C0.2.2.2.2.2.2.1 hP o 1 ((ows_at hlt).trans (by rw [oce_I ho hn])) rfl hv hd (kk p e s m args below meth c C0 H locs la hP hS hl)
theorem r_alenB {G : ovG} {k : ovM} {R : Room} {cells slots : Nat} {Z : List Frame → Array Value → State → State → Prop} {pc : Nat} {ls : List (Option Value)} {st : List Value} {S : ovS} {o n : Nat} {v : Int32} (ho : ocl o = 13) (hn : oln o = n) (hv : Int32.ofNat n = v) (hd : decode k.2.1 pc = .ok (.arraylength, 1)) (kk : RW G k R cells slots Z (pc + 1) ls (.int v :: st) S) : RW G k R cells slots Z (pc) ls (.ref o :: st) S := by
  intro p e s m args below meth c C0 H locs la hP hS hl
  have hlt := ocl_lt ho (by omega)
  exact va_alen C0.1 C0.2.1 C0.2.2.2.2.2.2.1 hP o 0 ((ows_at hlt).trans (by rw [oce_B ho hn])) rfl hv hd (kk p e s m args below meth c C0 H locs la hP hS hl)
theorem r_alenJ {G : ovG} {k : ovM} {R : Room} {cells slots : Nat} {Z : List Frame → Array Value → State → State → Prop} {pc : Nat} {ls : List (Option Value)} {st : List Value} {S : ovS} {o n : Nat} {v : Int32} (ho : ocl o = 15) (hn : oln o = n) (hv : Int32.ofNat n = v) (hd : decode k.2.1 pc = .ok (.arraylength, 1)) (kk : RW G k R cells slots Z (pc + 1) ls (.int v :: st) S) : RW G k R cells slots Z (pc) ls (.ref o :: st) S := by
  intro p e s m args below meth c C0 H locs la hP hS hl
  have hlt := ocl_lt ho (by omega)
  exact va_alen C0.1 C0.2.1 C0.2.2.2.2.2.2.1 hP o 2 ((ows_at hlt).trans (by rw [oce_J ho hn])) rfl hv hd (kk p e s m args below meth c C0 H locs la hP hS hl)
theorem r_alenZ {G : ovG} {k : ovM} {R : Room} {cells slots : Nat} {Z : List Frame → Array Value → State → State → Prop} {pc : Nat} {ls : List (Option Value)} {st : List Value} {S : ovS} {o n : Nat} {v : Int32} (ho : ocl o = 16) (hn : oln o = n) (hv : Int32.ofNat n = v) (hd : decode k.2.1 pc = .ok (.arraylength, 1)) (kk : RW G k R cells slots Z (pc + 1) ls (.int v :: st) S) : RW G k R cells slots Z (pc) ls (.ref o :: st) S := by
  intro p e s m args below meth c C0 H locs la hP hS hl
  have hlt := ocl_lt ho (by omega)
  exact va_alen C0.1 C0.2.1 C0.2.2.2.2.2.2.1 hP o 3 ((ows_at hlt).trans (by rw [oce_Z ho hn])) rfl hv hd (kk p e s m args below meth c C0 H locs la hP hS hl)
theorem r_getsW {G : ovG} {k : ovM} {R : Room} {cells slots : Nat} {Z : List Frame → Array Value → State → State → Prop} {pc : Nat} {ls : List (Option Value)} {st : List Value} {S : ovS} {index : Nat} (hw : Cond.fieldLink k.1.cls index "OvenNames$Scanner" "WORDS" "[J" ∈ tblG) (hd : decode k.2.1 pc = .ok (.getstatic index, 3)) (kk : RW G k R cells slots Z (pc + 3) ls (.ref 447 :: st) S) : RW G k R cells slots Z (pc) ls st S := by
  intro p e s m args below meth c C0 H locs la hP hS hl
  have hh := kk p e s m args below meth c C0 H locs la hP hS hl
  rw [List.map_cons, otr, oad_x (by decide)] at hh
  exact va_gets C0.1 C0.2.1 C0.2.2.2.2.2.2.2.2.1 hS C0.2.2.2.2.1 (C0.2.2.2.2.2.1 _ hw) (fun _ q => q) hd hh
theorem r_getsR {G : ovG} {k : ovM} {R : Room} {cells slots : Nat} {Z : List Frame → Array Value → State → State → Prop} {pc : Nat} {ls : List (Option Value)} {st : List Value} {S : ovS} {index : Nat} (hw : Cond.fieldLink k.1.cls index "OvenNames$FormulaReader" "RANKS" "[I" ∈ tblG) (hd : decode k.2.1 pc = .ok (.getstatic index, 3)) (kk : RW G k R cells slots Z (pc + 3) ls (.ref 448 :: st) S) : RW G k R cells slots Z (pc) ls st S := by
  intro p e s m args below meth c C0 H locs la hP hS hl
  have hh := kk p e s m args below meth c C0 H locs la hP hS hl
  rw [List.map_cons, otr, oad_x (by decide)] at hh
  exact va_gets C0.1 C0.2.1 C0.2.2.2.2.2.2.2.2.2.2.1 hS C0.2.2.2.2.1 (C0.2.2.2.2.2.1 _ hw) (fun _ q => q) hd hh
theorem r_tl {G : ovG} {k : ovM} {R : Room} {cells slots : Nat} {Z : List Frame → Array Value → State → State → Prop} {pc : Nat} {ls : List (Option Value)} {st : List Value} {S : ovS} {i : Int32} (hi : vp_in i 15) (hd : decode k.2.1 pc = .ok (.laload, 1)) (kk : RW G k R cells slots Z (pc + 1) ls (.long (oWd.getD i.toNatClampNeg 0) :: st) S) : RW G k R cells slots Z (pc) ls (.int i :: .ref 447 :: st) S := by
  intro p e s m args below meth c C0 H locs la hP hS hl
  have hh := kk p e s m args below meth c C0 H locs la hP hS hl
  rw [List.map_cons, List.map_cons, otr, otr, oad_x (by decide)]
  exact va_tl C0.1 C0.2.1 C0.2.2.2.2.2.2.2.2.2.1 hS hi rfl hd hh
theorem r_ti {G : ovG} {k : ovM} {R : Room} {cells slots : Nat} {Z : List Frame → Array Value → State → State → Prop} {pc : Nat} {ls : List (Option Value)} {st : List Value} {S : ovS} {i : Int32} (hi : vp_in i 18) (hd : decode k.2.1 pc = .ok (.iaload, 1)) (kk : RW G k R cells slots Z (pc + 1) ls (.int (oRk.getD i.toNatClampNeg 0) :: st) S) : RW G k R cells slots Z (pc) ls (.int i :: .ref 448 :: st) S := by
  intro p e s m args below meth c C0 H locs la hP hS hl
  have hh := kk p e s m args below meth c C0 H locs la hP hS hl
  rw [List.map_cons, List.map_cons, otr, otr, oad_x (by decide)]
  exact va_ti C0.1 C0.2.1 C0.2.2.2.2.2.2.2.2.2.2.2.1 hS hi rfl hd hh
theorem r_tlen {G : ovG} {k : ovM} {R : Room} {cells slots : Nat} {Z : List Frame → Array Value → State → State → Prop} {pc : Nat} {ls : List (Option Value)} {st : List Value} {S : ovS} (hd : decode k.2.1 pc = .ok (.arraylength, 1)) (kk : RW G k R cells slots Z (pc + 1) ls (.int 15 :: st) S) : RW G k R cells slots Z (pc) ls (.ref 447 :: st) S := by
  intro p e s m args below meth c C0 H locs la hP hS hl
  have hh := kk p e s m args below meth c C0 H locs la hP hS hl
  rw [List.map_cons, otr, oad_x (by decide)]
  exact va_tlen C0.1 C0.2.1 C0.2.2.2.2.2.2.2.2.2.1 hS rfl hd hh
theorem r_iret {G : ovG} {k : ovM} {h : Nat} {Q : Int32 → ovS → Prop} {pc : Nat} {ls : List (Option Value)} {S : ovS} {x : Int32} (hr : k.2.2.2 = some .int) (hd : decode k.2.1 pc = .ok (.ireturn, 1)) (hq : Q x S) : RM G k h Q pc ls [.int x] S := by
  intro p e s m args below meth c C0 H locs la hP hS hl
  have hL := C0.2.2.2.2.2.2.2.1
  exact W.iret C0.1 C0.2.1 (C0.2.2.1.trans hr) (fun t ht hW => ⟨⟨x, S, by rw [orv, hr], hq, by rw [ht]; exact hP⟩, hS.F ht⟩) hS.2.2 hd hL
theorem r_zret {G : ovG} {k : ovM} {h : Nat} {Q : Int32 → ovS → Prop} {pc : Nat} {ls : List (Option Value)} {S : ovS} {x : Int32} (hr : k.2.2.2 = some .boolean) (hd : decode k.2.1 pc = .ok (.ireturn, 1)) (hx : x = 0 ∨ x = 1) (hq : Q x S) : RM G k h Q pc ls [.int x] S := by
  intro p e s m args below meth c C0 H locs la hP hS hl
  have hL := C0.2.2.2.2.2.2.2.1
  exact W.zret C0.1 C0.2.1 (C0.2.2.1.trans hr) (o_bool hx).1 (fun t ht hW => ⟨⟨x, S, by rw [orv, hr], hq, by rw [ht]; exact hP⟩, hS.F ht⟩) hS.2.2 hd hL
theorem r_vret {G : ovG} {k : ovM} {h : Nat} {Q : Int32 → ovS → Prop} {pc : Nat} {ls : List (Option Value)} {S : ovS} (hr : k.2.2.2 = none) (hd : decode k.2.1 pc = .ok (.return_, 1)) (hq : Q 0 S) : RM G k h Q pc ls [] S := by
  intro p e s m args below meth c C0 H locs la hP hS hl
  have hL := C0.2.2.2.2.2.2.2.1
  exact W.vret C0.1 C0.2.1 (C0.2.2.1.trans hr) (fun t ht hW => ⟨⟨0, S, by rw [orv, hr], hq, by rw [ht]; exact hP⟩, hS.F ht⟩) hS.2.2 hd hL
/-! calls -/
theorem o_call {p : Program} {l : Launch} {e : Env} {R : Room} {s : State} {m : MethodId} {args : Array Value} {below : List Frame} {meth : Method} {c : Code} {H : Heap} {locs : List Loc} {cells slots : Nat} {Z : State → Prop} {G : ovG} {k : ovM} {Q : Int32 → ovS → Prop} {pc : Nat} {la : Array Slot} {st0 rest : List Value} {a : Array Value}
    (hr : va_Run p l e R s m args below meth c H locs cells slots 0 0 (F0 m pc la st0) rest (oQc G k Q a) (oA G)) (hS : va_S (oA G) s.heap H locs)
    (kk : ∀ (r : Int32) (S1 : ovS) (H1 : Heap) (locs1 : List Loc), Q r S1 → oP G S1 H1 → va_S (oA G) s.heap H1 locs1 → W p l e R s m args below meth c H1 locs1 cells slots Z (F0 m (pc + 3) la ((orv k r).toList ++ rest))) : W p l e R s m args below meth c H locs cells slots Z (F0 m pc la st0) := by
  intro T hT X
  obtain ⟨v, st₀, t, T', L, h0, X', hL, e1, e2, ⟨⟨r, S1, hv, hq, hp⟩, hz, hk⟩, stp⟩ := hr T hT X
  cases hv
  rw [h0] at hz hk
  obtain ⟨t2, a1, b1⟩ := kk r S1 T'.heap (locs ++ L) hq (by rw [e1]; exact hp)
    ⟨Nat.le_trans hS.1 (by rw [e1]; exact hz), fun q h1 h2 => by rw [e1, hk q (Nat.lt_of_lt_of_le h1 hS.1) h2]; exact hS.2.1 q h1 h2, fun q hq => by
      rcases List.mem_append.mp hq with h | h
      · exact hS.2.2 q h
      · exact hL q h⟩ T' rfl X'
  exact ⟨t2, stp t2 a1, b1⟩
theorem o_blind {G : ovG} {av : List Value} {S : ovS} : FrameBlind (va_Pc av (fun U => oP G S U.heap ∧ va_K G.2.2.1 vwCl (otys G) U ∧ oSx G U)) := by
  rintro a U g mk ⟨h1, h2, h3, h4⟩
  exact ⟨h1, h2, va_K.moved (u := U) (U := U.calling g mk a) (Vm.Alike.refl U.vm) h3, h4.to (U := U.calling g mk a) va_S.rf rfl (State.WarmedH.refl U)⟩
def oMh (k : ovM) (n : Nat) : Prop := k.1.cls ≠ "java/lang/invoke/MethodHandle" ∧ k.1.cls ≠ "java/lang/invoke/VarHandle" ∧ (parseMethodDescriptor k.1.desc).map (fun d => d.parameters.length) = some n
def oMV (k : ovM) (n : Nat) : Prop := Cond.code k.1 k.2.1 k.2.2.1 k.2.2.2 ∈ tblG ∧ Cond.instanceMethod k.1 ∈ tblG ∧ Cond.selects k.1.cls k.1 k.1 ∈ tblG ∧ Cond.initialized k.1.cls ∈ tblG ∧ oMh k n
def oMS (k : ovM) (n : Nat) : Prop := Cond.code k.1 k.2.1 k.2.2.1 k.2.2.2 ∈ tblG ∧ Cond.static k.1 ∈ tblG ∧ Cond.initialized k.1.cls ∈ tblG ∧ oMh k n
theorem o_code {k : ovM} (h : Cond.code k.1 k.2.1 k.2.2.1 k.2.2.2 ∈ tblG) : ∀ w ∈ owk k, w ∈ tblG := fun w hw => by
  rcases List.mem_cons.mp hw with rfl | q
  · exact h
  · exact q
theorem o_sum {G : ovG} (st : List Value) : ((st.map (otr G)).map fun v => v.category).sum = (st.map fun v => v.category).sum := by
  rw [List.map_map]
  congr 1
  apply List.map_congr_left
  intro v _
  exact otr_cat v
theorem o_stack {G : ovG} (As st : List Value) (v : Value) : (As.reverse ++ v :: st).map (otr G) = (As.map (otr G)).reverse ++ otr G v :: st.map (otr G) := by
  rw [List.map_append, List.map_reverse, List.map_cons]
theorem o_stackS {G : ovG} (As st : List Value) : (As.reverse ++ st).map (otr G) = (As.map (otr G)).reverse ++ st.map (otr G) := by
  rw [List.map_append, List.map_reverse]
theorem o_ret {G : ovG} (k : ovM) (r : Int32) (st : List Value) : (orv k r).toList ++ st.map (otr G) = ((orv k r).toList ++ st).map (otr G) := by
  rw [List.map_append]
  congr 1
  unfold orv
  cases k.2.2.2 <;> rfl
theorem r_callV {G : ovG} {k : ovM} {R : Room} {cells slots : Nat} {Z : List Frame → Array Value → State → State → Prop} {pc : Nat} {ls : List (Option Value)} {st stk : List Value} {S : ovS} {y : ovM} {n h o ci index N : Nat} {T : u_T} {As : List Value} {Q : Int32 → ovS → Prop}
    (hM : oMV y n) (hl : Cond.methodLink k.1.cls index y.1 ∈ tblG) (ho : ocl o = ci) (hci : ci < 13) (hc : vwCl[ci]? = some (y.1.cls, T, N)) (hd : decode k.2.1 pc = .ok (.invokevirtual index, 3)) (hn : As.length = n) (hs : (st.map fun v => v.category).sum ≤ 8) (hR : h + 1 ≤ R.frames ∧ 8 + (y.2.2.1 + 11) + 64 * h ≤ R.locals) (hf : cells ≤ R.cells ∧ slots ≤ R.slots) (hst : As.reverse ++ .ref o :: st = stk)
    (hE : Ex G y h (.ref o :: As) S Q) (kk : ∀ (r : Int32) (S1 : ovS), Q r S1 → RW G k R cells slots Z (pc + 3) ls ((orv y r).toList ++ st) S1) : RW G k R cells slots Z pc ls stk S := by
  intro p e s m args below meth c C0 H locs la hP hS hl2
  subst hst
  obtain ⟨hco, hin, hse, hit, hh⟩ := hM
  have hlt := ocl_lt ho (by omega)
  have hz : (ows G S)[o]? = some (oad G o, .inr (ci, (List.range (ofn ci)).map (ofv G S o ci))) := (ows_at (G := G) (S := S) hlt).trans (by rw [oce_obj ho hci])
  have hG : GoodIn tblG (wsV k.1.cls index y.1.cls y.1 (owk y)) := tblG_in (fun w hw => by
    rcases List.mem_append.mp hw with q | q
    · simp only [List.mem_cons, List.not_mem_nil, or_false] at q
      rcases q with rfl | rfl | rfl | rfl
      · exact hl
      · exact hin
      · exact hse
      · exact hit
    · exact o_code hco w q)
  rw [o_stack]
  refine o_call (G := G) (k := y) (Q := Q) (rest := st.map (otr G)) (va_runV (As := As.map (otr G)) (C := y.1.cls) (n := n) ⟨C0.1, C0.2.1, C0.2.2.2.1, C0.2.2.2.2.1, C0.2.2.2.2.2.1⟩ hE (cwV n C0.2.2.2.2.2.1 hG rfl rfl rfl ⟨rfl, hh⟩ hR) ⟨o_blind, va_recv C0.2.2.2.2.2.2.1 hP hc hz, fun U hU hW => ⟨rfl, by rw [hU]; exact hP, va_K.moved hW.alike C0.2.2.2.2.2.2.1, C0.2.2.2.2.2.2.2.2.to hS hU hW⟩⟩ rfl (by rw [List.length_map]; exact hn) hl2.1 rfl (lv_room (by rw [o_sum]; exact hs)) hd hf) hS (fun r S1 H1 locs1 hq hp1 hs1 => ?_)
  rw [o_ret]
  exact kk r S1 hq p e s m args below meth c C0 H1 locs1 la hp1 hs1 hl2
theorem r_callS {G : ovG} {k : ovM} {R : Room} {cells slots : Nat} {Z : List Frame → Array Value → State → State → Prop} {pc : Nat} {ls : List (Option Value)} {st stk : List Value} {S : ovS} {y : ovM} {n h index : Nat} {As : List Value} {Q : Int32 → ovS → Prop}
    (hM : oMS y n) (hl : Cond.methodLink k.1.cls index y.1 ∈ tblG) (hd : decode k.2.1 pc = .ok (.invokestatic index, 3)) (hn : As.length = n) (hs : (st.map fun v => v.category).sum ≤ 8) (hR : h + 1 ≤ R.frames ∧ 8 + (y.2.2.1 + 11) + 64 * h ≤ R.locals) (hf : cells ≤ R.cells ∧ slots ≤ R.slots) (hst : As.reverse ++ st = stk)
    (hE : Ex G y h As S Q) (kk : ∀ (r : Int32) (S1 : ovS), Q r S1 → RW G k R cells slots Z (pc + 3) ls ((orv y r).toList ++ st) S1) : RW G k R cells slots Z pc ls stk S := by
  intro p e s m args below meth c C0 H locs la hP hS hl2
  subst hst
  obtain ⟨hco, hsc, hit, hh⟩ := hM
  have hG : GoodIn tblG (va_wsS k.1.cls index y.1 (owk y)) := tblG_in (fun w hw => by
    rcases List.mem_append.mp hw with q | q
    · simp only [List.mem_cons, List.not_mem_nil, or_false] at q
      rcases q with rfl | rfl | rfl
      · exact hl
      · exact hsc
      · exact hit
    · exact o_code hco w q)
  rw [o_stackS]
  refine o_call (G := G) (k := y) (Q := Q) (rest := st.map (otr G)) (va_runS (As := As.map (otr G)) (n := n) ⟨C0.1, C0.2.1, C0.2.2.2.1, C0.2.2.2.2.1, C0.2.2.2.2.2.1⟩ hE (va_cwS n C0.2.2.2.2.2.1 hG rfl rfl rfl hh hR) ⟨o_blind, fun U hU hW => ⟨rfl, by rw [hU]; exact hP, va_K.moved hW.alike C0.2.2.2.2.2.2.1, C0.2.2.2.2.2.2.2.2.to hS hU hW⟩⟩ rfl (by rw [List.length_map]; exact hn) hl2.1 rfl (lv_room (by rw [o_sum]; exact hs)) hd hf) hS (fun r S1 H1 locs1 hq hp1 hs1 => ?_)
  rw [o_ret]
  exact kk r S1 hq p e s m args below meth c C0 H1 locs1 la hp1 hs1 hl2
/-- System.arraycopy between two rows of ints -/
theorem r_copyI {G : ovG} {k : ovM} {R : Room} {cells slots : Nat} {Z : List Frame → Array Value → State → State → Prop} {pc : Nat} {ls : List (Option Value)} {st : List Value} {S : ovS} {index o o2 n0 n1 : Nat} {sp dp n : Int32}
    (hl : Cond.methodLink k.1.cls index arraycopyName ∈ tblG) (hnat : Cond.native arraycopyName ∈ tblG) (hsta : Cond.static arraycopyName ∈ tblG) (hini : Cond.initialized "java/lang/System" ∈ tblG) (ho : ocl o = 14) (hn0 : oln o = n0) (ho2 : ocl o2 = 14) (hn1 : oln o2 = n1) (h1 : ¬ sp < 0) (h2 : ¬ dp < 0) (h3 : ¬ n < 0) (h4 : sp.toNatClampNeg + n.toNatClampNeg ≤ n0) (h5 : dp.toNatClampNeg + n.toNatClampNeg ≤ n1)
    (hR : 1 ≤ R.frames) (hR2 : (st.map fun v => v.category).sum + (nativeFrameWords "java/lang/System" "arraycopy" 5 + 11) ≤ R.locals) (hd : decode k.2.1 pc = .ok (.invokestatic index, 3))
    (kk : RW G k R cells slots Z (pc + 3) ls st (seI S o2 (va_cpy (S.1 o) (S.1 o2) sp.toNatClampNeg dp.toNatClampNeg n.toNatClampNeg))) : RW G k R cells slots Z pc ls (.int n :: .int dp :: .ref o2 :: .int sp :: .ref o :: st) S := by
  intro p e s m args below meth c C0 H locs la hP hS hl2
  have hlt := ocl_lt ho (by omega)
  have hlt2 := ocl_lt ho2 (by omega)
  refine va_copyi C0.1 C0.2.1 (C0.2.2.2.1.trans hl2.1.symm) C0.2.2.2.2.1 (C0.2.2.2.2.2.1 _ hl) (C0.2.2.2.2.2.1 _ hnat) (C0.2.2.2.2.2.1 _ hsta) (C0.2.2.2.2.2.1 _ hini) C0.2.2.2.2.2.2.1 hP ows_D hS o o2 1 1 ((ows_at hlt).trans (by rw [oce_I ho hn0])) ((ows_at hlt2).trans (by rw [oce_I ho2 hn1])) rfl rfl rfl h1 h2 h3 h4 h5 (fun i _ => rfl) hR (by rw [o_sum]; exact hR2) hd (fun H1 locs1 hP1 hD1 hS1 => ?_)
  rw [ows_set (S' := seI S o2 (va_cpy (S.1 o) (S.1 o2) sp.toNatClampNeg dp.toNatClampNeg n.toNatClampNeg)) hlt2 (by rw [oce_I ho2 hn1]; simp [seI, va_up]) (fun j hj => oce_seI hj)] at hP1
  exact kk p e s m args below meth c C0 H1 locs1 la hP1 hS1 hl2
