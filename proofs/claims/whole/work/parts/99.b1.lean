/-! rows, walks and specs over the first 412 objects -/
def oP4 (G : ovG) (S : ovS) (H : Heap) : Prop := va_P G.2.2.1 vwCl (ows4 G S) H
def RW4 (G : ovG) (k : ovM) (R : Room) (cells slots : Nat) (Z : List Frame → Array Value → State → State → Prop) (pc : Nat) (ls : List (Option Value)) (st : List Value) (S : ovS) : Prop :=
  ∀ (p : Program) (e : Env) (s : State) (m : MethodId) (args : Array Value) (below : List Frame) (meth : Method) (c : Code), oCx G k p s m args meth c → ∀ (H : Heap) (locs : List Loc) (la : Array Slot), oP4 G S H → va_S (oA G) s.heap H locs → olv G la k.2.2.1 ls →
    W p G.1 e R s m args below meth c H locs cells slots (Z below args s) (F0 m pc la (st.map (otr G)))
def oQc4 (G : ovG) (k : ovM) (Q : Int32 → ovS → Prop) : Array Value → State → Outcome → State → Prop := fun _ st oc t =>
  (∃ (r : Int32) (S1 : ovS), oc = .returned (orv k r) ∧ Q r S1 ∧ oP4 G S1 t.heap) ∧ va_F (oA G) st t
def oZ4 (G : ovG) (k : ovM) (Q : Int32 → ovS → Prop) : List Frame → Array Value → State → State → Prop := fun below args s => MQ below (oQc4 G k Q) args s 0 0 (oA G)
abbrev RM4 (G : ovG) (k : ovM) (h : Nat) (Q : Int32 → ovS → Prop) (pc : Nat) (ls : List (Option Value)) (st : List Value) (S : ovS) : Prop := RW4 G k (oRm h) 0 0 (oZ4 G k Q) pc ls st S
def Ex4 (G : ovG) (k : ovM) (h : Nat) (av : List Value) (S : ovS) (Q : Int32 → ovS → Prop) : Prop :=
  Met G.1 k.1 (owk k) (oRm h) (va_Pc (av.map (otr G)) (fun U => oP4 G S U.heap ∧ va_K G.2.2.1 vwCl (otys G) U ∧ oSx G U)) (oQc4 G k Q) 0 0 (oA G)
theorem Ex4.of {G : ovG} {y : MethodName} {cc : ByteArray} {n h : Nat} {ret : Option FieldType} {av : List Value} {S : ovS} {Q : Int32 → ovS → Prop} (hy : plainName y.cls = true) (hl : (lg_sl (av.map (otr G))).length ≤ n) (ls : List (Option Value)) (hls : ∃ m, oarg av ++ List.replicate m none = ls)
    (body : RM4 G (y, cc, n, ret) h Q 0 ls [] S) : Ex4 G (y, cc, n, ret) h av S Q := by
  refine Met.ofW (cc := cc) (maxL := n) (ret := ret) hy rfl ?_
  intro p e s m args below meth c s₁ B hml hv
  obtain ⟨rfl, hP, hK, hX⟩ := hv
  have hl2 := lv_entry (av.map (otr G)) (n := n) hl
  rw [lg_entry_eq]
  have hts := atoms_spec (ws := owk (y, cc, n, ret)) B.pre
  refine body p e s m _ below meth c ⟨B.exec, B.bytes, B.returns, hml, findClass_of_methodNamed B.named, fun w hw => hts w (List.mem_cons_of_mem _ hw), hK, B.notSynchronized, hX⟩ s.heap [] _ hP va_S.rf ?_
  obtain ⟨m2, rfl⟩ := hls
  show lv_has _ n _
  rw [oll_app, oll_none, List.append_nil, oll_arg]
  exact hl2
theorem r_iconst4 {G : ovG} {k : ovM} {R : Room} {cells slots : Nat} {Z : List Frame → Array Value → State → State → Prop} {pc : Nat} {ls : List (Option Value)} {st : List Value} {S : ovS} {n : Int} {v : Int32} (hd : decode k.2.1 pc = .ok (.iconst n, 1)) (hv : Int32.ofInt n = v) (kk : RW4 G k R cells slots Z (pc + 1) ls (.int v :: st) S) : RW4 G k R cells slots Z (pc) ls st S := by
  intro p e s m args below meth c C H locs la hP hS hl
  exact lv_iconst C.1 C.2.1 hd hv (kk p e s m args below meth c C H locs la hP hS hl)
theorem r_iload_n4 {G : ovG} {k : ovM} {R : Room} {cells slots : Nat} {Z : List Frame → Array Value → State → State → Prop} {pc : Nat} {ls : List (Option Value)} {st : List Value} {S : ovS} {q : Fin 4} {i : Nat} {x : Int32} (hd : decode k.2.1 pc = .ok (.iload_n q, 1)) (hi : (q : Nat) = i) (hx : ls[i]? = some (some (.int x))) (kk : RW4 G k R cells slots Z (pc + 1) ls (.int x :: st) S) : RW4 G k R cells slots Z (pc) ls st S := by
  intro p e s m args below meth c C H locs la hP hS hl
  exact lv_iload_n C.1 C.2.1 hd hi (olv_at hl hx) (kk p e s m args below meth c C H locs la hP hS hl)
theorem r_aload_n4 {G : ovG} {k : ovM} {R : Room} {cells slots : Nat} {Z : List Frame → Array Value → State → State → Prop} {pc : Nat} {ls : List (Option Value)} {st : List Value} {S : ovS} {q : Fin 4} {i : Nat} {x : Nat} (hd : decode k.2.1 pc = .ok (.aload_n q, 1)) (hi : (q : Nat) = i) (hx : ls[i]? = some (some (.ref x))) (kk : RW4 G k R cells slots Z (pc + 1) ls (.ref x :: st) S) : RW4 G k R cells slots Z (pc) ls st S := by
  intro p e s m args below meth c C H locs la hP hS hl
  exact lv_aload_n C.1 C.2.1 hd hi (olv_at hl hx) (kk p e s m args below meth c C H locs la hP hS hl)
theorem r_istore_n4 {G : ovG} {k : ovM} {R : Room} {cells slots : Nat} {Z : List Frame → Array Value → State → State → Prop} {pc : Nat} {ls : List (Option Value)} {st : List Value} {S : ovS} {q : Fin 4} {i : Nat} {x : Int32} (hd : decode k.2.1 pc = .ok (.istore_n q, 1)) (hi : (q : Nat) = i) (hn : i < k.2.2.1) (ho : onl ls i) (kk : RW4 G k R cells slots Z (pc + 1) (ls.set i (some (.int x))) st S) : RW4 G k R cells slots Z (pc) ls (.int x :: st) S := by
  intro p e s m args below meth c C H locs la hP hS hl
  exact lv_istore_n C.1 C.2.1 hd hi hl hn rfl (fun la2 hl2 => kk p e s m args below meth c C H locs la2 hP hS (olv_set (v := .int x) hl2 ho))
theorem r_iinc4 {G : ovG} {k : ovM} {R : Room} {cells slots : Nat} {Z : List Frame → Array Value → State → State → Prop} {pc : Nat} {ls : List (Option Value)} {st : List Value} {S : ovS} {i : Nat} {n : Int} {x v : Int32} (hd : decode k.2.1 pc = .ok (.iinc i n, 3)) (hx : ls[i]? = some (some (.int x))) (hv : x + Int32.ofInt n = v) (hn : i < k.2.2.1) (ho : onl ls i) (kk : RW4 G k R cells slots Z (pc + 3) (ls.set i (some (.int v))) st S) : RW4 G k R cells slots Z (pc) ls st S := by
  intro p e s m args below meth c C H locs la hP hS hl
  obtain ⟨j, hj⟩ := List.getElem?_of_mem (List.mem_map.mpr ⟨(i, .int x), (mem_oll ls 0 i (.int x)).mpr ⟨Nat.zero_le _, hx⟩, rfl⟩ : otl G (i, .int x) ∈ (oll ls 0).map (otl G))
  exact lv_iinc C.1 C.2.1 hd hl hj hv hn rfl (fun la2 hl2 => kk p e s m args below meth c C H locs la2 hP hS (olv_set (v := .int v) hl2 ho))
theorem r_icmp_ge4 {G : ovG} {k : ovM} {R : Room} {cells slots : Nat} {Z : List Frame → Array Value → State → State → Prop} {pc : Nat} {ls : List (Option Value)} {st : List Value} {S : ovS} {x y : Int32} {off : Int} {tgt : Nat} (hd : decode k.2.1 pc = .ok (.if_icmp .ge off, 3)) (ht : (pc : Int) + off = (tgt : Int)) (kt : y ≤ x → RW4 G k R cells slots Z (tgt) ls st S) (kf : ¬ y ≤ x → RW4 G k R cells slots Z (pc + 3) ls st S) : RW4 G k R cells slots Z (pc) ls (.int y :: .int x :: st) S := by
  intro p e s m args below meth c C H locs la hP hS hl
  exact lv_icmp_ge C.1 C.2.1 hd ht (fun q => kt q p e s m args below meth c C H locs la hP hS hl) (fun q => kf q p e s m args below meth c C H locs la hP hS hl)
theorem r_goto4 {G : ovG} {k : ovM} {R : Room} {cells slots : Nat} {Z : List Frame → Array Value → State → State → Prop} {pc : Nat} {ls : List (Option Value)} {st : List Value} {S : ovS} {off : Int} {tgt : Nat} (hd : decode k.2.1 pc = .ok (.goto off, 3)) (ht : (pc : Int) + off = (tgt : Int)) (kk : RW4 G k R cells slots Z (tgt) ls st S) : RW4 G k R cells slots Z (pc) ls st S := by
  intro p e s m args below meth c C H locs la hP hS hl
  exact lv_goto C.1 C.2.1 hd ht (kk p e s m args below meth c C H locs la hP hS hl)
theorem r_getI4 {G : ovG} {k : ovM} {R : Room} {cells slots : Nat} {Z : List Frame → Array Value → State → State → Prop} {pc : Nat} {ls : List (Option Value)} {st : List Value} {S : ovS} {o ci j index : Nat} {C : String} {T : u_T} {N : Nat} (hw : Cond.fieldLink k.1.cls index C (T j).2.1 (T j).2.2.1 ∈ tblG) (hin : ∀ w ∈ u_ws C T N, w ∈ tblG) (hc : vwCl[ci]? = some (C, T, N)) (hC : (T j).1 = C) (ho : ocl4 o = ci) (hci : ci < 13) (hj : j < N) (hN : ofn ci = N) (hk : ofk ci j = (0, 0)) (hd : decode k.2.1 pc = .ok (.getfield index, 3)) (kk : RW4 G k R cells slots Z (pc + 3) ls (.int (S.1 o j) :: st) S) : RW4 G k R cells slots Z (pc) ls (.ref o :: st) S := by
  intro p e s m args below meth c C0 H locs la hP hS hl
  have hlt := ocl_lt4 ho (by omega)
  refine va_get C0.1 C0.2.1 C0.2.2.2.2.2.1 hin C0.2.2.2.2.1 C0.2.2.2.2.2.2.1 hP o (fs := (List.range (ofn ci)).map (ofv G S o ci)) ((ows_at4 hlt).trans (by rw [oce_obj4 ho hci])) hc j hj (C0.2.2.2.2.2.1 _ hw) (fun x q => by rw [← hC]; exact q) (v := .int (S.1 o j)) ?_ hd (kk p e s m args below meth c C0 H locs la hP hS hl)
  rw [List.getElem?_map, List.getElem?_range (by rw [hN]; exact hj)]
  simp only [Option.map_some, ofv, hk]
theorem r_getR4 {G : ovG} {k : ovM} {R : Room} {cells slots : Nat} {Z : List Frame → Array Value → State → State → Prop} {pc : Nat} {ls : List (Option Value)} {st : List Value} {S : ovS} {o ci j index : Nat} {C : String} {T : u_T} {N : Nat} (hw : Cond.fieldLink k.1.cls index C (T j).2.1 (T j).2.2.1 ∈ tblG) (hin : ∀ w ∈ u_ws C T N, w ∈ tblG) (hc : vwCl[ci]? = some (C, T, N)) (hC : (T j).1 = C) (ho : ocl4 o = ci) (hci : ci < 13) (hj : j < N) (hN : ofn ci = N) {q : Nat} (hk : ofk ci j = (2, q)) (hd : decode k.2.1 pc = .ok (.getfield index, 3)) (kk : RW4 G k R cells slots Z (pc + 3) ls (.ref (o + q) :: st) S) : RW4 G k R cells slots Z (pc) ls (.ref o :: st) S := by
  intro p e s m args below meth c C0 H locs la hP hS hl
  have hlt := ocl_lt4 ho (by omega)
  refine va_get C0.1 C0.2.1 C0.2.2.2.2.2.1 hin C0.2.2.2.2.1 C0.2.2.2.2.2.2.1 hP o (fs := (List.range (ofn ci)).map (ofv G S o ci)) ((ows_at4 hlt).trans (by rw [oce_obj4 ho hci])) hc j hj (C0.2.2.2.2.2.1 _ hw) (fun x q => by rw [← hC]; exact q) (v := .ref (oad G (o + q))) ?_ hd (kk p e s m args below meth c C0 H locs la hP hS hl)
  rw [List.getElem?_map, List.getElem?_range (by rw [hN]; exact hj)]
  simp only [Option.map_some, ofv, hk]
theorem r_putI4 {G : ovG} {k : ovM} {R : Room} {cells slots : Nat} {Z : List Frame → Array Value → State → State → Prop} {pc : Nat} {ls : List (Option Value)} {st : List Value} {S : ovS} {o ci j index : Nat} {C : String} {T : u_T} {N : Nat} (hw : Cond.fieldLink k.1.cls index C (T j).2.1 (T j).2.2.1 ∈ tblG) (hin : ∀ w ∈ u_ws C T N, w ∈ tblG) (hc : vwCl[ci]? = some (C, T, N)) (hC : (T j).1 = C) (ho : ocl4 o = ci) (hci : ci < 13) (hj : j < N) (hN : ofn ci = N) (ty0 : Nat → FieldType) (hty : ∀ k, k < N → parseFieldDescriptor (T k).2.2.1 = some (ty0 k)) (hnm : ∀ a, a < N → ∀ b, b < N → a ≠ b → (T a).2.1 ≠ (T b).2.1) (hfin : (T j).2.2.2 = false) {v : Int32} (hk : ofk ci j = (0, 0)) (hna : narrow (ty0 j) (.int v) = .int v) (hfi : fits (ty0 j) (.int v) = true) (hd : decode k.2.1 pc = .ok (.putfield index, 3)) (kk : RW4 G k R cells slots Z (pc + 3) ls st (seI S o (upd (S.1 o) j v))) : RW4 G k R cells slots Z (pc) ls (.int v :: .ref o :: st) S := by
  intro p e s m args below meth c C0 H locs la hP hS hl
  have hlt := ocl_lt4 ho (by omega)
  have hz : (ows4 G S)[o]? = some (oad G o, .inr (ci, (List.range (ofn ci)).map (ofv G S o ci))) := (ows_at4 (G := G) (S := S) hlt).trans (by rw [oce_obj4 ho hci])
  have hset : (ows4 G S).set o (oad G o, .inr (ci, ((List.range (ofn ci)).map (ofv G S o ci)).set j (.int v))) = ows4 G (seI S o (upd (S.1 o) j v)) := by
    refine ows_set4 hlt ?_ (fun i hi => oce_seI hi)
    rw [oce_obj4 ho hci]
    congr 2
    refine ofs_set hN hj ?_ (fun i hi => ofv_seI (by simp [upd, hi]))
    simp [ofv, hk, seI, va_up, upd]
  refine va_put C0.1 C0.2.1 C0.2.2.2.2.2.1 hin ty0 hty hnm C0.2.2.2.2.1 C0.2.2.2.2.2.2.1 hP ows_D4 hS o hz hc j hj (C0.2.2.2.2.2.1 _ hw) (fun x q => by rw [← hC]; exact q) hfin (v := .int v) (hty j hj) hna hfi (by rw [List.length_map, List.length_range, hN]; exact hj) hd (fun H1 locs1 hP1 hD1 hS1 => ?_)
  rw [hset] at hP1
  exact kk p e s m args below meth c C0 H1 locs1 la hP1 hS1 hl
theorem r_aald4 {G : ovG} {k : ovM} {R : Room} {cells slots : Nat} {Z : List Frame → Array Value → State → State → Prop} {pc : Nat} {ls : List (Option Value)} {st : List Value} {S : ovS} {o n : Nat} {i : Int32} (ho : ocl4 o = 17) (hn : oln o = n) (hi : vp_in i n) (hd : decode k.2.1 pc = .ok (.aaload, 1)) (kk : RW4 G k R cells slots Z (pc + 1) ls (.ref (orow o i.toNatClampNeg) :: st) S) : RW4 G k R cells slots Z (pc) ls (.int i :: .ref o :: st) S := by
  intro p e s m args below meth c C0 H locs la hP hS hl
  have hlt := ocl_lt4 ho (by omega)
  exact va_aldq C0.1 C0.2.1 C0.2.2.2.2.2.2.1 hP o 4 (f := fun j => some (oad G (orow o j))) ((ows_at4 hlt).trans (by rw [oce_R4 ho hn])) rfl hi hd (kk p e s m args below meth c C0 H locs la hP hS hl)
theorem r_iast4 {G : ovG} {k : ovM} {R : Room} {cells slots : Nat} {Z : List Frame → Array Value → State → State → Prop} {pc : Nat} {ls : List (Option Value)} {st : List Value} {S : ovS} {o n : Nat} {i : Int32} {x : Int32} (ho : ocl4 o = 14) (hn : oln o = n) (hi : vp_in i n) (hd : decode k.2.1 pc = .ok (.iastore, 1)) (kk : RW4 G k R cells slots Z (pc + 1) ls st (seI S o (upd (S.1 o) i.toNatClampNeg x))) : RW4 G k R cells slots Z (pc) ls (.int x :: .int i :: .ref o :: st) S := by
  intro p e s m args below meth c C0 H locs la hP hS hl
  have hlt := ocl_lt4 ho (by omega)
  refine va_iast C0.1 C0.2.1 C0.2.2.2.2.2.2.1 hP ows_D4 hS o 1 ((ows_at4 hlt).trans (by rw [oce_I4 ho hn])) rfl hi hd (fun H1 locs1 hP1 hD1 hS1 => ?_)
  rw [ows_set4 (S' := seI S o (upd (S.1 o) i.toNatClampNeg x)) hlt (by rw [oce_I4 ho hn]; simp [seI, va_up]) (fun j hj => oce_seI hj)] at hP1
  exact kk p e s m args below meth c C0 H1 locs1 la hP1 hS1 hl
theorem r_zast4 {G : ovG} {k : ovM} {R : Room} {cells slots : Nat} {Z : List Frame → Array Value → State → State → Prop} {pc : Nat} {ls : List (Option Value)} {st : List Value} {S : ovS} {o n : Nat} {i : Int32} {x : Int32} (ho : ocl4 o = 16) (hn : oln o = n) (hi : vp_in i n) (hd : decode k.2.1 pc = .ok (.bastore, 1)) (kk : RW4 G k R cells slots Z (pc + 1) ls st (seI S o (upd (S.1 o) i.toNatClampNeg (vp_nar .boolean x)))) : RW4 G k R cells slots Z (pc) ls (.int x :: .int i :: .ref o :: st) S := by
  intro p e s m args below meth c C0 H locs la hP hS hl
  have hlt := ocl_lt4 ho (by omega)
  refine va_zast C0.1 C0.2.1 C0.2.2.2.2.2.2.1 hP ows_D4 hS o 3 ((ows_at4 hlt).trans (by rw [oce_Z4 ho hn])) rfl hi hd (fun H1 locs1 hP1 hD1 hS1 => ?_)
  rw [ows_set4 (S' := seI S o (upd (S.1 o) i.toNatClampNeg (vp_nar .boolean x))) hlt (by rw [oce_Z4 ho hn]; simp [seI, va_up]) (fun j hj => oce_seI hj)] at hP1
  exact kk p e s m args below meth c C0 H1 locs1 la hP1 hS1 hl
theorem r_alenI4 {G : ovG} {k : ovM} {R : Room} {cells slots : Nat} {Z : List Frame → Array Value → State → State → Prop} {pc : Nat} {ls : List (Option Value)} {st : List Value} {S : ovS} {o n : Nat} {v : Int32} (ho : ocl4 o = 14) (hn : oln o = n) (hv : Int32.ofNat n = v) (hd : decode k.2.1 pc = .ok (.arraylength, 1)) (kk : RW4 G k R cells slots Z (pc + 1) ls (.int v :: st) S) : RW4 G k R cells slots Z (pc) ls (.ref o :: st) S := by
  intro p e s m args below meth c C0 H locs la hP hS hl
  have hlt := ocl_lt4 ho (by omega)
  exact va_alen C0.1 C0.2.1 C0.2.2.2.2.2.2.1 hP o 1 ((ows_at4 hlt).trans (by rw [oce_I4 ho hn])) rfl hv hd (kk p e s m args below meth c C0 H locs la hP hS hl)
theorem r_vret4 {G : ovG} {k : ovM} {h : Nat} {Q : Int32 → ovS → Prop} {pc : Nat} {ls : List (Option Value)} {S : ovS} (hr : k.2.2.2 = none) (hd : decode k.2.1 pc = .ok (.return_, 1)) (hq : Q 0 S) : RM4 G k h Q pc ls [] S := by
  intro p e s m args below meth c C0 H locs la hP hS hl
  have hL := C0.2.2.2.2.2.2.2.1
  exact W.vret C0.1 C0.2.1 (C0.2.2.1.trans hr) (fun t ht hW => ⟨⟨0, S, by rw [orv, hr], hq, by rw [ht]; exact hP⟩, hS.F ht⟩) hS.2.2 hd hL
theorem o_call4 {p : Program} {l : Launch} {e : Env} {R : Room} {s : State} {m : MethodId} {args : Array Value} {below : List Frame} {meth : Method} {c : Code} {H : Heap} {locs : List Loc} {cells slots : Nat} {Z : State → Prop} {G : ovG} {k : ovM} {Q : Int32 → ovS → Prop} {pc : Nat} {la : Array Slot} {st0 rest : List Value} {a : Array Value}
    (hr : va_Run p l e R s m args below meth c H locs cells slots 0 0 (F0 m pc la st0) rest (oQc4 G k Q a) (oA G)) (hS : va_S (oA G) s.heap H locs)
    (kk : ∀ (r : Int32) (S1 : ovS) (H1 : Heap) (locs1 : List Loc), Q r S1 → oP4 G S1 H1 → va_S (oA G) s.heap H1 locs1 → W p l e R s m args below meth c H1 locs1 cells slots Z (F0 m (pc + 3) la ((orv k r).toList ++ rest))) : W p l e R s m args below meth c H locs cells slots Z (F0 m pc la st0) := by
  intro T hT X
  obtain ⟨v, st₀, t, T', L, h0, X', hL, e1, e2, ⟨⟨r, S1, hv, hq, hp⟩, hz, hk⟩, stp⟩ := hr T hT X
  cases hv
  rw [h0] at hz hk
  obtain ⟨t2, a1, b1⟩ := kk r S1 T'.heap (locs ++ L) hq (by rw [e1]; exact hp)
    ⟨Nat.le_trans hS.1 (by rw [e1]; exact hz), fun q h1 h2 => by rw [e1, hk q (Nat.lt_of_lt_of_le h1 hS.1) h2]; exact hS.2.1 q h1 h2, fun q hq => by
      rcases List.mem_append.mp hq with h | h
      · exact hS.2.2 q h
      · exact hL q h⟩ T' rfl X'
  exact ⟨t2, stp t2 a1, b1⟩
theorem o_blind4 {G : ovG} {av : List Value} {S : ovS} : FrameBlind (va_Pc av (fun U => oP4 G S U.heap ∧ va_K G.2.2.1 vwCl (otys G) U ∧ oSx G U)) := by
  rintro a U g mk ⟨h1, h2, h3, h4⟩
  exact ⟨h1, h2, va_K.moved (u := U) (U := U.calling g mk a) (Vm.Alike.refl U.vm) h3, h4.to (U := U.calling g mk a) va_S.rf rfl (State.WarmedH.refl U)⟩
theorem r_callV4 {G : ovG} {k : ovM} {R : Room} {cells slots : Nat} {Z : List Frame → Array Value → State → State → Prop} {pc : Nat} {ls : List (Option Value)} {st stk : List Value} {S : ovS} {y : ovM} {n h o ci index N : Nat} {T : u_T} {As : List Value} {Q : Int32 → ovS → Prop}
    (hM : oMV y n) (hl : Cond.methodLink k.1.cls index y.1 ∈ tblG) (ho : ocl4 o = ci) (hci : ci < 13) (hc : vwCl[ci]? = some (y.1.cls, T, N)) (hd : decode k.2.1 pc = .ok (.invokevirtual index, 3)) (hn : As.length = n) (hs : (st.map fun v => v.category).sum ≤ 8) (hR : h + 1 ≤ R.frames ∧ 8 + (y.2.2.1 + 11) + 64 * h ≤ R.locals) (hf : cells ≤ R.cells ∧ slots ≤ R.slots) (hst : As.reverse ++ .ref o :: st = stk)
    (hE : Ex4 G y h (.ref o :: As) S Q) (kk : ∀ (r : Int32) (S1 : ovS), Q r S1 → RW4 G k R cells slots Z (pc + 3) ls ((orv y r).toList ++ st) S1) : RW4 G k R cells slots Z pc ls stk S := by
  intro p e s m args below meth c C0 H locs la hP hS hl2
  subst hst
  obtain ⟨hco, hin, hse, hit, hh⟩ := hM
  have hlt := ocl_lt4 ho (by omega)
  have hz : (ows4 G S)[o]? = some (oad G o, .inr (ci, (List.range (ofn ci)).map (ofv G S o ci))) := (ows_at4 (G := G) (S := S) hlt).trans (by rw [oce_obj4 ho hci])
  have hG : GoodIn tblG (wsV k.1.cls index y.1.cls y.1 (owk y)) := tblG_in (fun w hw => by
    rcases List.mem_append.mp hw with q | q
    · simp only [List.mem_cons, List.not_mem_nil, or_false] at q
      rcases q with rfl | rfl | rfl | rfl
      · exact hl
      · exact hin
      · exact hse
      · exact hit
    · exact o_code hco w q)
  rw [o_stack]
  refine o_call4 (G := G) (k := y) (Q := Q) (rest := st.map (otr G)) (va_runV (As := As.map (otr G)) (C := y.1.cls) (n := n) ⟨C0.1, C0.2.1, C0.2.2.2.1, C0.2.2.2.2.1, C0.2.2.2.2.2.1⟩ hE (cwV n C0.2.2.2.2.2.1 hG rfl rfl rfl ⟨rfl, hh⟩ hR) ⟨o_blind4, va_recv C0.2.2.2.2.2.2.1 hP hc hz, fun U hU hW => ⟨rfl, by rw [hU]; exact hP, va_K.moved hW.alike C0.2.2.2.2.2.2.1, C0.2.2.2.2.2.2.2.2.to hS hU hW⟩⟩ rfl (by rw [List.length_map]; exact hn) hl2.1 rfl (lv_room (by rw [o_sum]; exact hs)) hd hf) hS (fun r S1 H1 locs1 hq hp1 hs1 => ?_)
  rw [o_ret]
  exact kk r S1 hq p e s m args below meth c C0 H1 locs1 la hp1 hs1 hl2
theorem r_callS4 {G : ovG} {k : ovM} {R : Room} {cells slots : Nat} {Z : List Frame → Array Value → State → State → Prop} {pc : Nat} {ls : List (Option Value)} {st stk : List Value} {S : ovS} {y : ovM} {n h index : Nat} {As : List Value} {Q : Int32 → ovS → Prop}
    (hM : oMS y n) (hl : Cond.methodLink k.1.cls index y.1 ∈ tblG) (hd : decode k.2.1 pc = .ok (.invokestatic index, 3)) (hn : As.length = n) (hs : (st.map fun v => v.category).sum ≤ 8) (hR : h + 1 ≤ R.frames ∧ 8 + (y.2.2.1 + 11) + 64 * h ≤ R.locals) (hf : cells ≤ R.cells ∧ slots ≤ R.slots) (hst : As.reverse ++ st = stk)
    (hE : Ex4 G y h As S Q) (kk : ∀ (r : Int32) (S1 : ovS), Q r S1 → RW4 G k R cells slots Z (pc + 3) ls ((orv y r).toList ++ st) S1) : RW4 G k R cells slots Z pc ls stk S := by
  intro p e s m args below meth c C0 H locs la hP hS hl2
  subst hst
  obtain ⟨hco, hsc, hit, hh⟩ := hM
  have hG : GoodIn tblG (va_wsS k.1.cls index y.1 (owk y)) := tblG_in (fun w hw => by
    rcases List.mem_append.mp hw with q | q
    · simp only [List.mem_cons, List.not_mem_nil, or_false] at q
      rcases q with rfl | rfl | rfl
      · exact hl
      · exact hsc
      · exact hit
    · exact o_code hco w q)
  rw [o_stackS]
  refine o_call4 (G := G) (k := y) (Q := Q) (rest := st.map (otr G)) (va_runS (As := As.map (otr G)) (n := n) ⟨C0.1, C0.2.1, C0.2.2.2.1, C0.2.2.2.2.1, C0.2.2.2.2.2.1⟩ hE (va_cwS n C0.2.2.2.2.2.1 hG rfl rfl rfl hh hR) ⟨o_blind4, fun U hU hW => ⟨rfl, by rw [hU]; exact hP, va_K.moved hW.alike C0.2.2.2.2.2.2.1, C0.2.2.2.2.2.2.2.2.to hS hU hW⟩⟩ rfl (by rw [List.length_map]; exact hn) hl2.1 rfl (lv_room (by rw [o_sum]; exact hs)) hd hf) hS (fun r S1 H1 locs1 hq hp1 hs1 => ?_)
  rw [o_ret]
  exact kk r S1 hq p e s m args below meth c C0 H1 locs1 la hp1 hs1 hl2
theorem r_copyI4 {G : ovG} {k : ovM} {R : Room} {cells slots : Nat} {Z : List Frame → Array Value → State → State → Prop} {pc : Nat} {ls : List (Option Value)} {st : List Value} {S : ovS} {index o o2 n0 n1 : Nat} {sp dp n : Int32}
    (hl : Cond.methodLink k.1.cls index arraycopyName ∈ tblG) (hnat : Cond.native arraycopyName ∈ tblG) (hsta : Cond.static arraycopyName ∈ tblG) (hini : Cond.initialized "java/lang/System" ∈ tblG) (ho : ocl4 o = 14) (hn0 : oln o = n0) (ho2 : ocl4 o2 = 14) (hn1 : oln o2 = n1) (h1 : ¬ sp < 0) (h2 : ¬ dp < 0) (h3 : ¬ n < 0) (h4 : sp.toNatClampNeg + n.toNatClampNeg ≤ n0) (h5 : dp.toNatClampNeg + n.toNatClampNeg ≤ n1)
    (hR : 1 ≤ R.frames) (hR2 : (st.map fun v => v.category).sum + (nativeFrameWords "java/lang/System" "arraycopy" 5 + 11) ≤ R.locals) (hd : decode k.2.1 pc = .ok (.invokestatic index, 3))
    (kk : RW4 G k R cells slots Z (pc + 3) ls st (seI S o2 (va_cpy (S.1 o) (S.1 o2) sp.toNatClampNeg dp.toNatClampNeg n.toNatClampNeg))) : RW4 G k R cells slots Z pc ls (.int n :: .int dp :: .ref o2 :: .int sp :: .ref o :: st) S := by
  intro p e s m args below meth c C0 H locs la hP hS hl2
  have hlt := ocl_lt4 ho (by omega)
  have hlt2 := ocl_lt4 ho2 (by omega)
  refine va_copyi C0.1 C0.2.1 (C0.2.2.2.1.trans hl2.1.symm) C0.2.2.2.2.1 (C0.2.2.2.2.2.1 _ hl) (C0.2.2.2.2.2.1 _ hnat) (C0.2.2.2.2.2.1 _ hsta) (C0.2.2.2.2.2.1 _ hini) C0.2.2.2.2.2.2.1 hP ows_D4 hS o o2 1 1 ((ows_at4 hlt).trans (by rw [oce_I4 ho hn0])) ((ows_at4 hlt2).trans (by rw [oce_I4 ho2 hn1])) rfl rfl rfl h1 h2 h3 h4 h5 (fun i _ => rfl) hR (by rw [o_sum]; exact hR2) hd (fun H1 locs1 hP1 hD1 hS1 => ?_)
  rw [ows_set4 (S' := seI S o2 (va_cpy (S.1 o) (S.1 o2) sp.toNatClampNeg dp.toNatClampNeg n.toNatClampNeg)) hlt2 (by rw [oce_I4 ho2 hn1]; simp [seI, va_up]) (fun j hj => oce_seI hj)] at hP1
  exact kk p e s m args below meth c C0 H1 locs1 la hP1 hS1 hl2
section
variable {G : ovG} {k : ovM} {R : Room} {cells slots : Nat} {Z : List Frame → Array Value → State → State → Prop} {pc : Nat} {ls : List (Option Value)} {st : List Value} {S : ovS} {o ci j index : Nat} {C : String} {T : u_T} {N q : Nat}
theorem g_getI4 (hw : Cond.fieldLink k.1.cls index C (T j).2.1 (T j).2.2.1 ∈ tblG) (hF : oFd ci j C T N 0 0) (ho : ocl4 o = ci) (hd : decode k.2.1 pc = .ok (.getfield index, 3)) (kk : RW4 G k R cells slots Z (pc + 3) ls (.int (S.1 o j) :: st) S) : RW4 G k R cells slots Z pc ls (.ref o :: st) S :=
  r_getI4 hw hF.1 hF.2.1 hF.2.2.1 ho hF.2.2.2.1 hF.2.2.2.2.1 hF.2.2.2.2.2.1 hF.2.2.2.2.2.2 hd kk
end
section
variable {G : ovG} {k : ovM} {R : Room} {cells slots : Nat} {Z : List Frame → Array Value → State → State → Prop} {pc : Nat} {ls : List (Option Value)} {st : List Value} {S : ovS} {o ci j index : Nat} {C : String} {T : u_T} {N q : Nat}
theorem g_getR4 (hw : Cond.fieldLink k.1.cls index C (T j).2.1 (T j).2.2.1 ∈ tblG) (hF : oFd ci j C T N 2 q) (ho : ocl4 o = ci) (hd : decode k.2.1 pc = .ok (.getfield index, 3)) (kk : RW4 G k R cells slots Z (pc + 3) ls (.ref (o + q) :: st) S) : RW4 G k R cells slots Z pc ls (.ref o :: st) S :=
  r_getR4 hw hF.1 hF.2.1 hF.2.2.1 ho hF.2.2.2.1 hF.2.2.2.2.1 hF.2.2.2.2.2.1 hF.2.2.2.2.2.2 hd kk
end
section
variable {G : ovG} {k : ovM} {R : Room} {cells slots : Nat} {Z : List Frame → Array Value → State → State → Prop} {pc : Nat} {ls : List (Option Value)} {st : List Value} {S : ovS} {o ci j index : Nat} {C : String} {T : u_T} {N q : Nat}
theorem g_putI4 {v : Int32} {ty0 : Nat → FieldType} (hw : Cond.fieldLink k.1.cls index C (T j).2.1 (T j).2.2.1 ∈ tblG) (hF : oFd ci j C T N 0 0) (hP : oFp T N ty0) (hfin : (T j).2.2.2 = false) (ht : ty0 j = .int) (ho : ocl4 o = ci) (hd : decode k.2.1 pc = .ok (.putfield index, 3)) (kk : RW4 G k R cells slots Z (pc + 3) ls st (stI S o j v)) : RW4 G k R cells slots Z pc ls (.int v :: .ref o :: st) S :=
  r_putI4 hw hF.1 hF.2.1 hF.2.2.1 ho hF.2.2.2.1 hF.2.2.2.2.1 hF.2.2.2.2.2.1 ty0 hP.1 hP.2 hfin hF.2.2.2.2.2.2 (by rw [ht]; rfl) (by rw [ht]; rfl) hd kk
end
theorem x_aald4 {G : ovG} {k : ovM} {R : Room} {cells slots : Nat} {Z : List Frame → Array Value → State → State → Prop} {pc : Nat} {ls : List (Option Value)} {st : List Value} {S : ovS} {o n j : Nat} {i : Int32} (ho : ocl4 o = 17) (hn : oln o = n) (hj : i.toNatClampNeg = j) (hi : vp_in i n) (hd : decode k.2.1 pc = .ok (.aaload, 1)) (kk : RW4 G k R cells slots Z (pc + 1) ls (.ref (orow o j) :: st) S) : RW4 G k R cells slots Z (pc) ls (.int i :: .ref o :: st) S := by subst hj; exact r_aald4 ho hn hi hd kk
theorem x_iast4 {G : ovG} {k : ovM} {R : Room} {cells slots : Nat} {Z : List Frame → Array Value → State → State → Prop} {pc : Nat} {ls : List (Option Value)} {st : List Value} {S : ovS} {o n j : Nat} {i : Int32} {x : Int32} (ho : ocl4 o = 14) (hn : oln o = n) (hj : i.toNatClampNeg = j) (hi : vp_in i n) (hd : decode k.2.1 pc = .ok (.iastore, 1)) (kk : RW4 G k R cells slots Z (pc + 1) ls st (stI S o j x)) : RW4 G k R cells slots Z (pc) ls (.int x :: .int i :: .ref o :: st) S := by subst hj; exact r_iast4 ho hn hi hd kk
theorem x_zast4 {G : ovG} {k : ovM} {R : Room} {cells slots : Nat} {Z : List Frame → Array Value → State → State → Prop} {pc : Nat} {ls : List (Option Value)} {st : List Value} {S : ovS} {o n j : Nat} {i : Int32} {x : Int32} (ho : ocl4 o = 16) (hn : oln o = n) (hj : i.toNatClampNeg = j) (hi : vp_in i n) (hd : decode k.2.1 pc = .ok (.bastore, 1)) (kk : RW4 G k R cells slots Z (pc + 1) ls st (stI S o j (vp_nar .boolean x))) : RW4 G k R cells slots Z (pc) ls (.int x :: .int i :: .ref o :: st) S := by subst hj; exact r_zast4 ho hn hi hd kk
theorem x_copy4 {G : ovG} {k : ovM} {R : Room} {cells slots : Nat} {Z : List Frame → Array Value → State → State → Prop} {pc : Nat} {ls : List (Option Value)} {st : List Value} {S : ovS} {index o o2 n0 n1 a b d : Nat} {sp dp n : Int32} (hl : Cond.methodLink k.1.cls index arraycopyName ∈ tblG) (ho : ocl4 o = 14) (hn0 : oln o = n0) (ho2 : ocl4 o2 = 14) (hn1 : oln o2 = n1) (h1 : ¬ sp < 0) (h2 : ¬ dp < 0) (h3 : ¬ n < 0) (ea : sp.toNatClampNeg = a) (eb : dp.toNatClampNeg = b) (ed : n.toNatClampNeg = d) (h4 : a + d ≤ n0) (h5 : b + d ≤ n1)
    (hR : 1 ≤ R.frames) (hR2 : (st.map fun v => v.category).sum + (nativeFrameWords "java/lang/System" "arraycopy" 5 + 11) ≤ R.locals) (hd : decode k.2.1 pc = .ok (.invokestatic index, 3)) (kk : RW4 G k R cells slots Z (pc + 3) ls st (cpI S o o2 a b d)) : RW4 G k R cells slots Z (pc) ls (.int n :: .int dp :: .ref o2 :: .int sp :: .ref o :: st) S := by
  subst ea; subst eb; subst ed
  exact r_copyI4 hl ac_nat ac_sta ac_ini ho hn0 ho2 hn1 h1 h2 h3 h4 h5 hR hR2 hd kk
theorem onm4 {G : ovG} {k : ovM} {R : Room} {cells slots : Nat} {Z : List Frame → Array Value → State → State → Prop} {pc : Nat} {ls : List (Option Value)} {st : List Value} {X : ovS} (h : ∀ S1 : ovS, S1 = X → RW4 G k R cells slots Z pc ls st S1) : RW4 G k R cells slots Z pc ls st X := h _ rfl
theorem vX3_begin_04 {G : ovG} {Q : Int32 → ovS → Prop} {S : ovS} (H : (∀ S1 : ovS, S1 = stI S 32 2 0 → (∀ S2 : ovS, S2 = stI S1 32 0 0 → (∀ S3 : ovS, S3 = stI S2 32 1 0 → (vp_in (S3.1 32 2) 41 ∧ (ocl4 (orow 33 ((S3.1 32 2) : Int32).toNatClampNeg) = 9 ∧ ∃ Q4 : Int32 → ovS → Prop, Ex4 G mX9_take 2 [.ref (orow 33 ((S3.1 32 2) : Int32).toNatClampNeg), .ref 24] S3 Q4 ∧ ∀ (r6 : Int32) (S5 : ovS), Q4 r6 S5 → Q 0 S5)))))) : RM4 G mX3_begin 3 Q 0 [some (.ref 32), some (.ref 24)] [] S := (r_aload_n4 dX3_begin_0 rfl rfl (r_iconst4 dX3_begin_1 oic_0 (g_putI4 flX3_16 fdX3_2 fpX3 rfl rfl ov4_c32 dX3_begin_2 (onm4 (fun S1 eS1 => (r_aload_n4 dX3_begin_5 rfl rfl (r_iconst4 dX3_begin_6 oic_0 (g_putI4 flX3_20 fdX3_0 fpX3 rfl rfl ov4_c32 dX3_begin_7 (onm4 (fun S2 eS2 => (r_aload_n4 dX3_begin_10 rfl rfl (r_iconst4 dX3_begin_11 oic_0 (g_putI4 flX3_23 fdX3_1 fpX3 rfl rfl ov4_c32 dX3_begin_12 (onm4 (fun S3 eS3 => (r_aload_n4 dX3_begin_15 rfl rfl (g_getR4 flX3_11 fdX3_3 ov4_c32 dX3_begin_16 (r_aload_n4 dX3_begin_19 rfl rfl (g_getI4 flX3_16 fdX3_2 ov4_c32 dX3_begin_20 (x_aald4 ov4_c33 ov_n33 rfl (((H S1 eS1) S2 eS2) S3 eS3).1 dX3_begin_23 (r_aload_n4 dX3_begin_24 rfl rfl (Exists.elim (((H S1 eS1) S2 eS2) S3 eS3).2.2 (fun Q4 k8 => r_callV4 okX9_take mlX3_26 (((H S1 eS1) S2 eS2) S3 eS3).2.1 (by decide) rfl dX3_begin_25 rfl (Nat.le_of_ble_eq_true rfl) ⟨by decide, by decide⟩ ⟨Nat.le_refl _, Nat.le_refl _⟩ (As := [.ref 24]) rfl k8.1 (fun r6 S5 q7 => (r_vret4 rfl dX3_begin_28 (k8.2 r6 S5 q7))))))))))))))))))))))))))
theorem eX3_begin4 {G : ovG} {Q : Int32 → ovS → Prop} {S : ovS} (H : RM4 G mX3_begin 3 Q 0 [some (.ref 32), some (.ref 24)] [] S) : Ex4 G mX3_begin 3 [.ref 32, .ref 24] S Q := Ex4.of (by decide) (Nat.le_of_ble_eq_true rfl) [some (.ref 32), some (.ref 24)] ⟨0, rfl⟩ H
theorem vX6_clear_04 {G : ovG} {Q : Int32 → ovS → Prop} {S : ovS} (H : (∀ S1 : ovS, S1 = stI S 376 1 0 → Q 0 S1)) : RM4 G mX6_clear 1 Q 0 [some (.ref 376)] [] S := (r_aload_n4 dX6_clear_0 rfl rfl (r_iconst4 dX6_clear_1 oic_0 (g_putI4 flX6_49 fdX6_1 fpX6 rfl rfl ov4_c376 dX6_clear_2 (onm4 (fun S1 eS1 => (r_vret4 rfl dX6_clear_5 (H S1 eS1)))))))
theorem eX6_clear4 {G : ovG} {Q : Int32 → ovS → Prop} {S : ovS} (H : RM4 G mX6_clear 1 Q 0 [some (.ref 376)] [] S) : Ex4 G mX6_clear 1 [.ref 376] S Q := Ex4.of (by decide) (Nat.le_of_ble_eq_true rfl) [some (.ref 376)] ⟨0, rfl⟩ H
theorem vX8_clearLying_04 {G : ovG} {Q : Int32 → ovS → Prop} {S : ovS} (H : (∀ S1 : ovS, S1 = stI S 369 4 0 → Q 0 S1)) : RM4 G mX8_clearLying 1 Q 0 [some (.ref 369)] [] S := (r_aload_n4 dX8_clearLying_0 rfl rfl (r_iconst4 dX8_clearLying_1 oic_0 (g_putI4 flX8_33 fdX8_4 fpX8 rfl rfl ov4_c369 dX8_clearLying_2 (onm4 (fun S1 eS1 => (r_vret4 rfl dX8_clearLying_5 (H S1 eS1)))))))
theorem eX8_clearLying4 {G : ovG} {Q : Int32 → ovS → Prop} {S : ovS} (H : RM4 G mX8_clearLying 1 Q 0 [some (.ref 369)] [] S) : Ex4 G mX8_clearLying 1 [.ref 369] S Q := Ex4.of (by decide) (Nat.le_of_ble_eq_true rfl) [some (.ref 369)] ⟨0, rfl⟩ H
theorem vX9_begin_04 {G : ovG} {Q : Int32 → ovS → Prop} {S : ovS} (H : (∃ Q1 : Int32 → ovS → Prop, Ex4 G mJ7_fill_53178 1 [.ref 25, .int 0] S Q1 ∧ ∀ (r3 : Int32) (S2 : ovS), Q1 r3 S2 → (∃ Q6 : Int32 → ovS → Prop, Ex4 G mJ7_fill_53178 1 [.ref 26, .int (-1)] S2 Q6 ∧ ∀ (r8 : Int32) (S7 : ovS), Q6 r8 S7 → (∀ S11 : ovS, S11 = cpI S7 18 27 0 0 5 → (∃ Q12 : Int32 → ovS → Prop, Ex4 G mJ7_fill_53178 1 [.ref 28, .int 0] S11 Q12 ∧ ∀ (r14 : Int32) (S13 : ovS), Q12 r14 S13 → (∀ S17 : ovS, S17 = cpI S13 19 29 0 0 5 → (∃ Q18 : Int32 → ovS → Prop, Ex4 G mJ7_fill_53178 1 [.ref 30, .int 0] S17 Q18 ∧ ∀ (r20 : Int32) (S19 : ovS), Q18 r20 S19 → (∃ Q23 : Int32 → ovS → Prop, Ex4 G mJ7_fill_53178 1 [.ref 31, .int 0] S19 Q23 ∧ ∀ (r25 : Int32) (S24 : ovS), Q23 r25 S24 → (∀ S28 : ovS, S28 = stI S24 24 7 (S24.1 16 2) → (∀ S29 : ovS, S29 = stI S28 24 8 (S28.1 16 3) → (∀ S30 : ovS, S30 = stI S29 24 9 0 → Q 0 S30))))))))))) : RM4 G mX9_begin 2 Q 0 [some (.ref 24), some (.ref 16)] [] S := (r_aload_n4 dX9_begin_0 rfl rfl (g_getR4 flX9_9 fdX9_0 ov4_c24 dX9_begin_1 (r_iconst4 dX9_begin_4 oic_0 (Exists.elim H (fun Q1 k5 => r_callS4 okJ7_fill_53178 mlX9_33 dX9_begin_5 rfl (Nat.le_of_ble_eq_true rfl) ⟨by decide, by decide⟩ ⟨Nat.le_refl _, Nat.le_refl _⟩ (As := [.ref 25, .int 0]) rfl k5.1 (fun r3 S2 q4 => (r_aload_n4 dX9_begin_8 rfl rfl (g_getR4 flX9_15 fdX9_1 ov4_c24 dX9_begin_9 (r_iconst4 dX9_begin_12 oic_m1 (Exists.elim (k5.2 r3 S2 q4) (fun Q6 k10 => r_callS4 okJ7_fill_53178 mlX9_33 dX9_begin_13 rfl (Nat.le_of_ble_eq_true rfl) ⟨by decide, by decide⟩ ⟨Nat.le_refl _, Nat.le_refl _⟩ (As := [.ref 26, .int (-1)]) rfl k10.1 (fun r8 S7 q9 => (r_aload_n4 dX9_begin_16 rfl rfl (g_getR4 flX9_39 fdX10_5 ov4_c16 dX9_begin_17 (r_iconst4 dX9_begin_20 oic_0 (r_aload_n4 dX9_begin_21 rfl rfl (g_getR4 flX9_18 fdX9_2 ov4_c24 dX9_begin_22 (r_iconst4 dX9_begin_25 oic_0 (r_iconst4 dX9_begin_26 oic_5 (x_copy4 (st := []) (a := 0) (b := 0) (d := 5) mlX9_42 ov4_c18 ov_n18 ov4_c27 ov_n27 (by decide) (by decide) (by decide) (by decide) (by decide) (by decide) (by decide) (by decide) (by decide) (by decide +kernel) dX9_begin_27 (onm4 (fun S11 eS11 => (r_aload_n4 dX9_begin_30 rfl rfl (g_getR4 flX9_21 fdX9_3 ov4_c24 dX9_begin_31 (r_iconst4 dX9_begin_34 oic_0 (Exists.elim ((k10.2 r8 S7 q9) S11 eS11) (fun Q12 k16 => r_callS4 okJ7_fill_53178 mlX9_33 dX9_begin_35 rfl (Nat.le_of_ble_eq_true rfl) ⟨by decide, by decide⟩ ⟨Nat.le_refl _, Nat.le_refl _⟩ (As := [.ref 28, .int 0]) rfl k16.1 (fun r14 S13 q15 => (r_aload_n4 dX9_begin_38 rfl rfl (g_getR4 flX9_48 fdX10_6 ov4_c16 dX9_begin_39 (r_iconst4 dX9_begin_42 oic_0 (r_aload_n4 dX9_begin_43 rfl rfl (g_getR4 flX9_24 fdX9_4 ov4_c24 dX9_begin_44 (r_iconst4 dX9_begin_47 oic_0 (r_iconst4 dX9_begin_48 oic_5 (x_copy4 (st := []) (a := 0) (b := 0) (d := 5) mlX9_42 ov4_c19 ov_n19 ov4_c29 ov_n29 (by decide) (by decide) (by decide) (by decide) (by decide) (by decide) (by decide) (by decide) (by decide) (by decide +kernel) dX9_begin_49 (onm4 (fun S17 eS17 => (r_aload_n4 dX9_begin_52 rfl rfl (g_getR4 flX9_27 fdX9_5 ov4_c24 dX9_begin_53 (r_iconst4 dX9_begin_56 oic_0 (Exists.elim ((k16.2 r14 S13 q15) S17 eS17) (fun Q18 k22 => r_callS4 okJ7_fill_53178 mlX9_33 dX9_begin_57 rfl (Nat.le_of_ble_eq_true rfl) ⟨by decide, by decide⟩ ⟨Nat.le_refl _, Nat.le_refl _⟩ (As := [.ref 30, .int 0]) rfl k22.1 (fun r20 S19 q21 => (r_aload_n4 dX9_begin_60 rfl rfl (g_getR4 flX9_30 fdX9_6 ov4_c24 dX9_begin_61 (r_iconst4 dX9_begin_64 oic_0 (Exists.elim (k22.2 r20 S19 q21) (fun Q23 k27 => r_callS4 okJ7_fill_53178 mlX9_33 dX9_begin_65 rfl (Nat.le_of_ble_eq_true rfl) ⟨by decide, by decide⟩ ⟨Nat.le_refl _, Nat.le_refl _⟩ (As := [.ref 31, .int 0]) rfl k27.1 (fun r25 S24 q26 => (r_aload_n4 dX9_begin_68 rfl rfl (r_aload_n4 dX9_begin_69 rfl rfl (g_getI4 flX9_49 fdX10_2 ov4_c16 dX9_begin_70 (g_putI4 flX9_53 fdX9_7 fpX9 rfl rfl ov4_c24 dX9_begin_73 (onm4 (fun S28 eS28 => (r_aload_n4 dX9_begin_76 rfl rfl (r_aload_n4 dX9_begin_77 rfl rfl (g_getI4 flX9_54 fdX10_3 ov4_c16 dX9_begin_78 (g_putI4 flX9_57 fdX9_8 fpX9 rfl rfl ov4_c24 dX9_begin_81 (onm4 (fun S29 eS29 => (r_aload_n4 dX9_begin_84 rfl rfl (r_iconst4 dX9_begin_85 oic_0 (g_putI4 flX9_60 fdX9_9 fpX9 rfl rfl ov4_c24 dX9_begin_86 (onm4 (fun S30 eS30 => (r_vret4 rfl dX9_begin_89 ((((k27.2 r25 S24 q26) S28 eS28) S29 eS29) S30 eS30)))))))))))))))))))))))))))))))))))))))))))))))))))))))))))))))))))))
theorem eX9_begin4 {G : ovG} {Q : Int32 → ovS → Prop} {S : ovS} (H : RM4 G mX9_begin 2 Q 0 [some (.ref 24), some (.ref 16)] [] S) : Ex4 G mX9_begin 2 [.ref 24, .ref 16] S Q := Ex4.of (by decide) (Nat.le_of_ble_eq_true rfl) [some (.ref 24), some (.ref 16)] ⟨0, rfl⟩ H
theorem vX9_take_04 {G : ovG} {Q : Int32 → ovS → Prop} {S : ovS} {oa ob : Nat} (ha : oa ∈ ovSt) (hb : ob ∈ ovSt) (H : (∀ S1 : ovS, S1 = cpI S (ob + 1) (oa + 1) 0 0 5 → (∀ S2 : ovS, S2 = cpI S1 (ob + 2) (oa + 2) 0 0 5 → (∀ S3 : ovS, S3 = cpI S2 (ob + 3) (oa + 3) 0 0 5 → (∀ S4 : ovS, S4 = cpI S3 (ob + 4) (oa + 4) 0 0 5 → (∀ S5 : ovS, S5 = cpI S4 (ob + 5) (oa + 5) 0 0 5 → (∀ S6 : ovS, S6 = cpI S5 (ob + 6) (oa + 6) 0 0 5 → (∀ S7 : ovS, S7 = cpI S6 (ob + 7) (oa + 7) 0 0 5 → (∀ S8 : ovS, S8 = stI S7 oa 7 (S7.1 ob 7) → (∀ S9 : ovS, S9 = stI S8 oa 8 (S8.1 ob 8) → (∀ S10 : ovS, S10 = stI S9 oa 9 (S9.1 ob 9) → Q 0 S10))))))))))) : RM4 G mX9_take 2 Q 0 [some (.ref oa), some (.ref ob)] [] S := (r_aload_n4 dX9_take_0 rfl rfl (g_getR4 flX9_9 fdX9_0 (ovSt_c4 ob hb).1 dX9_take_1 (r_iconst4 dX9_take_4 oic_0 (r_aload_n4 dX9_take_5 rfl rfl (g_getR4 flX9_9 fdX9_0 (ovSt_c4 oa ha).1 dX9_take_6 (r_iconst4 dX9_take_9 oic_0 (r_iconst4 dX9_take_10 oic_5 (x_copy4 (st := []) (a := 0) (b := 0) (d := 5) mlX9_42 ((ovSt_c4 ob hb).2.2 1 (by decide) (by decide)).1 ((ovSt_c4 ob hb).2.2 1 (by decide) (by decide)).2.1 ((ovSt_c4 oa ha).2.2 1 (by decide) (by decide)).1 ((ovSt_c4 oa ha).2.2 1 (by decide) (by decide)).2.1 (by decide) (by decide) (by decide) (by decide) (by decide) (by decide) (by decide) (by decide) (by decide) (by decide +kernel) dX9_take_11 (onm4 (fun S1 eS1 => (r_aload_n4 dX9_take_14 rfl rfl (g_getR4 flX9_15 fdX9_1 (ovSt_c4 ob hb).1 dX9_take_15 (r_iconst4 dX9_take_18 oic_0 (r_aload_n4 dX9_take_19 rfl rfl (g_getR4 flX9_15 fdX9_1 (ovSt_c4 oa ha).1 dX9_take_20 (r_iconst4 dX9_take_23 oic_0 (r_iconst4 dX9_take_24 oic_5 (x_copy4 (st := []) (a := 0) (b := 0) (d := 5) mlX9_42 ((ovSt_c4 ob hb).2.2 2 (by decide) (by decide)).1 ((ovSt_c4 ob hb).2.2 2 (by decide) (by decide)).2.1 ((ovSt_c4 oa ha).2.2 2 (by decide) (by decide)).1 ((ovSt_c4 oa ha).2.2 2 (by decide) (by decide)).2.1 (by decide) (by decide) (by decide) (by decide) (by decide) (by decide) (by decide) (by decide) (by decide) (by decide +kernel) dX9_take_25 (onm4 (fun S2 eS2 => (r_aload_n4 dX9_take_28 rfl rfl (g_getR4 flX9_18 fdX9_2 (ovSt_c4 ob hb).1 dX9_take_29 (r_iconst4 dX9_take_32 oic_0 (r_aload_n4 dX9_take_33 rfl rfl (g_getR4 flX9_18 fdX9_2 (ovSt_c4 oa ha).1 dX9_take_34 (r_iconst4 dX9_take_37 oic_0 (r_iconst4 dX9_take_38 oic_5 (x_copy4 (st := []) (a := 0) (b := 0) (d := 5) mlX9_42 ((ovSt_c4 ob hb).2.2 3 (by decide) (by decide)).1 ((ovSt_c4 ob hb).2.2 3 (by decide) (by decide)).2.1 ((ovSt_c4 oa ha).2.2 3 (by decide) (by decide)).1 ((ovSt_c4 oa ha).2.2 3 (by decide) (by decide)).2.1 (by decide) (by decide) (by decide) (by decide) (by decide) (by decide) (by decide) (by decide) (by decide) (by decide +kernel) dX9_take_39 (onm4 (fun S3 eS3 => (r_aload_n4 dX9_take_42 rfl rfl (g_getR4 flX9_21 fdX9_3 (ovSt_c4 ob hb).1 dX9_take_43 (r_iconst4 dX9_take_46 oic_0 (r_aload_n4 dX9_take_47 rfl rfl (g_getR4 flX9_21 fdX9_3 (ovSt_c4 oa ha).1 dX9_take_48 (r_iconst4 dX9_take_51 oic_0 (r_iconst4 dX9_take_52 oic_5 (x_copy4 (st := []) (a := 0) (b := 0) (d := 5) mlX9_42 ((ovSt_c4 ob hb).2.2 4 (by decide) (by decide)).1 ((ovSt_c4 ob hb).2.2 4 (by decide) (by decide)).2.1 ((ovSt_c4 oa ha).2.2 4 (by decide) (by decide)).1 ((ovSt_c4 oa ha).2.2 4 (by decide) (by decide)).2.1 (by decide) (by decide) (by decide) (by decide) (by decide) (by decide) (by decide) (by decide) (by decide) (by decide +kernel) dX9_take_53 (onm4 (fun S4 eS4 => (r_aload_n4 dX9_take_56 rfl rfl (g_getR4 flX9_24 fdX9_4 (ovSt_c4 ob hb).1 dX9_take_57 (r_iconst4 dX9_take_60 oic_0 (r_aload_n4 dX9_take_61 rfl rfl (g_getR4 flX9_24 fdX9_4 (ovSt_c4 oa ha).1 dX9_take_62 (r_iconst4 dX9_take_65 oic_0 (r_iconst4 dX9_take_66 oic_5 (x_copy4 (st := []) (a := 0) (b := 0) (d := 5) mlX9_42 ((ovSt_c4 ob hb).2.2 5 (by decide) (by decide)).1 ((ovSt_c4 ob hb).2.2 5 (by decide) (by decide)).2.1 ((ovSt_c4 oa ha).2.2 5 (by decide) (by decide)).1 ((ovSt_c4 oa ha).2.2 5 (by decide) (by decide)).2.1 (by decide) (by decide) (by decide) (by decide) (by decide) (by decide) (by decide) (by decide) (by decide) (by decide +kernel) dX9_take_67 (onm4 (fun S5 eS5 => (r_aload_n4 dX9_take_70 rfl rfl (g_getR4 flX9_27 fdX9_5 (ovSt_c4 ob hb).1 dX9_take_71 (r_iconst4 dX9_take_74 oic_0 (r_aload_n4 dX9_take_75 rfl rfl (g_getR4 flX9_27 fdX9_5 (ovSt_c4 oa ha).1 dX9_take_76 (r_iconst4 dX9_take_79 oic_0 (r_iconst4 dX9_take_80 oic_5 (x_copy4 (st := []) (a := 0) (b := 0) (d := 5) mlX9_42 ((ovSt_c4 ob hb).2.2 6 (by decide) (by decide)).1 ((ovSt_c4 ob hb).2.2 6 (by decide) (by decide)).2.1 ((ovSt_c4 oa ha).2.2 6 (by decide) (by decide)).1 ((ovSt_c4 oa ha).2.2 6 (by decide) (by decide)).2.1 (by decide) (by decide) (by decide) (by decide) (by decide) (by decide) (by decide) (by decide) (by decide) (by decide +kernel) dX9_take_81 (onm4 (fun S6 eS6 => (r_aload_n4 dX9_take_84 rfl rfl (g_getR4 flX9_30 fdX9_6 (ovSt_c4 ob hb).1 dX9_take_85 (r_iconst4 dX9_take_88 oic_0 (r_aload_n4 dX9_take_89 rfl rfl (g_getR4 flX9_30 fdX9_6 (ovSt_c4 oa ha).1 dX9_take_90 (r_iconst4 dX9_take_93 oic_0 (r_iconst4 dX9_take_94 oic_5 (x_copy4 (st := []) (a := 0) (b := 0) (d := 5) mlX9_42 ((ovSt_c4 ob hb).2.2 7 (by decide) (by decide)).1 ((ovSt_c4 ob hb).2.2 7 (by decide) (by decide)).2.1 ((ovSt_c4 oa ha).2.2 7 (by decide) (by decide)).1 ((ovSt_c4 oa ha).2.2 7 (by decide) (by decide)).2.1 (by decide) (by decide) (by decide) (by decide) (by decide) (by decide) (by decide) (by decide) (by decide) (by decide +kernel) dX9_take_95 (onm4 (fun S7 eS7 => (r_aload_n4 dX9_take_98 rfl rfl (r_aload_n4 dX9_take_99 rfl rfl (g_getI4 flX9_53 fdX9_7 (ovSt_c4 ob hb).1 dX9_take_100 (g_putI4 flX9_53 fdX9_7 fpX9 rfl rfl (ovSt_c4 oa ha).1 dX9_take_103 (onm4 (fun S8 eS8 => (r_aload_n4 dX9_take_106 rfl rfl (r_aload_n4 dX9_take_107 rfl rfl (g_getI4 flX9_57 fdX9_8 (ovSt_c4 ob hb).1 dX9_take_108 (g_putI4 flX9_57 fdX9_8 fpX9 rfl rfl (ovSt_c4 oa ha).1 dX9_take_111 (onm4 (fun S9 eS9 => (r_aload_n4 dX9_take_114 rfl rfl (r_aload_n4 dX9_take_115 rfl rfl (g_getI4 flX9_60 fdX9_9 (ovSt_c4 ob hb).1 dX9_take_116 (g_putI4 flX9_60 fdX9_9 fpX9 rfl rfl (ovSt_c4 oa ha).1 dX9_take_119 (onm4 (fun S10 eS10 => (r_vret4 rfl dX9_take_122 ((((((((((H S1 eS1) S2 eS2) S3 eS3) S4 eS4) S5 eS5) S6 eS6) S7 eS7) S8 eS8) S9 eS9) S10 eS10))))))))))))))))))))))))))))))))))))))))))))))))))))))))))))))))))))))))))))))))))))))))))
theorem eX9_take4 {G : ovG} {Q : Int32 → ovS → Prop} {S : ovS} {oa ob : Nat} (H : RM4 G mX9_take 2 Q 0 [some (.ref oa), some (.ref ob)] [] S) : Ex4 G mX9_take 2 [.ref oa, .ref ob] S Q := Ex4.of (by decide) (Nat.le_of_ble_eq_true rfl) [some (.ref oa), some (.ref ob)] ⟨0, rfl⟩ H
theorem vX11_begin_04 {G : ovG} {Q : Int32 → ovS → Prop} {S : ovS} (H : (∃ Q1 : Int32 → ovS → Prop, Ex4 G mX9_begin 2 [.ref 24, .ref 16] S Q1 ∧ ∀ (r3 : Int32) (S2 : ovS), Q1 r3 S2 → (∃ Q6 : Int32 → ovS → Prop, Ex4 G mX3_begin 3 [.ref 32, .ref 24] S2 Q6 ∧ ∀ (r8 : Int32) (S7 : ovS), Q6 r8 S7 → (∃ Q11 : Int32 → ovS → Prop, Ex4 G mX6_clear 1 [.ref 376] S7 Q11 ∧ ∀ (r13 : Int32) (S12 : ovS), Q11 r13 S12 → (∃ Q16 : Int32 → ovS → Prop, Ex4 G mX8_clearLying 1 [.ref 369] S12 Q16 ∧ ∀ (r18 : Int32) (S17 : ovS), Q16 r18 S17 → RM4 G mX11_begin 4 Q 38 [some (.ref 0), some (.int 0)] [] S17))))) : RM4 G mX11_begin 4 Q 0 [some (.ref 0), none] [] S := (r_aload_n4 dX11_begin_0 rfl rfl (g_getR4 flX11_36 fdX11_6 ov4_c0 dX11_begin_1 (r_aload_n4 dX11_begin_4 rfl rfl (g_getR4 flX11_29 fdX11_5 ov4_c0 dX11_begin_5 (Exists.elim H (fun Q1 k5 => r_callV4 okX9_begin mlX11_321 ov4_c24 (by decide) rfl dX11_begin_8 rfl (Nat.le_of_ble_eq_true rfl) ⟨by decide, by decide⟩ ⟨Nat.le_refl _, Nat.le_refl _⟩ (As := [.ref 16]) rfl k5.1 (fun r3 S2 q4 => (r_aload_n4 dX11_begin_11 rfl rfl (g_getR4 flX11_43 fdX11_7 ov4_c0 dX11_begin_12 (r_aload_n4 dX11_begin_15 rfl rfl (g_getR4 flX11_36 fdX11_6 ov4_c0 dX11_begin_16 (Exists.elim (k5.2 r3 S2 q4) (fun Q6 k10 => r_callV4 okX3_begin mlX11_290 ov4_c32 (by decide) rfl dX11_begin_19 rfl (Nat.le_of_ble_eq_true rfl) ⟨by decide, by decide⟩ ⟨Nat.le_refl _, Nat.le_refl _⟩ (As := [.ref 24]) rfl k10.1 (fun r8 S7 q9 => (r_aload_n4 dX11_begin_22 rfl rfl (g_getR4 flX11_85 fdX11_13 ov4_c0 dX11_begin_23 (Exists.elim (k10.2 r8 S7 q9) (fun Q11 k15 => r_callV4 okX6_clear mlX11_323 ov4_c376 (by decide) rfl dX11_begin_26 rfl (Nat.le_of_ble_eq_true rfl) ⟨by decide, by decide⟩ ⟨Nat.le_refl _, Nat.le_refl _⟩ (As := []) rfl k15.1 (fun r13 S12 q14 => (r_aload_n4 dX11_begin_29 rfl rfl (g_getR4 flX11_69 fdX11_11 ov4_c0 dX11_begin_30 (Exists.elim (k15.2 r13 S12 q14) (fun Q16 k20 => r_callV4 okX8_clearLying mlX11_326 ov4_c369 (by decide) rfl dX11_begin_33 rfl (Nat.le_of_ble_eq_true rfl) ⟨by decide, by decide⟩ ⟨Nat.le_refl _, Nat.le_refl _⟩ (As := []) rfl k20.1 (fun r18 S17 q19 => (r_iconst4 dX11_begin_36 oic_0 (r_istore_n4 dX11_begin_37 rfl (by decide) rfl (k20.2 r18 S17 q19)))))))))))))))))))))))))))
theorem vX11_begin_384 {G : ovG} {Q : Int32 → ovS → Prop} {S : ovS} {x1 : Int32} (H : ((3 ≤ x1 → Q 0 S) ∧ (¬ 3 ≤ x1 → (vp_in x1 3 ∧ (∀ S2 : ovS, S2 = stI S 363 (x1 : Int32).toNatClampNeg (vp_nar .boolean 0) → RM4 G mX11_begin 4 Q 38 [some (.ref 0), some (.int (x1 + 1))] [] S2))))) : RM4 G mX11_begin 4 Q 38 [some (.ref 0), some (.int x1)] [] S := (r_iload_n4 dX11_begin_38 rfl rfl (r_iconst4 dX11_begin_39 oic_3 (r_icmp_ge4 dX11_begin_40 (by decide) (fun c1 => (r_vret4 rfl dX11_begin_56 (H.1 c1))) (fun c1 => (r_aload_n4 dX11_begin_43 rfl rfl (g_getR4 flX11_51 fdX11_9 ov4_c0 dX11_begin_44 (r_iload_n4 dX11_begin_47 rfl rfl (r_iconst4 dX11_begin_48 oic_0 (x_zast4 ov4_c363 ov_n363 rfl (H.2 c1).1 dX11_begin_49 (onm4 (fun S2 eS2 => (r_iinc4 dX11_begin_50 rfl (congrArg (fun w => x1 + w) (by decide : Int32.ofInt (1) = 1)) (by decide) rfl (r_goto4 dX11_begin_53 (by decide) ((H.2 c1).2 S2 eS2))))))))))))))
theorem eX11_begin4 {G : ovG} {Q : Int32 → ovS → Prop} {S : ovS} (H : RM4 G mX11_begin 4 Q 0 [some (.ref 0), none] [] S) : Ex4 G mX11_begin 4 [.ref 0] S Q := Ex4.of (by decide) (Nat.le_of_ble_eq_true rfl) [some (.ref 0), none] ⟨1, rfl⟩ H
theorem vJ7_fill_53178_04 {G : ovG} {Q : Int32 → ovS → Prop} {S : ovS} {x1 : Int32} {oa n : Nat} (hc : ocl4 oa = 14) (hn : oln oa = n) (H : RM4 G mJ7_fill_53178 1 Q 5 [some (.ref oa), some (.int x1), some (.int 0), some (.int (Int32.ofNat n))] [] S) : RM4 G mJ7_fill_53178 1 Q 0 [some (.ref oa), some (.int x1), none, none] [] S := (r_iconst4 dJ7_fill_53178_0 oic_0 (r_istore_n4 dJ7_fill_53178_1 rfl (by decide) rfl (r_aload_n4 dJ7_fill_53178_2 rfl rfl (r_alenI4 hc hn rfl dJ7_fill_53178_3 (r_istore_n4 dJ7_fill_53178_4 rfl (by decide) rfl H)))))
theorem vJ7_fill_53178_54 {G : ovG} {Q : Int32 → ovS → Prop} {S : ovS} {x1 x2 x3 : Int32} {oa n : Nat} (hc : ocl4 oa = 14) (hn : oln oa = n) (H : ((x3 ≤ x2 → Q 0 S) ∧ (¬ x3 ≤ x2 → (vp_in x2 n ∧ (∀ S2 : ovS, S2 = stI S oa (x2 : Int32).toNatClampNeg x1 → RM4 G mJ7_fill_53178 1 Q 5 [some (.ref oa), some (.int x1), some (.int (x2 + 1)), some (.int x3)] [] S2))))) : RM4 G mJ7_fill_53178 1 Q 5 [some (.ref oa), some (.int x1), some (.int x2), some (.int x3)] [] S := (r_iload_n4 dJ7_fill_53178_5 rfl rfl (r_iload_n4 dJ7_fill_53178_6 rfl rfl (r_icmp_ge4 dJ7_fill_53178_7 (by decide) (fun c1 => (r_vret4 rfl dJ7_fill_53178_20 (H.1 c1))) (fun c1 => (r_aload_n4 dJ7_fill_53178_10 rfl rfl (r_iload_n4 dJ7_fill_53178_11 rfl rfl (r_iload_n4 dJ7_fill_53178_12 rfl rfl (x_iast4 hc hn rfl (H.2 c1).1 dJ7_fill_53178_13 (onm4 (fun S2 eS2 => (r_iinc4 dJ7_fill_53178_14 rfl (congrArg (fun w => x2 + w) (by decide : Int32.ofInt (1) = 1)) (by decide) rfl (r_goto4 dJ7_fill_53178_17 (by decide) ((H.2 c1).2 S2 eS2)))))))))))))
theorem eJ7_fill_531784 {G : ovG} {Q : Int32 → ovS → Prop} {S : ovS} {x1 : Int32} {oa : Nat} (H : RM4 G mJ7_fill_53178 1 Q 0 [some (.ref oa), some (.int x1), none, none] [] S) : Ex4 G mJ7_fill_53178 1 [.ref oa, .int x1] S Q := Ex4.of (by decide) (Nat.le_of_ble_eq_true rfl) [some (.ref oa), some (.int x1), none, none] ⟨2, rfl⟩ H
theorem sp_fill4 {G : ovG} {S : ovS} {oa n : Nat} {v : Int32} (hc : ocl4 oa = 14) (hn : oln oa = n) (hb : n < 2147483648) : Ex4 G mJ7_fill_53178 1 [.ref oa, .int v] S (fun _ S1 => S1 = seI S oa (fillR (S.1 oa) n v)) := by
  refine eJ7_fill_531784 (vJ7_fill_53178_04 hc hn ?_)
  have key : ∀ k i : Nat, i + k = n → RM4 G mJ7_fill_53178 1 (fun _ S1 => S1 = seI S oa (fillR (S.1 oa) n v)) 5 [some (.ref oa), some (.int v), some (.int (nI i)), some (.int (Int32.ofNat n))] [] (seI S oa (fillR (S.1 oa) i v)) := by
    intro k
    induction k with
    | zero =>
      intro i hi
      have : i = n := by omega
      subst this
      exact vJ7_fill_53178_54 hc hn ⟨fun _ => rfl, fun c => absurd (Int32.le_refl _) c⟩
    | succ k ih =>
      intro i hi
      refine vJ7_fill_53178_54 hc hn ⟨fun c => ?_, fun _ => ⟨vp_in_nI (by omega) hb, fun S2 e2 => ?_⟩⟩
      · have := (nI_le_i (a := n) (b := i) hb (by omega)).mp c
        omega
      · have := ih (i + 1) (by omega)
        rw [nI_succ] at this
        rw [e2, nI_ix (by omega)]
        have e3 : stI (seI S oa (fillR (S.1 oa) i v)) oa i v = seI S oa (fillR (S.1 oa) (i + 1) v) := by
          simp only [stI, seI, va_up_self]
          congr 1
          funext a
          by_cases ha : a = oa
          · subst ha
            simp only [va_up_self]
            funext j
            simp only [upd, fillR]
            by_cases hj : j = i
            · subst hj
              simp
            · rw [if_neg hj]
              by_cases hj2 : j < i
              · rw [if_pos hj2, if_pos (by omega)]
              · rw [if_neg hj2, if_neg (by omega)]
          · simp only [va_up, if_neg ha]
        rw [e3]
        exact this
  have h0 := key n 0 (by omega)
  have e0 : seI S oa (fillR (S.1 oa) 0 v) = S := by
    have : fillR (S.1 oa) 0 v = S.1 oa := by funext j; simp [fillR]
    rw [this]
    simp only [seI]
    refine Prod.ext ?_ rfl
    funext a
    by_cases ha : a = oa
    · subst ha; simp [va_up]
    · simp [va_up, ha]
  rw [e0] at h0
  exact h0
theorem sp_take4 {G : ovG} {S : ovS} {oa ob : Nat} (ha : oa ∈ ovSt) (hb : ob ∈ ovSt) (hd : oa + 8 ≤ ob ∨ ob + 8 ≤ oa) : Ex4 G mX9_take 2 [.ref oa, .ref ob] S (fun _ S1 => stEq S1 oa S ob ∧ (∀ k, k < oa ∨ oa + 8 ≤ k → S1.1 k = S.1 k) ∧ S1.2 = S.2) := by
  refine eX9_take4 (vX9_take_04 ha hb ?_)
  intro S1 e1 S2 e2 S3 e3 S4 e4 S5 e5 S6 e6 S7 e7 S8 e8 S9 e9 S10 e10
  refine ⟨⟨fun r h1 h2 j hj => ?_, fun j h1 h2 => ?_⟩, fun k hk => ?_, by subst e10 e9 e8 e7 e6 e5 e4 e3 e2 e1; rfl⟩
  · have hr : r = 1 ∨ r = 2 ∨ r = 3 ∨ r = 4 ∨ r = 5 ∨ r = 6 ∨ r = 7 := by omega
    subst e10 e9 e8 e7 e6 e5 e4 e3 e2 e1
    rcases hr with rfl | rfl | rfl | rfl | rfl | rfl | rfl <;> simp (disch := omega) only [stI_row, cpI_row, cpI_self]
  · have hr : j = 7 ∨ j = 8 ∨ j = 9 := by omega
    subst e10 e9 e8 e7 e6 e5 e4 e3 e2 e1
    rcases hr with rfl | rfl | rfl <;> simp (disch := omega) [stI_row, cpI_row, cpI_self, stI_self, upd]
  · subst e10 e9 e8 e7 e6 e5 e4 e3 e2 e1
    simp (disch := omega) only [stI_row, cpI_row]
section
variable {G : ovG} {S0 S : ovS} {nm : Nat → Int32} {n : Nat}
theorem sp_clearLying4 : Ex4 G mX8_clearLying 1 [.ref 369] S (fun _ S1 => S1 = stI S 369 4 0) := eX8_clearLying4 (vX8_clearLying_04 (fun S1 e => e))
end
theorem ring_in4 : ∀ j, j < 41 → 34 + 8 * j ∈ ovSt ∧ ocl4 (34 + 8 * j) = 9 := by decide +kernel
section
variable {G : ovG} {S : ovS} {a u r : Nat}
theorem sp_hbegin4 : Ex4 G mX3_begin 3 [.ref 32, .ref 24] S (fun _ S1 => stEq S1 34 S 24 ∧ FrS [32] 34 S S1 ∧ S1.1 32 2 = 0 ∧ S1.1 32 0 = 0 ∧ S1.1 32 1 = 0) := by
  refine eX3_begin4 (vX3_begin_04 (fun S1 e1 S2 e2 S3 e3 => ?_))
  have h2 : S3.1 32 2 = nI 0 := by subst e3 e2 e1; simp only [stI_1]; rfl
  have hF : Fr [32] S S3 := by subst e3 e2 e1; exact ((Fr.rf.st rfl).st rfl).st rfl
  have h0 : S3.1 32 0 = 0 := by subst e3 e2 e1; simp only [stI_1]; rfl
  have h1 : S3.1 32 1 = 0 := by subst e3 e2 e1; simp only [stI_1]; rfl
  rw [h2, nI_ix (by decide), orow_r]
  refine ⟨vp_in_nI (by decide) (by decide), (ring_in4 0 (by decide)).2, _, sp_take4 (ring_in4 0 (by decide)).1 now_in (by omega), fun r4 S5 q => ?_⟩
  obtain ⟨q1, q2, q3⟩ := q
  have h32 : S5.1 32 = S3.1 32 := q2 32 (by omega)
  refine ⟨q1.cgr (fun j hj => hF.at _ (by simp; omega)), ⟨fun k hk hk2 => ?_, ?_⟩, ?_, ?_, ?_⟩
  · rw [q2 k (by omega), hF.1 k hk]
  · rw [q3, hF.2]
  · rw [h32, h2]; rfl
  · rw [h32, h0]
  · rw [h32, h1]
end
section
variable {G : ovG} {S : ovS} {V : pV}
theorem sp_nbegin4 : Ex4 G mX9_begin 2 [.ref 24, .ref 16] S (fun _ S1 => Fr [24, 25, 26, 27, 28, 29, 30, 31] S S1 ∧ (∀ i, i < 5 → S1.1 25 i = 0 ∧ S1.1 26 i = -1 ∧ S1.1 27 i = S.1 18 i ∧ S1.1 28 i = 0 ∧ S1.1 29 i = S.1 19 i ∧ S1.1 30 i = 0 ∧ S1.1 31 i = 0) ∧ S1.1 24 7 = S.1 16 2 ∧ S1.1 24 8 = S.1 16 3 ∧ S1.1 24 9 = 0) := by
  refine eX9_begin4 (vX9_begin_04 ⟨_, sp_fill4 (n := 5) rfl rfl (by decide), fun r3 S2 e2 => ⟨_, sp_fill4 (n := 5) rfl rfl (by decide), fun r8 S7 e7 S11 e11 => ⟨_, sp_fill4 (n := 5) rfl rfl (by decide), fun r14 S13 e13 S17 e17 => ⟨_, sp_fill4 (n := 5) rfl rfl (by decide), fun r20 S19 e19 => ⟨_, sp_fill4 (n := 5) rfl rfl (by decide), fun r25 S24 e24 S28 e28 S29 e29 S30 e30 => ?_⟩⟩⟩⟩⟩)
  have h7 : Fr [25, 26] S S7 := by rw [e7, e2]; exact (Fr.rf.se rfl).se rfl
  have h13 : Fr [25, 26, 27, 28] S S13 := by rw [e13, e11]; exact ((h7.mono rfl).cp rfl).se rfl
  have h24 : Fr [25, 26, 27, 28, 29, 30, 31] S S24 := by rw [e24, e19, e17]; exact (((h13.mono rfl).cp rfl).se rfl).se rfl
  have a28 : S28.1 16 = S.1 16 := by rw [e28, stI_row (by decide), h24.at 16 rfl]
  rw [h24.at 16 rfl] at e28
  rw [a28] at e29
  have r30 : ∀ k, k ≠ 24 → S30.1 k = S24.1 k := fun k hk => by rw [e30, stI_row hk, e29, stI_row hk, e28, stI_row hk]
  refine ⟨?_, fun i hi => ⟨?_, ?_, ?_, ?_, ?_, ?_, ?_⟩, ?_, ?_, ?_⟩
  · rw [e30, e29, e28]
    exact (((h24.mono rfl).st rfl).st rfl).st rfl
  · rw [r30 25 (by decide), e24, seI_row (by decide), e19, seI_row (by decide), e17, cpI_row (by decide), e13, seI_row (by decide), e11, cpI_row (by decide), e7, seI_row (by decide), e2, seI_self]
    simp [fillR, hi]
  · rw [r30 26 (by decide), e24, seI_row (by decide), e19, seI_row (by decide), e17, cpI_row (by decide), e13, seI_row (by decide), e11, cpI_row (by decide), e7, seI_self]
    simp [fillR, hi]
  · rw [r30 27 (by decide), e24, seI_row (by decide), e19, seI_row (by decide), e17, cpI_row (by decide), e13, seI_row (by decide), e11, cpI_self hi, h7.at 18 rfl]
  · rw [r30 28 (by decide), e24, seI_row (by decide), e19, seI_row (by decide), e17, cpI_row (by decide), e13, seI_self]
    simp [fillR, hi]
  · rw [r30 29 (by decide), e24, seI_row (by decide), e19, seI_row (by decide), e17, cpI_self hi, h13.at 19 rfl]
  · rw [r30 30 (by decide), e24, seI_row (by decide), e19, seI_self]
    simp [fillR, hi]
  · rw [r30 31 (by decide), e24, seI_self]
    simp [fillR, hi]
  · rw [e30, stI_1, if_pos rfl, if_neg (by decide), e29, stI_1, if_pos rfl, if_neg (by decide), e28, stI_1, if_pos rfl, if_pos rfl]
  · rw [e30, stI_1, if_pos rfl, if_neg (by decide), e29, stI_1, if_pos rfl, if_pos rfl]
  · rw [e30, stI_1, if_pos rfl, if_pos rfl]
end
section
variable {G : ovG} {S : ovS} {V : pV}
theorem sp_cbegin4 : Ex4 G mX11_begin 4 [.ref 0] S (fun _ S1 => (∀ k, bgR k = false → S1.1 k = S.1 k) ∧ (∀ i, i < 5 → S1.1 25 i = 0 ∧ S1.1 26 i = -1 ∧ S1.1 27 i = S.1 18 i ∧ S1.1 28 i = 0 ∧ S1.1 29 i = S.1 19 i ∧ S1.1 30 i = 0 ∧ S1.1 31 i = 0) ∧ (S1.1 24 7 = S.1 16 2 ∧ S1.1 24 8 = S.1 16 3 ∧ S1.1 24 9 = 0) ∧ stEq S1 34 S1 24 ∧ (S1.1 32 2 = 0 ∧ S1.1 32 0 = 0 ∧ S1.1 32 1 = 0) ∧ (S1.1 376 1 = 0 ∧ ∀ j, j ≠ 1 → S1.1 376 j = S.1 376 j) ∧ S1.1 369 4 = 0 ∧ (∀ b, b < 3 → S1.1 363 b = 0)) := by
  refine eX11_begin4 (vX11_begin_04 ⟨_, sp_nbegin4, fun r3 S2 g => ⟨_, sp_hbegin4, fun r8 S7 p => ⟨_, eX6_clear4 (vX6_clear_04 (Q := fun _ S9 => S9 = stI S7 376 1 0) (fun T e => e)), fun r13 S12 e12 => ⟨_, sp_clearLying4, fun r18 S17 e17 => ?_⟩⟩⟩⟩)
  obtain ⟨g1, g2, g3, g4, g5⟩ := g
  obtain ⟨p1, p2, p3, p4, p5⟩ := p
  have k17 : ∀ k, k ≠ 369 → k ≠ 376 → S17.1 k = S7.1 k := fun k h1 h2 => by rw [e17, stI_row h1, e12, stI_row h2]
  have kS : ∀ k, (k < 24 ∨ 32 < k) → (k < 34 ∨ 42 ≤ k) → k ≠ 369 → k ≠ 376 → S17.1 k = S.1 k := fun k h1 h2 h3 h4 => by
    rw [k17 k h3 h4, p2.at (by simp; omega) h2, g1.1 k]
    simp only [List.contains_eq_mem, List.mem_cons, List.not_mem_nil, or_false, decide_eq_false_iff_not]
    omega
  have s376 : S7.1 376 = S.1 376 := by rw [p2.at (by decide) (by omega), g1.at 376 rfl]
  have nw : ∀ j, j < 8 → S7.1 (24 + j) = S2.1 (24 + j) := fun j hj => p2.at (by simp; omega) (by omega)
  have key : ∀ k i : Nat, ∀ S' : ovS, i + k = 3 → Fr [363] S17 S' → (∀ b, b < i → S'.1 363 b = 0) → RM4 G mX11_begin 4 (fun _ S1 => (∀ k, bgR k = false → S1.1 k = S.1 k) ∧ (∀ i, i < 5 → S1.1 25 i = 0 ∧ S1.1 26 i = -1 ∧ S1.1 27 i = S.1 18 i ∧ S1.1 28 i = 0 ∧ S1.1 29 i = S.1 19 i ∧ S1.1 30 i = 0 ∧ S1.1 31 i = 0) ∧ (S1.1 24 7 = S.1 16 2 ∧ S1.1 24 8 = S.1 16 3 ∧ S1.1 24 9 = 0) ∧ stEq S1 34 S1 24 ∧ (S1.1 32 2 = 0 ∧ S1.1 32 0 = 0 ∧ S1.1 32 1 = 0) ∧ (S1.1 376 1 = 0 ∧ ∀ j, j ≠ 1 → S1.1 376 j = S.1 376 j) ∧ S1.1 369 4 = 0 ∧ (∀ b, b < 3 → S1.1 363 b = 0)) 38 [some (.ref 0), some (.int (nI i))] [] S' := by
    intro k
    induction k with
    | zero =>
      intro i S' hi hF hb
      have : i = 3 := by omega
      subst this
      have nw' : ∀ j, j < 8 → S'.1 (24 + j) = S2.1 (24 + j) := fun j hj => by
        rw [hF.1 (24 + j) (by simp; omega), k17 _ (by omega) (by omega)]
        exact nw j hj
      refine vX11_begin_384 ⟨fun _ => ⟨fun k hk => ?_, fun i hi => ?_, ?_, ?_, ?_, ?_, ?_, hb⟩, fun z => absurd (by decide) z⟩
      · have hk' : (¬ (24 ≤ k ∧ k ≤ 32)) ∧ (¬ (34 ≤ k ∧ k ≤ 41)) ∧ k ≠ 363 ∧ k ≠ 369 ∧ k ≠ 376 := by
          unfold bgR at hk
          simp only [Bool.or_eq_false_iff, Bool.and_eq_false_iff, decide_eq_false_iff_not] at hk
          omega
        rw [hF.1 k (by simp [hk'.2.2.1])]
        exact kS k (by omega) (by omega) hk'.2.2.2.1 hk'.2.2.2.2
      · have h := g2 i hi
        rw [nw' 1 (by decide), nw' 2 (by decide), nw' 3 (by decide), nw' 4 (by decide), nw' 5 (by decide), nw' 6 (by decide), nw' 7 (by decide)]
        exact h
      · rw [nw' 0 (by decide)]
        exact ⟨g3, g4, g5⟩
      · refine (p1.cg (fun j hj => ?_)).cgr (fun j hj => ?_)
        · rw [hF.1 (34 + j) (by simp; omega), k17 _ (by omega) (by omega)]
        · exact (nw' j hj).symm
      · rw [hF.at 32 rfl, k17 32 (by decide) (by decide)]
        exact ⟨p3, p4, p5⟩
      · have e : ∀ j, S'.1 376 j = if j = 1 then 0 else S.1 376 j := fun j => by rw [hF.at 376 rfl, e17, stI_row (by decide), e12, stI_1, if_pos rfl, s376]
        exact ⟨by rw [e]; rfl, fun j hj => by rw [e, if_neg hj]⟩
      · rw [hF.at 369 rfl, e17, stI_1, if_pos rfl, if_pos rfl]
    | succ k ih =>
      intro i S' hi hF hb
      refine vX11_begin_384 ⟨fun z => absurd ((nI_le_i (a := 3) (by decide) (by omega)).mp z) (by omega), fun _ => ⟨vp_in_nI (by omega) (by decide), fun S2' e2 => ?_⟩⟩
      rw [nI_ix (by omega)] at e2
      have go := ih (i + 1) S2' (by omega) (by rw [e2]; exact hF.st rfl) (fun b hb' => ?_)
      · rw [nI_succ i] at go
        exact go
      · rw [e2, stI_1, if_pos rfl]
        by_cases c : b = i
        · rw [if_pos c]; rfl
        · rw [if_neg c]
          exact hb b (by omega)
  exact key 3 0 S17 (by omega) Fr.rf (fun b hb => absurd hb (by omega))
end
