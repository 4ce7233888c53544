theorem r_ldcS {G : ovG} {k : ovM} {R : Room} {cells slots : Nat} {Z : List Frame → Array Value → State → State → Prop} {pc : Nat} {ls : List (Option Value)} {st : List Value} {S : ovS} (hk : k.1.cls = "OvenNames$Scanner") (hd : decode k.2.1 pc = .ok (.ldc 48, 2)) (kk : RW G k R cells slots Z (pc + 2) ls (.ref 449 :: st) S) : RW G k R cells slots Z (pc) ls st S := by
  intro p e s m args below meth c C0 H locs la hP hS hl
  have hh := kk p e s m args below meth c C0 H locs la hP hS hl
  rw [List.map_cons, otr, oad_x (by decide)] at hh
  exact va_ldcS C0.1 C0.2.1 (by rw [← hk]; exact C0.2.2.2.2.1) C0.2.2.2.2.2.2.2.2.2.2.2.2.1 hd hh
theorem r_strV {G : ovG} {k : ovM} {R : Room} {cells slots : Nat} {Z : List Frame → Array Value → State → State → Prop} {pc : Nat} {ls : List (Option Value)} {st : List Value} {S : ovS} {index : Nat} (hw : Cond.fieldLink k.1.cls index "java/lang/String" "value" "[B" ∈ tblG) (hd : decode k.2.1 pc = .ok (.getfield index, 3)) (kk : RW G k R cells slots Z (pc + 3) ls (.ref 450 :: st) S) : RW G k R cells slots Z (pc) ls (.ref 449 :: st) S := by
  intro p e s m args below meth c C0 H locs la hP hS hl
  have hh := kk p e s m args below meth c C0 H locs la hP hS hl
  rw [List.map_cons, otr, oad_x (by decide)] at hh
  rw [List.map_cons, otr, oad_x (by decide)]
  exact vk_getf C0.1 C0.2.1 (C0.2.2.2.2.2.2.2.2.2.2.2.2.2.1.1 0 (by decide)).2.2.1 hS C0.2.2.2.2.1 (C0.2.2.2.2.2.1 _ hw) (fun _ q => q) hd hh
theorem r_strC {G : ovG} {k : ovM} {R : Room} {cells slots : Nat} {Z : List Frame → Array Value → State → State → Prop} {pc : Nat} {ls : List (Option Value)} {st : List Value} {S : ovS} {index : Nat} (hw : Cond.fieldLink k.1.cls index "java/lang/String" "coder" "B" ∈ tblG) (hd : decode k.2.1 pc = .ok (.getfield index, 3)) (kk : RW G k R cells slots Z (pc + 3) ls (.int 0 :: st) S) : RW G k R cells slots Z (pc) ls (.ref 449 :: st) S := by
  intro p e s m args below meth c C0 H locs la hP hS hl
  have hh := kk p e s m args below meth c C0 H locs la hP hS hl
  rw [List.map_cons, otr, oad_x (by decide)]
  exact vk_getf C0.1 C0.2.1 (C0.2.2.2.2.2.2.2.2.2.2.2.2.2.1.1 0 (by decide)).2.1 hS C0.2.2.2.2.1 (C0.2.2.2.2.2.1 _ hw) (fun _ q => q) hd hh
theorem r_getsC {G : ovG} {k : ovM} {R : Room} {cells slots : Nat} {Z : List Frame → Array Value → State → State → Prop} {pc : Nat} {ls : List (Option Value)} {st : List Value} {S : ovS} {index : Nat} (hw : Cond.fieldLink k.1.cls index "java/lang/String" "COMPACT_STRINGS" "Z" ∈ tblG) (hd : decode k.2.1 pc = .ok (.getstatic index, 3)) (kk : RW G k R cells slots Z (pc + 3) ls (.int 1 :: st) S) : RW G k R cells slots Z (pc) ls st S := by
  intro p e s m args below meth c C0 H locs la hP hS hl
  exact va_gets C0.1 C0.2.1 C0.2.2.2.2.2.2.2.2.2.2.2.2.2.2.1 hS C0.2.2.2.2.1 (C0.2.2.2.2.2.1 _ hw) (fun _ q => q) hd (kk p e s m args below meth c C0 H locs la hP hS hl)
theorem r_tb {G : ovG} {k : ovM} {R : Room} {cells slots : Nat} {Z : List Frame → Array Value → State → State → Prop} {pc : Nat} {ls : List (Option Value)} {st : List Value} {S : ovS} {i : Int32} (hi : vp_in i 11) (hd : decode k.2.1 pc = .ok (.baload, 1)) (kk : RW G k R cells slots Z (pc + 1) ls (.int (oSg.getD i.toNatClampNeg 0) :: st) S) : RW G k R cells slots Z (pc) ls (.int i :: .ref 450 :: st) S := by
  intro p e s m args below meth c C0 H locs la hP hS hl
  have hh := kk p e s m args below meth c C0 H locs la hP hS hl
  rw [List.map_cons, List.map_cons, otr, otr, oad_x (by decide)]
  exact va_tb C0.1 C0.2.1 (C0.2.2.2.2.2.2.2.2.2.2.2.2.2.1.1 0 (by decide)).2.2.2 hS hi rfl hd hh
theorem r_tblen {G : ovG} {k : ovM} {R : Room} {cells slots : Nat} {Z : List Frame → Array Value → State → State → Prop} {pc : Nat} {ls : List (Option Value)} {st : List Value} {S : ovS} (hd : decode k.2.1 pc = .ok (.arraylength, 1)) (kk : RW G k R cells slots Z (pc + 1) ls (.int 11 :: st) S) : RW G k R cells slots Z (pc) ls (.ref 450 :: st) S := by
  intro p e s m args below meth c C0 H locs la hP hS hl
  have hh := kk p e s m args below meth c C0 H locs la hP hS hl
  rw [List.map_cons, otr, oad_x (by decide)]
  exact va_tlen C0.1 C0.2.1 (C0.2.2.2.2.2.2.2.2.2.2.2.2.2.1.1 0 (by decide)).2.2.2 hS rfl hd hh
theorem r_bret {G : ovG} {k : ovM} {h : Nat} {Q : Int32 → ovS → Prop} {pc : Nat} {ls : List (Option Value)} {S : ovS} {x : Int32} (hr : k.2.2.2 = some .byte) (hd : decode k.2.1 pc = .ok (.ireturn, 1)) (hx : narrow .byte (.int x) = .int x) (hq : Q x S) : RM G k h Q pc ls [.int x] S := by
  intro p e s m args below meth c C0 H locs la hP hS hl
  have hL := C0.2.2.2.2.2.2.2.1
  exact W.zret C0.1 C0.2.1 (C0.2.2.1.trans hr) hx (fun t ht hW => ⟨⟨x, S, by rw [orv, hr], hq, by rw [ht]; exact hP⟩, hS.F ht⟩) hS.2.2 hd hL
theorem r_callT {G : ovG} {k : ovM} {R : Room} {cells slots : Nat} {Z : List Frame → Array Value → State → State → Prop} {pc : Nat} {ls : List (Option Value)} {st stk : List Value} {S : ovS} {y : ovM} {n h index : Nat} {As : List Value} {Q : Int32 → ovS → Prop}
    (hM : oMV y n) (hl : Cond.methodLink k.1.cls index y.1 ∈ tblG) (hc : y.1.cls = "java/lang/String") (hd : decode k.2.1 pc = .ok (.invokevirtual index, 3)) (hn : As.length = n) (hs : (st.map fun v => v.category).sum ≤ 8) (hR : h + 1 ≤ R.frames ∧ 8 + (y.2.2.1 + 11) + 64 * h ≤ R.locals) (hf : cells ≤ R.cells ∧ slots ≤ R.slots) (hst : As.reverse ++ .ref 449 :: st = stk)
    (hE : Ex G y h (.ref 449 :: As) S Q) (kk : ∀ (r : Int32) (S1 : ovS), Q r S1 → RW G k R cells slots Z (pc + 3) ls ((orv y r).toList ++ st) S1) : RW G k R cells slots Z pc ls stk S := by
  intro p e s m args below meth c C0 H locs la hP hS hl2
  subst hst
  obtain ⟨hco, hin, hse, hit, hh⟩ := hM
  have hG : GoodIn tblG (wsV k.1.cls index y.1.cls y.1 (owk y)) := tblG_in (fun w hw => by
    rcases List.mem_append.mp hw with q | q
    · simp only [List.mem_cons, List.not_mem_nil, or_false] at q
      rcases q with rfl | rfl | rfl | rfl
      · exact hl
      · exact hin
      · exact hse
      · exact hit
    · exact o_code hco w q)
  rw [o_stack]
  refine o_call (G := G) (k := y) (Q := Q) (rest := st.map (otr G)) (va_runV (As := As.map (otr G)) (C := y.1.cls) (n := n) ⟨C0.1, C0.2.1, C0.2.2.2.1, C0.2.2.2.2.1, C0.2.2.2.2.2.1⟩ hE (cwV n C0.2.2.2.2.2.1 hG rfl rfl rfl ⟨rfl, hh⟩ hR) ⟨o_blind, (by rw [hc, oad_x (by decide)]; exact vk_recv (N := 1) (i := 0) (adK := fun _ => G.2.2.2.2 449) (adV := fun _ => G.2.2.2.2 450) C0.2.2.2.2.2.2.2.2.2.2.2.2.2.1 (by decide) hS), fun U hU hW => ⟨rfl, by rw [hU]; exact hP, va_K.moved hW.alike C0.2.2.2.2.2.2.1, C0.2.2.2.2.2.2.2.2.to hS hU hW⟩⟩ rfl (by rw [List.length_map]; exact hn) hl2.1 rfl (lv_room (by rw [o_sum]; exact hs)) hd hf) hS (fun r S1 H1 locs1 hq hp1 hs1 => ?_)
  rw [o_ret]
  exact kk r S1 hq p e s m args below meth c C0 H1 locs1 la hp1 hs1 hl2
theorem r_callH {G : ovG} {k : ovM} {R : Room} {cells slots : Nat} {Z : List Frame → Array Value → State → State → Prop} {pc : Nat} {ls : List (Option Value)} {st stk : List Value} {S : ovS} {n h : Nat} {As : List Value} {Q : Int32 → ovS → Prop}
    (hM : oMS mX11_isHundredth n) (hk : k.1.cls = "OvenNames$Reports") (hd : decode k.2.1 pc = .ok (.invokestatic 53, 3)) (hn : As.length = n) (hs : (st.map fun v => v.category).sum ≤ 8) (hR : h + 1 ≤ R.frames ∧ 8 + (1 + 11) + 64 * h ≤ R.locals) (hf : cells ≤ R.cells ∧ slots ≤ R.slots) (hst : As.reverse ++ st = stk)
    (hE : Ex G mX11_isHundredth h As S Q) (kk : ∀ (r : Int32) (S1 : ovS), Q r S1 → RW G k R cells slots Z (pc + 3) ls ((orv mX11_isHundredth r).toList ++ st) S1) : RW G k R cells slots Z pc ls stk S := by
  intro p e s m args below meth c C0 H locs la hP hS hl2
  subst hst
  obtain ⟨hco, hsc, hit, hh⟩ := hM
  rw [o_stackS]
  refine o_call (G := G) (k := mX11_isHundredth) (Q := Q) (rest := st.map (otr G)) (va_runSN (As := As.map (otr G)) (n := n) ⟨C0.1, C0.2.1, C0.2.2.2.1, C0.2.2.2.2.1, C0.2.2.2.2.2.1⟩ hE ⟨va_cnB n C0.2.2.2.2.2.1 (tblG_in (o_code hco)) rfl rfl rfl (by rw [hk]; exact C0.2.2.2.2.2.2.2.2.2.2.2.2.2.2.2) (C0.2.2.2.2.2.1 _ hit) hh hR, C0.2.2.2.2.2.1 _ hsc, trivial⟩ ⟨o_blind, fun U hU hW => ⟨rfl, by rw [hU]; exact hP, va_K.moved hW.alike C0.2.2.2.2.2.2.1, C0.2.2.2.2.2.2.2.2.to hS hU hW⟩⟩ rfl (by rw [List.length_map]; exact hn) hl2.1 rfl (lv_room (by rw [o_sum]; exact hs)) hd hf) hS (fun r S1 H1 locs1 hq hp1 hs1 => ?_)
  rw [o_ret]
  exact kk r S1 hq p e s m args below meth c C0 H1 locs1 la hp1 hs1 hl2
