/-! the class's constructor -/
section
variable {G : ovG} {k : ovM} {R : Room} {u slots n0 : Nat} {Z : List Frame → Array Value → State → State → Prop} {pc : Nat} {ls : List (Option Value)} {st : List Value} {S : ovS} {xs : List (Nat × va_E)}
theorem n_done {xs' : List (Nat × va_E)} (h : ∀ i, i < n0 + u → ncf G S xs i = ncf G S xs' i) (kk : RN G k R u slots n0 Z pc ls st xs' S) : RN G k R u slots n0 Z pc ls st xs S := by
  intro p e s m args below meth c C H locs la hP hS hl
  refine kk p e s m args below meth c C H locs la ?_ hS hl
  have h2 := hP
  unfold nWP at h2 ⊢
  rw [nws_congr h] at h2
  exact h2
theorem n_callV {y : ovM} {n h o ci index N : Nat} {T : u_T} {As stk : List Value} {Q : Int32 → ovS → Prop} (h4 : n0 + u = 412) (hM : oMV y n) (hl : Cond.methodLink k.1.cls index y.1 ∈ tblG) (ho : ocl4 o = ci) (hci : ci < 13) (hc : vwCl[ci]? = some (y.1.cls, T, N)) (hd : decode k.2.1 pc = .ok (.invokevirtual index, 3)) (hn : As.length = n) (hs : (st.map fun v => v.category).sum ≤ 8) (hR : h + 1 ≤ R.frames ∧ 8 + (y.2.2.1 + 11) + 64 * h ≤ R.locals) (hf : u ≤ R.cells ∧ slots ≤ R.slots) (hst : As.reverse ++ .ref o :: st = stk)
    (hE : Ex4 G y h (.ref o :: As) S Q) (kk : ∀ (r : Int32) (S1 : ovS), Q r S1 → RN G k R u slots n0 Z (pc + 3) ls ((orv y r).toList ++ st) [] S1) : RN G k R u slots n0 Z pc ls stk [] S := by
  intro p e s m args below meth c C H locs la hP0 hS hl2
  subst hst
  rw [h4] at hP0
  have hP : oP4 G S H := hP0
  have C0 := C.1
  obtain ⟨hco, hin, hse, hit, hh⟩ := hM
  have hlt := ocl_lt4 ho (by omega)
  have hz : (ows4 G S)[o]? = some (oad G o, .inr (ci, (List.range (ofn ci)).map (ofv G S o ci))) := (ows_at4 (G := G) (S := S) hlt).trans (by rw [oce_obj4 ho hci])
  have hG : GoodIn tblG (wsV k.1.cls index y.1.cls y.1 (owk y)) := tblG_in (fun w hw => by
    rcases List.mem_append.mp hw with q | q
    · simp only [List.mem_cons, List.not_mem_nil, or_false] at q
      rcases q with rfl | rfl | rfl | rfl
      · exact hl
      · exact hin
      · exact hse
      · exact hit
    · exact o_code hco w q)
  rw [o_stack]
  refine o_call4 (G := G) (k := y) (Q := Q) (rest := st.map (otr G)) (va_runV (As := As.map (otr G)) (C := y.1.cls) (n := n) ⟨C0.1, C0.2.1, C0.2.2.2.1, C0.2.2.2.2.1, C0.2.2.2.2.2.1⟩ hE (cwV n C0.2.2.2.2.2.1 hG rfl rfl rfl ⟨rfl, hh⟩ hR) ⟨o_blind4, va_recv C0.2.2.2.2.2.2.1 hP hc hz, fun U hU hW => ⟨rfl, by rw [hU]; exact hP, va_K.moved hW.alike C0.2.2.2.2.2.2.1, C0.2.2.2.2.2.2.2.2.to hS hU hW⟩⟩ rfl (by rw [List.length_map]; exact hn) hl2.1 rfl (lv_room (by rw [o_sum]; exact hs)) hd hf) hS (fun r S1 H1 locs1 hq hp1 hs1 => ?_)
  rw [o_ret]
  exact kk r S1 hq p e s m args below meth c C H1 locs1 la (by rw [h4]; exact hp1) hs1 hl2
end
theorem ctX11_0 {G : ovG} {S : ovS} {Q : Int32 → ovS → Prop} (hS : ∀ i, 1 ≤ i → i < 412 → S.1 i = (fun _ => 0) ∧ S.2 i = (fun _ => 0)) (h1 : S.1 0 = fun j => if j = 4 then -1 else 0) (h2 : S.2 0 = fun _ => 0) (hE : Ex4 G mX11_begin 4 [.ref 0] S Q) : EN G mX11_init 5 411 6843 [.ref 0] 1 S ((0, .inr (11, nb11)) :: []) (fun S1 => ∃ r, Q r S1) [] := by
  have hx : ∀ i, 0 ≤ i → ncf G S [] i = oce G S i := fun i _ => rfl
  have hfin : (.inr (11, [.ref (oad G 1), .int 0, .ref (oad G 2), .int 0, .int (-1), .ref (oad G 16), .ref (oad G 24), .ref (oad G 32), .ref (oad G 362), .ref (oad G 363), .ref (oad G 364), .ref (oad G 369), .ref (oad G 373), .ref (oad G 376)]) : va_E) = oce G S 0 := by
    rw [oce_obj ov_c0 (by decide)]
    have e1 : [.ref (oad G 1), .int (S.1 0 1), .ref (oad G 2), .int (S.1 0 3), .int (S.1 0 4), .ref (oad G 16), .ref (oad G 24), .ref (oad G 32), .ref (oad G 362), .ref (oad G 363), .ref (oad G 364), .ref (oad G 369), .ref (oad G 373), .ref (oad G 376)] = (List.range (ofn 11)).map (ofv G S 0 11) := rfl
    rw [← e1]
    simp [h1]
  refine EN.of (by decide) (Nat.le_of_ble_eq_true rfl) [some (.ref 0), none] ⟨1, rfl⟩ ?_
  refine n_aload_n dX11_init_0 rfl rfl ?_
  refine n_obj nolX11 dX11_init_1 (by decide) (by decide) ?_
  refine n_aload_n dX11_init_4 rfl rfl ?_
  refine n_sipush dX11_init_5 (v := 1600) (by decide) ?_
  refine n_newB (q := 1) (N := 1600) (by omega) ov_c1 ov_n1 (hS 1 (by decide) (by decide)).1 ((ncf_tl (by decide)).trans (hx 1 (by decide))) (by decide) (by decide) (by decide) (by decide) (by decide) dX11_init_8 ?_
  refine n_put0 (v := .ref 1) (fs' := [.ref (oad G 1), .int 0, .null, .int 0, .int 0, .null, .null, .null, .null, .null, .null, .null, .null, .null]) flX11_9 fdX11_0 fpX11 (Or.inr ⟨rfl, rfl, rfl⟩) rfl rfl (by omega) (by decide) (Nat.le_of_ble_eq_true rfl) rfl dX11_init_10 ?_
  refine n_aload_n dX11_init_13 rfl rfl ?_
  refine n_new (q := 2) (fs := nb5) nclX11_13 ninX5 nitX5 fdX5_0 fpX5 nfs5 (by omega) (by decide) (by decide) (by decide) dX11_init_14 ?_
  refine n_dup dX11_init_17 rfl ?_
  refine n_aload_n dX11_init_18 rfl rfl ?_
  refine n_get (v := .ref 1) flX11_9 fdX11_0 (by omega) (by decide) ((ncf_tl (by decide)).trans ncf_hd) rfl dX11_init_19 ?_
  refine n_callI (mc := 13) (ms := 749) (As := [.ref 1]) (st := [.ref 2, .ref 0]) nokX5 nmlX11_15 dX11_init_22 rfl (by decide) ⟨by decide, by decide⟩ ⟨by decide, by decide⟩ (by omega) rfl (ctX5_2 (fun i a b => hS i (by omega) (by omega)) (nx_sub (o := 2) (h0 := 0) (by decide) (nx_le (by omega) hx))) (fun S1 e1 => ?_)
  rw [e1]
  refine n_put0 (v := .ref 2) (fs' := [.ref (oad G 1), .int 0, .ref (oad G 2), .int 0, .int 0, .null, .null, .null, .null, .null, .null, .null, .null, .null]) flX11_18 fdX11_2 fpX11 (Or.inr ⟨rfl, rfl, rfl⟩) rfl rfl (by omega) (by decide) (Nat.le_of_ble_eq_true rfl) rfl dX11_init_25 ?_
  refine n_aload_n dX11_init_28 rfl rfl ?_
  refine n_iconst dX11_init_29 (v := -1) (by decide) ?_
  refine n_put0 (v := .int (-1)) (fs' := [.ref (oad G 1), .int 0, .ref (oad G 2), .int 0, .int (-1), .null, .null, .null, .null, .null, .null, .null, .null, .null]) flX11_22 fdX11_4 fpX11 (Or.inl rfl) rfl rfl (by omega) (by decide) (Nat.le_of_ble_eq_true rfl) rfl dX11_init_30 ?_
  refine n_aload_n dX11_init_33 rfl rfl ?_
  refine n_new (q := 16) (fs := nb10) nclX11_26 ninX10 nitX10 fdX10_0 fpX10 nfs10 (by omega) (by decide) (by decide) (by decide) dX11_init_34 ?_
  refine n_dup dX11_init_37 rfl ?_
  refine n_callN (mc := 7) (ms := 651) (As := []) (st := [.ref 16, .ref 0]) nokX10 (fun s h => h.2.2.2.1) dX11_init_38 rfl (by decide) ⟨by decide, by decide⟩ ⟨by decide, by decide⟩ (by omega) rfl (ctX10_16 (fun i a b => hS i (by omega) (by omega)) (nx_sub (o := 16) (h0 := 0) (by decide) (nx_le (by omega) hx))) (fun S1 e1 => ?_)
  rw [e1]
  refine n_put0 (v := .ref 16) (fs' := [.ref (oad G 1), .int 0, .ref (oad G 2), .int 0, .int (-1), .ref (oad G 16), .null, .null, .null, .null, .null, .null, .null, .null]) flX11_29 fdX11_5 fpX11 (Or.inr ⟨rfl, rfl, rfl⟩) rfl rfl (by omega) (by decide) (Nat.le_of_ble_eq_true rfl) rfl dX11_init_41 ?_
  refine n_aload_n dX11_init_44 rfl rfl ?_
  refine n_new (q := 24) (fs := nb9) nclX11_33 ninX9 nitX9 fdX9_0 fpX9 nfs9 (by omega) (by decide) (by decide) (by decide) dX11_init_45 ?_
  refine n_dup dX11_init_48 rfl ?_
  refine n_callN (mc := 7) (ms := 35) (As := []) (st := [.ref 24, .ref 0]) nokX9 (fun s h => h.2.2.2.2.1) dX11_init_49 rfl (by decide) ⟨by decide, by decide⟩ ⟨by decide, by decide⟩ (by omega) rfl (ctX9 (ovSt_c 24 (by decide)) (fun i a b => hS i (by omega) (by omega)) (nx_sub (o := 24) (h0 := 0) (by decide) (nx_le (by omega) hx))) (fun S1 e1 => ?_)
  rw [e1]
  refine n_put0 (v := .ref 24) (fs' := [.ref (oad G 1), .int 0, .ref (oad G 2), .int 0, .int (-1), .ref (oad G 16), .ref (oad G 24), .null, .null, .null, .null, .null, .null, .null]) flX11_36 fdX11_6 fpX11 (Or.inr ⟨rfl, rfl, rfl⟩) rfl rfl (by omega) (by decide) (Nat.le_of_ble_eq_true rfl) rfl dX11_init_52 ?_
  refine n_aload_n dX11_init_55 rfl rfl ?_
  refine n_new (q := 32) (fs := nb3) nclX11_40 ninX3 nitX3 fdX3_0 fpX3 nfs3 (by omega) (by decide) (by decide) (by decide) dX11_init_56 ?_
  refine n_dup dX11_init_59 rfl ?_
  refine n_callI (mc := 329) (ms := 1886) (As := []) (st := [.ref 32, .ref 0]) nokX3 nmlX11_42 dX11_init_60 rfl (by decide) ⟨by decide, by decide⟩ ⟨by decide, by decide⟩ (by omega) rfl (ctX3_32 (fun i a b => hS i (by omega) (by omega)) (nx_sub (o := 32) (h0 := 0) (by decide) (nx_le (by omega) hx))) (fun S1 e1 => ?_)
  rw [e1]
  refine n_put0 (v := .ref 32) (fs' := [.ref (oad G 1), .int 0, .ref (oad G 2), .int 0, .int (-1), .ref (oad G 16), .ref (oad G 24), .ref (oad G 32), .null, .null, .null, .null, .null, .null]) flX11_43 fdX11_7 fpX11 (Or.inr ⟨rfl, rfl, rfl⟩) rfl rfl (by omega) (by decide) (Nat.le_of_ble_eq_true rfl) rfl dX11_init_63 ?_
  refine n_aload_n dX11_init_66 rfl rfl ?_
  refine n_iconst dX11_init_67 (v := 3) (by decide) ?_
  refine n_newq (q := 362) (N := 3) nclX11_33 (by omega) (by decide) (by decide) (by decide) (by decide) (by decide) (by decide) dX11_init_68 ?_
  refine n_row (g := nrf G 362 0) (fun j hj => by rw [nrf, if_pos ⟨Nat.zero_le _, by rw [ov_n362]; exact hj⟩]) ?_
  refine n_put1 (v := .ref 362) (fs' := [.ref (oad G 1), .int 0, .ref (oad G 2), .int 0, .int (-1), .ref (oad G 16), .ref (oad G 24), .ref (oad G 32), .ref (oad G 362), .null, .null, .null, .null, .null]) flX11_47 fdX11_8 fpX11 (Or.inr ⟨rfl, rfl, rfl⟩) rfl rfl (by omega) (by decide) (Nat.le_of_ble_eq_true rfl) rfl (by decide) dX11_init_71 ?_
  refine n_aload_n dX11_init_74 rfl rfl ?_
  refine n_iconst dX11_init_75 (v := 3) (by decide) ?_
  refine n_newZ (q := 363) (N := 3) (by omega) ov_c363 ov_n363 (hS 363 (by decide) (by decide)).1 ((ncf_tl (by decide)).trans ((ncf_tl (by decide)).trans (hx 363 (by decide)))) (by decide) (by decide) (by decide) (by decide) (by decide) dX11_init_76 ?_
  refine n_put1 (v := .ref 363) (fs' := [.ref (oad G 1), .int 0, .ref (oad G 2), .int 0, .int (-1), .ref (oad G 16), .ref (oad G 24), .ref (oad G 32), .ref (oad G 362), .ref (oad G 363), .null, .null, .null, .null]) flX11_51 fdX11_9 fpX11 (Or.inr ⟨rfl, rfl, rfl⟩) rfl rfl (by omega) (by decide) (Nat.le_of_ble_eq_true rfl) rfl (by decide) dX11_init_78 ?_
  refine n_aload_n dX11_init_81 rfl rfl ?_
  refine n_new (q := 364) (fs := nb0) nclX11_55 ninX0 nitX0 fdX0_0 fpX0 nfs0 (by omega) (by decide) (by decide) (by decide) dX11_init_82 ?_
  refine n_dup dX11_init_85 rfl ?_
  refine n_aload_n dX11_init_86 rfl rfl ?_
  refine n_get (v := .ref 16) flX11_29 fdX11_5 (by omega) (by decide) ((ncf_tl (by decide)).trans ((ncf_tl (by decide)).trans ncf_hd)) rfl dX11_init_87 ?_
  refine n_aload_n dX11_init_90 rfl rfl ?_
  refine n_get (v := .ref 24) flX11_36 fdX11_6 (by omega) (by decide) ((ncf_tl (by decide)).trans ((ncf_tl (by decide)).trans ncf_hd)) rfl dX11_init_91 ?_
  refine n_callI (mc := 4) (ms := 72) (As := [.ref 16, .ref 24]) (st := [.ref 364, .ref 0]) nokX0 nmlX11_57 dX11_init_94 rfl (by decide) ⟨by decide, by decide⟩ ⟨by decide, by decide⟩ (by omega) rfl (ctX0_364 (fun i a b => hS i (by omega) (by omega)) (nx_sub (o := 364) (h0 := 362) (by decide) (nx_sub (o := 364) (h0 := 0) (by decide) (nx_le (by omega) hx)))) (fun S1 e1 => ?_)
  rw [e1]
  refine n_put1 (v := .ref 364) (fs' := [.ref (oad G 1), .int 0, .ref (oad G 2), .int 0, .int (-1), .ref (oad G 16), .ref (oad G 24), .ref (oad G 32), .ref (oad G 362), .ref (oad G 363), .ref (oad G 364), .null, .null, .null]) flX11_60 fdX11_10 fpX11 (Or.inr ⟨rfl, rfl, rfl⟩) rfl rfl (by omega) (by decide) (Nat.le_of_ble_eq_true rfl) rfl (by decide) dX11_init_97 ?_
  refine n_aload_n dX11_init_100 rfl rfl ?_
  refine n_new (q := 369) (fs := nb8) nclX11_64 ninX8 nitX8 fdX8_0 fpX8 nfs8 (by omega) (by decide) (by decide) (by decide) dX11_init_101 ?_
  refine n_dup dX11_init_104 rfl ?_
  refine n_aload_n dX11_init_105 rfl rfl ?_
  refine n_get (v := .ref 364) flX11_60 fdX11_10 (by omega) (by decide) ((ncf_tl (by decide)).trans ((ncf_tl (by decide)).trans ncf_hd)) rfl dX11_init_106 ?_
  refine n_aload_n dX11_init_109 rfl rfl ?_
  refine n_get (v := .ref 16) flX11_29 fdX11_5 (by omega) (by decide) ((ncf_tl (by decide)).trans ((ncf_tl (by decide)).trans ncf_hd)) rfl dX11_init_110 ?_
  refine n_aload_n dX11_init_113 rfl rfl ?_
  refine n_get (v := .ref 24) flX11_36 fdX11_6 (by omega) (by decide) ((ncf_tl (by decide)).trans ((ncf_tl (by decide)).trans ncf_hd)) rfl dX11_init_114 ?_
  refine n_callI (mc := 3) (ms := 15) (As := [.ref 364, .ref 16, .ref 24]) (st := [.ref 369, .ref 0]) nokX8 nmlX11_66 dX11_init_117 rfl (by decide) ⟨by decide, by decide⟩ ⟨by decide, by decide⟩ (by omega) rfl (ctX8_369 (fun i a b => hS i (by omega) (by omega)) (nx_sub (o := 369) (h0 := 362) (by decide) (nx_sub (o := 369) (h0 := 0) (by decide) (nx_le (by omega) hx)))) (fun S1 e1 => ?_)
  rw [e1]
  refine n_put1 (v := .ref 369) (fs' := [.ref (oad G 1), .int 0, .ref (oad G 2), .int 0, .int (-1), .ref (oad G 16), .ref (oad G 24), .ref (oad G 32), .ref (oad G 362), .ref (oad G 363), .ref (oad G 364), .ref (oad G 369), .null, .null]) flX11_69 fdX11_11 fpX11 (Or.inr ⟨rfl, rfl, rfl⟩) rfl rfl (by omega) (by decide) (Nat.le_of_ble_eq_true rfl) rfl (by decide) dX11_init_120 ?_
  refine n_aload_n dX11_init_123 rfl rfl ?_
  refine n_new (q := 373) (fs := nb4) nclX11_73 ninX4 nitX4 fdX4_0 fpX4 nfs4 (by omega) (by decide) (by decide) (by decide) dX11_init_124 ?_
  refine n_dup dX11_init_127 rfl ?_
  refine n_aload_n dX11_init_128 rfl rfl ?_
  refine n_get (v := .ref 16) flX11_29 fdX11_5 (by omega) (by decide) ((ncf_tl (by decide)).trans ((ncf_tl (by decide)).trans ncf_hd)) rfl dX11_init_129 ?_
  refine n_aload_n dX11_init_132 rfl rfl ?_
  refine n_get (v := .ref 24) flX11_36 fdX11_6 (by omega) (by decide) ((ncf_tl (by decide)).trans ((ncf_tl (by decide)).trans ncf_hd)) rfl dX11_init_133 ?_
  refine n_callI (mc := 2) (ms := 200) (As := [.ref 16, .ref 24]) (st := [.ref 373, .ref 0]) nokX4 nmlX11_75 dX11_init_136 rfl (by decide) ⟨by decide, by decide⟩ ⟨by decide, by decide⟩ (by omega) rfl (ctX4_373 (fun i a b => hS i (by omega) (by omega)) (nx_sub (o := 373) (h0 := 362) (by decide) (nx_sub (o := 373) (h0 := 0) (by decide) (nx_le (by omega) hx)))) (fun S1 e1 => ?_)
  rw [e1]
  refine n_put1 (v := .ref 373) (fs' := [.ref (oad G 1), .int 0, .ref (oad G 2), .int 0, .int (-1), .ref (oad G 16), .ref (oad G 24), .ref (oad G 32), .ref (oad G 362), .ref (oad G 363), .ref (oad G 364), .ref (oad G 369), .ref (oad G 373), .null]) flX11_76 fdX11_12 fpX11 (Or.inr ⟨rfl, rfl, rfl⟩) rfl rfl (by omega) (by decide) (Nat.le_of_ble_eq_true rfl) rfl (by decide) dX11_init_139 ?_
  refine n_aload_n dX11_init_142 rfl rfl ?_
  refine n_new (q := 376) (fs := nb6) nclX11_80 ninX6 nitX6 fdX6_0 fpX6 nfs6 (by omega) (by decide) (by decide) (by decide) dX11_init_143 ?_
  refine n_dup dX11_init_146 rfl ?_
  refine n_aload_n dX11_init_147 rfl rfl ?_
  refine n_get (v := .ref 16) flX11_29 fdX11_5 (by omega) (by decide) ((ncf_tl (by decide)).trans ((ncf_tl (by decide)).trans ncf_hd)) rfl dX11_init_148 ?_
  refine n_callI (mc := 11) (ms := 1424) (As := [.ref 16]) (st := [.ref 376, .ref 0]) nokX6 nmlX11_82 dX11_init_151 rfl (by decide) ⟨by decide, by decide⟩ ⟨by decide, by decide⟩ (by omega) rfl (ctX6_376 (fun i a b => hS i (by omega) (by omega)) (nx_sub (o := 376) (h0 := 362) (by decide) (nx_sub (o := 376) (h0 := 0) (by decide) (nx_le (by omega) hx)))) (fun S1 e1 => ?_)
  rw [e1]
  refine n_put1 (v := .ref 376) (fs' := [.ref (oad G 1), .int 0, .ref (oad G 2), .int 0, .int (-1), .ref (oad G 16), .ref (oad G 24), .ref (oad G 32), .ref (oad G 362), .ref (oad G 363), .ref (oad G 364), .ref (oad G 369), .ref (oad G 373), .ref (oad G 376)]) flX11_85 fdX11_13 fpX11 (Or.inr ⟨rfl, rfl, rfl⟩) rfl rfl (by omega) (by decide) (Nat.le_of_ble_eq_true rfl) rfl (by decide) dX11_init_154 ?_
  refine n_iconst dX11_init_157 (v := 0) (by decide) ?_
  refine n_istore_n dX11_init_158 rfl (by decide) rfl ?_
  have key : ∀ n, n ≤ 3 → RN G mX11_init (nRm 5 411 6843) (387 + 8 * n) (6708 + 45 * n) 1 (nZ G (1 + 411) (fun S1 => ∃ r, Q r S1) [] 411 6843) 159 [some (.ref 0), some (.int (nI n))] [] ((362, .inl (G.2.2.2.1 4, 3, .inr (.inr (.inr (.inr (nrf G 362 n)))))) :: (0, .inr (11, [.ref (oad G 1), .int 0, .ref (oad G 2), .int 0, .int (-1), .ref (oad G 16), .ref (oad G 24), .ref (oad G 32), .ref (oad G 362), .ref (oad G 363), .ref (oad G 364), .ref (oad G 369), .ref (oad G 373), .ref (oad G 376)])) :: []) S := by
    refine loopUp ?_ (fun n hn ih => ?_)
    · refine n_iload_n dX11_init_159 rfl rfl ?_
      refine n_iconst dX11_init_160 (v := 3) (by decide) ?_
      refine n_icmp_ge dX11_init_161 (tgt := 183) (by decide) (fun _ => ?_) (fun c => absurd (show (3 : Int32) ≤ nI 3 by decide) c)
      have e1 : (.inl (G.2.2.2.1 4, 3, .inr (.inr (.inr (.inr (nrf G 362 3))))) : va_E) = oce G S 362 := by
        rw [oce_R ov_c362 ov_n362, nrf_full (by rw [ov_n362]; exact Nat.le_refl _)]
      refine n_done (xs' := []) (fun i hi => ?_) ?_
      · by_cases h : i = 362
        · subst h
          rw [ncf_hd, e1, hx 362 (by decide)]
        · rw [ncf_tl h]
          exact nx_end (n := 412) hfin hx i hi
      refine n_aload_n dX11_init_183 rfl rfl ?_
      refine n_callV (h := 4) (As := []) (st := []) (by decide) okX11_begin mlX11_89 ov4_c0 (by decide) rfl dX11_init_184 rfl (by decide) ⟨by decide, by decide⟩ ⟨by decide, by decide⟩ rfl hE (fun r S1 q => ?_)
      exact n_ret rfl dX11_init_187 (by decide) ⟨r, q⟩ (fun i hi => rfl)
    · refine n_iload_n dX11_init_159 rfl rfl ?_
      refine n_iconst dX11_init_160 (v := 3) (by decide) ?_
      refine n_icmp_ge dX11_init_161 (tgt := 183) (by decide) (fun c => absurd ((nI_le_i (a := 3) (by decide) (by omega)).mp c) (by omega)) (fun _ => ?_)
      refine n_aload_n dX11_init_164 rfl rfl ?_
      refine n_get (v := .ref 362) flX11_47 fdX11_8 (by omega) (by decide) ((ncf_tl (by decide)).trans ncf_hd) rfl dX11_init_165 ?_
      refine n_iload_n dX11_init_168 rfl rfl ?_
      have hst := ovSt_c (388 + 8 * n) (n_st362 n hn)
      refine n_new (q := 388 + 8 * n) (fs := nb9) nclX11_33 ninX9 nitX9 fdX9_0 fpX9 nfs9 (by omega) hst.2.1 (by show 387 + 8 * n + 1 ≤ 411; omega) (by show 6708 + 45 * n + 10 ≤ 6843; omega) dX11_init_169 ?_
      refine n_dup dX11_init_172 rfl ?_
      have hxx : ∀ i, 388 + 8 * n ≤ i → ncf G S ((362, .inl (G.2.2.2.1 4, 3, .inr (.inr (.inr (.inr (nrf G 362 n)))))) :: (0, .inr (11, [.ref (oad G 1), .int 0, .ref (oad G 2), .int 0, .int (-1), .ref (oad G 16), .ref (oad G 24), .ref (oad G 32), .ref (oad G 362), .ref (oad G 363), .ref (oad G 364), .ref (oad G 369), .ref (oad G 373), .ref (oad G 376)])) :: []) i = oce G S i := nx_sub (by omega) (nx_sub (by omega) (nx_le (by omega) hx))
      refine n_callN (h := 1) (mc := 7) (ms := 35) (As := []) (st := [.ref (388 + 8 * n), .int (nI n), .ref 362]) nokX9 (fun s h => h.2.2.2.2.1) dX11_init_173 rfl (Nat.le_of_ble_eq_true rfl) ⟨by decide, by decide⟩ ⟨by show 387 + 8 * n + 1 + 7 ≤ 411; omega, by show 6708 + 45 * n + 10 + 35 ≤ 6843; omega⟩ (by omega) rfl (by
        have := ctX9 (G := G) (S := S) hst (fun i a b => hS i (by omega) (by omega)) hxx
        rw [show 388 + 8 * n + 1 = 1 + (387 + 8 * n + 1) by omega] at this
        exact this) (fun S1 e1 => ?_)
      subst e1
      refine n_aast (fs := (List.range (ofn 9)).map (ofv G S1 (388 + 8 * n) 9)) (by omega) (by decide) (by omega) hst.2.1 ncf_hd ((hxx _ (Nat.le_refl _)).trans (oce_obj hst.1 (by decide))) (vp_in_nI hn (by decide)) (xs' := (362, .inl (G.2.2.2.1 4, 3, .inr (.inr (.inr (.inr (nrf G 362 (n + 1))))))) :: (0, .inr (11, [.ref (oad G 1), .int 0, .ref (oad G 2), .int 0, .int (-1), .ref (oad G 16), .ref (oad G 24), .ref (oad G 32), .ref (oad G 362), .ref (oad G 363), .ref (oad G 364), .ref (oad G 369), .ref (oad G 373), .ref (oad G 376)])) :: []) (by rw [ncf_hd, nI_ix (by omega), ← nrf_up]; rfl) (fun i hi => by rw [ncf_tl hi, ncf_tl hi]) dX11_init_176 ?_
      refine n_iinc dX11_init_177 rfl (v := nI (n + 1)) (by rw [nI_succ]; rfl) (by decide) rfl ?_
      refine n_goto dX11_init_180 (tgt := 159) (by decide) ?_
      rw [show 387 + 8 * (n + 1) = 387 + 8 * n + 1 + 7 by omega, show 6708 + 45 * (n + 1) = 6708 + 45 * n + 10 + 35 by omega] at ih
      exact ih
  have k0 := key 0 (by decide)
  simp only [Nat.mul_zero, Nat.add_zero] at k0
  exact k0
