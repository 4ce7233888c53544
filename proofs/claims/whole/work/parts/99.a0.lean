/-! calls of constructors, their end -/
section
variable {G : ovG} {k : ovM} {R : Room} {u slots n0 : Nat} {Z : List Frame → Array Value → State → State → Prop} {pc : Nat} {ls : List (Option Value)} {st : List Value} {S : ovS} {xs : List (Nat × va_E)}
theorem n_blind {av : List Value} {n : Nat} : FrameBlind (va_Pc av (fun U => (nWP G S xs n U.heap ∧ U.heap.size = G.2.1 + n ∧ nSx U) ∧ va_K G.2.2.1 vwCl (otys G) U ∧ oSx G U)) := by
  rintro a U g mk ⟨h1, ⟨h2, h2b, h2c⟩, h3, h4⟩
  exact ⟨h1, ⟨h2, h2b, h2c.warm (U := U.calling g mk a) (State.WarmedH.refl U)⟩, va_K.moved (u := U) (U := U.calling g mk a) (Vm.Alike.refl U.vm) h3, h4.to (U := U.calling g mk a) va_S.rf rfl (State.WarmedH.refl U)⟩
theorem n_ran {p : Program} {l : Launch} {e : Env} {s : State} {m : MethodId} {args : Array Value} {below : List Frame} {meth : Method} {c : Code} {H : Heap} {locs : List Loc} {cells mc ms n : Nat} {Z1 : State → Prop} {Q : ovS → Prop} {xs' : List (Nat × va_E)} {la : Array Slot} {st0 rest : List Value} {a : Array Value}
    (hr : va_Run p l e R s m args below meth c H locs cells slots mc ms (F0 m pc la st0) rest (nQ G n Q xs' a) (oA G)) (hS : va_S (oA G) s.heap H locs)
    (kk : ∀ (S1 : ovS) (H1 : Heap) (locs1 : List Loc), Q S1 → nWP G S1 xs' n H1 → va_S (oA G) s.heap H1 locs1 → W p l e R s m args below meth c H1 locs1 (cells + mc) (slots + ms) Z1 (F0 m (pc + 3) la rest)) : W p l e R s m args below meth c H locs cells slots Z1 (F0 m pc la st0) := by
  intro T hT X
  obtain ⟨v, st₀, t, T', L, h0, X', hL, e1, e2, ⟨⟨hv, S1, hq, hp⟩, hz, hk⟩, stp⟩ := hr T hT X
  cases hv
  rw [h0] at hz hk
  obtain ⟨t2, a1, b1⟩ := kk S1 T'.heap (locs ++ L) hq (by rw [e1]; exact hp)
    ⟨Nat.le_trans hS.1 (by rw [e1]; exact hz), fun q h1 h2 => by rw [e1, hk q (Nat.lt_of_lt_of_le h1 hS.1) h2]; exact hS.2.1 q h1 h2, fun q hq => by
      rcases List.mem_append.mp hq with h | h
      · exact hS.2.2 q h
      · exact hL q h⟩ T' rfl X'
  exact ⟨t2, stp t2 a1, b1⟩
theorem n_callI {y : ovM} {nn h mc ms o index : Nat} {As stk : List Value} {Q : ovS → Prop} {xs' : List (Nat × va_E)} (hok : nOk y nn) (hl : Cond.methodLink k.1.cls index y.1 ∈ tblG) (hd : decode k.2.1 pc = .ok (.invokespecial index, 3)) (hn : As.length = nn) (hs : (st.map fun v => v.category).sum ≤ 8) (hR : h + 1 ≤ R.frames ∧ 8 + (y.2.2.1 + 11) + 64 * h ≤ R.locals) (hf : u + mc ≤ R.cells ∧ slots + ms ≤ R.slots) (h0 : 0 < n0 + u) (hst : As.reverse ++ .ref o :: st = stk)
    (hE : EN G y h mc ms (.ref o :: As) (n0 + u) S xs Q xs') (kk : ∀ S1 : ovS, Q S1 → RN G k R (u + mc) (slots + ms) n0 Z (pc + 3) ls st xs' S1) : RN G k R u slots n0 Z pc ls stk xs S := by
  intro p e s m args below meth c C H locs la hP hS hl2
  subst hst
  obtain ⟨hco, him, hit, hh, hnm, hre⟩ := hok
  obtain ⟨yn, yc, yl, yr⟩ := y
  cases hre
  rw [o_stack]
  refine W_sz (fun hz => ?_)
  have hz1 : H.size = G.2.1 + (n0 + u) := by have := nWP_lt hP h0; rw [C.2.2.1] at hz; omega
  refine n_ran (G := G) (Q := Q) (rest := st.map (otr G)) (va_runI (As := As.map (otr G)) (n := nn) ⟨C.1.1, C.1.2.1, C.1.2.2.2.1, C.1.2.2.2.2.1, C.1.2.2.2.2.2.1⟩ hE (cwI nn C.1.2.2.2.2.2.1 (tblG_in (o_code hco)) rfl rfl rfl (C.1.2.2.2.2.2.1 _ hit) (C.1.2.2.2.2.2.1 _ hl) (C.1.2.2.2.2.2.1 _ him) hnm hh hR) ⟨n_blind, fun U hU hW => ⟨rfl, ⟨by rw [hU]; exact hP, by rw [hU]; exact hz1, C.2.1.warm hW⟩, va_K.moved hW.alike C.1.2.2.2.2.2.2.1, C.1.2.2.2.2.2.2.2.2.to hS hU hW⟩⟩ rfl (by rw [List.length_map]; exact hn) hl2.1 rfl (lv_room (by rw [o_sum]; exact hs)) hd hf) hS (fun S1 H1 locs1 hq hp1 hs1 => ?_)
  rw [Nat.add_assoc] at hp1
  exact kk S1 hq p e s m args below meth c C H1 locs1 la hp1 hs1 hl2
theorem n_callN {y : ovM} {nn h mc ms o index : Nat} {As stk : List Value} {Q : ovS → Prop} {xs' : List (Nat × va_E)} (hok : nOk y nn) (hl : ∀ s : State, nSx s → va_Nw (.methodLinkNest k.1.cls index y.1 "OvenNames") s) (hd : decode k.2.1 pc = .ok (.invokespecial index, 3)) (hn : As.length = nn) (hs : (st.map fun v => v.category).sum ≤ 8) (hR : h + 1 ≤ R.frames ∧ 8 + (y.2.2.1 + 11) + 64 * h ≤ R.locals) (hf : u + mc ≤ R.cells ∧ slots + ms ≤ R.slots) (h0 : 0 < n0 + u) (hst : As.reverse ++ .ref o :: st = stk)
    (hE : EN G y h mc ms (.ref o :: As) (n0 + u) S xs Q xs') (kk : ∀ S1 : ovS, Q S1 → RN G k R (u + mc) (slots + ms) n0 Z (pc + 3) ls st xs' S1) : RN G k R u slots n0 Z pc ls stk xs S := by
  intro p e s m args below meth c C H locs la hP hS hl2
  subst hst
  obtain ⟨hco, him, hit, hh, hnm, hre⟩ := hok
  obtain ⟨yn, yc, yl, yr⟩ := y
  cases hre
  rw [o_stack]
  refine W_sz (fun hz => ?_)
  have hz1 : H.size = G.2.1 + (n0 + u) := by have := nWP_lt hP h0; rw [C.2.2.1] at hz; omega
  refine n_ran (G := G) (Q := Q) (rest := st.map (otr G)) (va_runIN (As := As.map (otr G)) (n := nn) ⟨C.1.1, C.1.2.1, C.1.2.2.2.1, C.1.2.2.2.2.1, C.1.2.2.2.2.2.1⟩ hE ⟨va_cnB nn C.1.2.2.2.2.2.1 (tblG_in (o_code hco)) rfl rfl rfl (hl s C.2.1) (C.1.2.2.2.2.2.1 _ hit) hh hR, hnm, C.1.2.2.2.2.2.1 _ him⟩ ⟨n_blind, fun U hU hW => ⟨rfl, ⟨by rw [hU]; exact hP, by rw [hU]; exact hz1, C.2.1.warm hW⟩, va_K.moved hW.alike C.1.2.2.2.2.2.2.1, C.1.2.2.2.2.2.2.2.2.to hS hU hW⟩⟩ rfl (by rw [List.length_map]; exact hn) hl2.1 rfl (lv_room (by rw [o_sum]; exact hs)) hd hf) hS (fun S1 H1 locs1 hq hp1 hs1 => ?_)
  rw [Nat.add_assoc] at hp1
  exact kk S1 hq p e s m args below meth c C H1 locs1 la hp1 hs1 hl2
/-- the end: the head of the row is as it shall be -/
theorem n_ret {Q : ovS → Prop} {xs' : List (Nat × va_E)} {n : Nat} (hr : k.2.2.2 = none) (hd : decode k.2.1 pc = .ok (.return_, 1)) (hn : n0 + u = n) (hq : Q S) (hx : ∀ i, i < n → ncf G S xs i = ncf G S xs' i) : RN G k R u slots n0 (nZ G n Q xs' u slots) pc ls [] xs S := by
  intro p e s m args below meth c C H locs la hP hS hl
  subst hn
  have hL := C.1.2.2.2.2.2.2.2.1
  have hP2 : nWP G S xs' (n0 + u) H := by
    have h := hP
    unfold nWP at h ⊢
    rw [nws_congr hx] at h
    exact h
  exact W.vret C.1.1 C.1.2.1 (C.1.2.2.1.trans hr) (fun t ht hW => ⟨⟨rfl, S, hq, by rw [ht]; exact hP2⟩, hS.F ht⟩) hS.2.2 hd hL
/-- all are made -/
theorem n_full (h : n0 + u = ovNN) (hx : ∀ i, i < ovNN → ncf G S xs i = oce G S i) (kk : RW G k R u slots Z pc ls st S) : RN G k R u slots n0 Z pc ls st xs S := by
  intro p e s m args below meth c C H locs la hP hS hl
  refine kk p e s m args below meth c C.1 H locs la ?_ hS hl
  have h2 := hP
  unfold nWP at h2
  rw [h, nws_congr (xs' := []) (S' := S) hx] at h2
  exact h2
theorem n_retW {Q : ovS → Prop} {mc ms : Nat} (hr : k.2.2.2 = none) (hd : decode k.2.1 pc = .ok (.return_, 1)) (hq : Q S) : RW G k R mc ms (nZ G ovNN Q [] mc ms) pc ls [] S := by
  intro p e s m args below meth c C0 H locs la hP hS hl
  have hL := C0.2.2.2.2.2.2.2.1
  exact W.vret C0.1 C0.2.1 (C0.2.2.1.trans hr) (fun t ht hW => ⟨⟨rfl, S, hq, by rw [ht]; exact hP⟩, hS.F ht⟩) hS.2.2 hd hL
end
