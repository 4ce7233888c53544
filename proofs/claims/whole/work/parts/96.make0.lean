/-! ===== the making of both systems: a world of the first n objects, some of them under way ===== -/
def ncf (G : ovG) (S : ovS) : List (Nat × va_E) → Nat → va_E
  | [], k => oce G S k
  | (j, e) :: xs, k => if k = j then e else ncf G S xs k
def nws (G : ovG) (S : ovS) (xs : List (Nat × va_E)) (n : Nat) : va_W := (List.range n).map (fun k => (G.2.1 + k, ncf G S xs k))
def nWP (G : ovG) (S : ovS) (xs : List (Nat × va_E)) (n : Nat) (H : Heap) : Prop := va_P G.2.2.1 vwCl (nws G S xs n) H
def nSx (U : State) : Prop := va_AO "OvenNames$State" U ∧ va_Nw (.methodLinkNest RX5 11 yX10_init "OvenNames") U ∧ va_Nw (.methodLinkNest RX10 23 yX1_init "OvenNames") U ∧ va_Nw (.methodLinkNest RX11 28 yX10_init "OvenNames") U ∧ va_Nw (.methodLinkNest RX11 35 yX9_init "OvenNames") U ∧ va_Nw (.methodLinkNest RX3 15 yX9_init "OvenNames") U
theorem nSx.warm {s U : State} (h : nSx s) (hW : s.WarmedH U.vm) : nSx U := by
  obtain ⟨h0, h1, h2, h3, h4, h5⟩ := h
  exact ⟨h0.moved hW.alike, h1.warmM hW, h2.warmM hW, h3.warmM hW, h4.warmM hW, h5.warmM hW⟩
theorem nws_at {G : ovG} {S : ovS} {xs : List (Nat × va_E)} {n k : Nat} (h : k < n) : (nws G S xs n)[k]? = some (G.2.1 + k, ncf G S xs k) := by
  rw [nws, List.getElem?_map, List.getElem?_range h]
  rfl
theorem nws_len {G : ovG} {S : ovS} {xs : List (Nat × va_E)} {n : Nat} : (nws G S xs n).length = n := by rw [nws, List.length_map, List.length_range]
theorem nws_key {G : ovG} {S : ovS} {xs : List (Nat × va_E)} {n k : Nat} {q : Nat × va_E} (hq : (nws G S xs n)[k]? = some q) : k < n ∧ q = (G.2.1 + k, ncf G S xs k) := by
  have hl : k < n := by
    have := (List.getElem?_eq_some_iff.mp hq).1
    rw [nws_len] at this
    exact this
  rw [nws_at hl] at hq
  exact ⟨hl, (Option.some.inj hq).symm⟩
theorem nws_D {G : ovG} {S : ovS} {xs : List (Nat × va_E)} {n : Nat} : va_D (oA G) (nws G S xs n) := by
  refine ⟨fun i j p q hi hj hpq => ?_, fun k q hk => ?_⟩
  · have h1 := (nws_key hi).2
    have h2 := (nws_key hj).2
    subst h1; subst h2
    have : G.2.1 + i = G.2.1 + j := hpq
    omega
  · have h1 := (nws_key hk).2
    subst h1
    show G.2.1 ≤ G.2.1 + k
    omega
theorem nws_congr {G : ovG} {S S' : ovS} {xs xs' : List (Nat × va_E)} {n : Nat} (h : ∀ k, k < n → ncf G S xs k = ncf G S' xs' k) : nws G S xs n = nws G S' xs' n := by
  apply List.ext_getElem?
  intro k
  by_cases hk : k < n
  · rw [nws_at hk, nws_at hk, h k hk]
  · rw [List.getElem?_eq_none (by rw [nws_len]; omega), List.getElem?_eq_none (by rw [nws_len]; omega)]
theorem nws_set {G : ovG} {S S' : ovS} {xs xs' : List (Nat × va_E)} {n o : Nat} {e : va_E} (ho : o < n) (he : ncf G S' xs' o = e) (h : ∀ k, k ≠ o → ncf G S' xs' k = ncf G S xs k) : (nws G S xs n).set o (G.2.1 + o, e) = nws G S' xs' n := by
  apply List.ext_getElem?
  intro k
  by_cases hk : k = o
  · subst hk
    rw [List.getElem?_set_self (by rw [nws_len]; exact ho), nws_at ho, he]
  · rw [List.getElem?_set_ne (Ne.symm hk)]
    by_cases hn : k < n
    · rw [nws_at hn, nws_at hn, h k hk]
    · rw [List.getElem?_eq_none (by rw [nws_len]; omega), List.getElem?_eq_none (by rw [nws_len]; omega)]
theorem nws_push {G : ovG} {S : ovS} {xs xs' : List (Nat × va_E)} {n : Nat} {e : va_E} (he : ncf G S xs' n = e) (h : ∀ k, k < n → ncf G S xs' k = ncf G S xs k) : nws G S xs n ++ [(G.2.1 + n, e)] = nws G S xs' (n + 1) := by
  apply List.ext_getElem?
  intro k
  by_cases hk : k < n
  · rw [List.getElem?_append_left (by rw [nws_len]; exact hk), nws_at hk, nws_at (by omega), h k hk]
  · rw [List.getElem?_append_right (by rw [nws_len]; omega), nws_len]
    by_cases e2 : k = n
    · subst e2
      rw [Nat.sub_self, nws_at (by omega), he]
      rfl
    · rw [List.getElem?_eq_none (by rw [List.length_singleton]; omega), List.getElem?_eq_none (by rw [nws_len]; omega)]
def nCx (G : ovG) (k : ovM) (n0 : Nat) (p : Program) (s : State) (m : MethodId) (args : Array Value) (meth : Method) (c : Code) : Prop := oCx G k p s m args meth c ∧ nSx s ∧ s.heap.size = G.2.1 + n0 ∧ meth.name = k.1.name
/-- the machine, in a method k that began with n0 objects and made u since -/
def RN (G : ovG) (k : ovM) (R : Room) (u slots n0 : Nat) (Z : List Frame → Array Value → State → State → Prop) (pc : Nat) (ls : List (Option Value)) (st : List Value) (xs : List (Nat × va_E)) (S : ovS) : Prop :=
  ∀ (p : Program) (e : Env) (s : State) (m : MethodId) (args : Array Value) (below : List Frame) (meth : Method) (c : Code), nCx G k n0 p s m args meth c → ∀ (H : Heap) (locs : List Loc) (la : Array Slot), nWP G S xs (n0 + u) H → va_S (oA G) s.heap H locs → olv G la k.2.2.1 ls →
    W p G.1 e R s m args below meth c H locs u slots (Z below args s) (F0 m pc la (st.map (otr G)))
def nRm (h mc ms : Nat) : Room := { frames := h, cells := mc, slots := ms, locals := 64 * h }
def nQ (G : ovG) (n : Nat) (Q : ovS → Prop) (xs : List (Nat × va_E)) : Array Value → State → Outcome → State → Prop := fun _ st oc t => (oc = .returned none ∧ ∃ S1, Q S1 ∧ nWP G S1 xs n t.heap) ∧ va_F (oA G) st t
def nZ (G : ovG) (n : Nat) (Q : ovS → Prop) (xs : List (Nat × va_E)) (mc ms : Nat) : List Frame → Array Value → State → State → Prop := fun below args s => MQ below (nQ G n Q xs) args s mc ms (oA G)
/-- a constructor's contract -/
def EN (G : ovG) (k : ovM) (h mc ms : Nat) (av : List Value) (n0 : Nat) (S : ovS) (xs : List (Nat × va_E)) (Q : ovS → Prop) (xs' : List (Nat × va_E)) : Prop :=
  Met G.1 k.1 (owk k) (nRm h mc ms) (va_Pc (av.map (otr G)) (fun U => (nWP G S xs n0 U.heap ∧ U.heap.size = G.2.1 + n0 ∧ nSx U) ∧ va_K G.2.2.1 vwCl (otys G) U ∧ oSx G U)) (nQ G (n0 + mc) Q xs') mc ms (oA G)
theorem EN.of {G : ovG} {y : MethodName} {cc : ByteArray} {n h mc ms n0 : Nat} {av : List Value} {S : ovS} {xs xs' : List (Nat × va_E)} {Q : ovS → Prop} (hy : plainName y.cls = true) (hl : (lg_sl (av.map (otr G))).length ≤ n) (ls : List (Option Value)) (hls : ∃ m, oarg av ++ List.replicate m none = ls)
    (body : RN G (y, cc, n, none) (nRm h mc ms) 0 0 n0 (nZ G (n0 + mc) Q xs' mc ms) 0 ls [] xs S) : EN G (y, cc, n, none) h mc ms av n0 S xs Q xs' := by
  refine Met.ofW (cc := cc) (maxL := n) (ret := none) hy rfl ?_
  intro p e s m args below meth c s₁ B hml hv
  obtain ⟨rfl, ⟨hP, hz, hN⟩, hK, hX⟩ := hv
  have hl2 := lv_entry (av.map (otr G)) (n := n) hl
  rw [lg_entry_eq]
  have hts := atoms_spec (ws := owk (y, cc, n, none)) B.pre
  refine body p e s m _ below meth c ⟨⟨B.exec, B.bytes, B.returns, hml, findClass_of_methodNamed B.named, fun w hw => hts w (List.mem_cons_of_mem _ hw), hK, B.notSynchronized, hX⟩, hN, hz, (name_of_methodNamed B.named B.method).1⟩ s.heap [] _ hP va_S.rf ?_
  obtain ⟨m2, rfl⟩ := hls
  show lv_has _ n _
  rw [oll_app, oll_none, List.append_nil, oll_arg]
  exact hl2
/-- how big the heap can be -/
theorem W_sz {p : Program} {l : Launch} {e : Env} {R : Room} {s : State} {m : MethodId} {args : Array Value} {below : List Frame} {meth : Method} {c : Code} {H : Heap} {locs : List Loc} {cells slots : Nat} {Q : State → Prop} {g : JFrame} (kk : H.size ≤ s.heap.size + cells → W p l e R s m args below meth c H locs cells slots Q g) : W p l e R s m args below meth c H locs cells slots Q g := by
  intro T hT X
  refine kk ?_ T hT X
  have h := X.same.2.2.1
  rw [← hT]
  exact h
section
variable {G : ovG} {k : ovM} {R : Room} {u slots n0 : Nat} {Z : List Frame → Array Value → State → State → Prop} {pc : Nat} {ls : List (Option Value)} {st : List Value} {S : ovS} {xs : List (Nat × va_E)}
theorem n_iconst {n : Int} {v : Int32} (hd : decode k.2.1 pc = .ok (.iconst n, 1)) (hv : Int32.ofInt n = v) (kk : RN G k R u slots n0 Z (pc + 1) ls (.int v :: st) xs S) : RN G k R u slots n0 Z pc ls st xs S := by
  intro p e s m args below meth c C H locs la hP hS hl
  exact lv_iconst C.1.1 C.1.2.1 hd hv (kk p e s m args below meth c C H locs la hP hS hl)
theorem n_bipush {n : Int} {v : Int32} (hd : decode k.2.1 pc = .ok (.bipush n, 2)) (hv : (Int8.ofInt n).toInt32 = v) (kk : RN G k R u slots n0 Z (pc + 2) ls (.int v :: st) xs S) : RN G k R u slots n0 Z pc ls st xs S := by
  intro p e s m args below meth c C H locs la hP hS hl
  exact lv_bipush C.1.1 C.1.2.1 hd hv (kk p e s m args below meth c C H locs la hP hS hl)
theorem n_sipush {n : Int} {v : Int32} (hd : decode k.2.1 pc = .ok (.sipush n, 3)) (hv : (Int16.ofInt n).toInt32 = v) (kk : RN G k R u slots n0 Z (pc + 3) ls (.int v :: st) xs S) : RN G k R u slots n0 Z pc ls st xs S := by
  intro p e s m args below meth c C H locs la hP hS hl
  exact lv_sipush C.1.1 C.1.2.1 hd hv (kk p e s m args below meth c C H locs la hP hS hl)
theorem n_iload_n {q : Fin 4} {i : Nat} {x : Int32} (hd : decode k.2.1 pc = .ok (.iload_n q, 1)) (hi : (q : Nat) = i) (hx : ls[i]? = some (some (.int x))) (kk : RN G k R u slots n0 Z (pc + 1) ls (.int x :: st) xs S) : RN G k R u slots n0 Z pc ls st xs S := by
  intro p e s m args below meth c C H locs la hP hS hl
  exact lv_iload_n C.1.1 C.1.2.1 hd hi (olv_at hl hx) (kk p e s m args below meth c C H locs la hP hS hl)
end
