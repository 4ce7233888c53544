/-! rows of the making that touch the heap -/
theorem nWP_lt {G : ovG} {S : ovS} {xs : List (Nat × va_E)} {n : Nat} {H : Heap} (h : nWP G S xs n H) (hn : 0 < n) : G.2.1 + n ≤ H.size := by
  have := (h (n - 1) _ (nws_at (by omega))).lt
  show G.2.1 + n ≤ H.size
  have h2 : G.2.1 + (n - 1) < H.size := this
  omega
theorem va_RA_inj {U : State} {cA cB : ClassId} {ty : FieldType} (h1 : va_RA U cA ty) (h2 : va_RA U cB ty) : cA = cB := by
  cases ty with
  | object C =>
    obtain ⟨_, _, _, _, _, e1⟩ := h1
    obtain ⟨_, _, _, _, _, e2⟩ := h2
    exact Option.some.inj (e1.symm.trans e2)
  | _ => exact Option.some.inj (Eq.trans (Eq.symm h1) h2)
/-- a new cell's address -/
theorem n_addr {G : ovG} {S : ovS} {xs : List (Nat × va_E)} {n q : Nat} {e : va_E} {H : Heap} (hP : va_P G.2.2.1 vwCl (nws G S xs n ++ [(q, e)]) H) (hD : va_D (oA G) (nws G S xs n ++ [(q, e)])) (hz : H.size ≤ G.2.1 + n + 1) : q = G.2.1 + n := by
  have hl : (nws G S xs n ++ [(q, e)])[n]? = some (q, e) := by
    rw [List.getElem?_append_right (by rw [nws_len]; exact Nat.le_refl _), nws_len, Nat.sub_self]
    rfl
  have h1 : q < H.size := (hP n _ hl).lt
  have h2 : G.2.1 ≤ q := hD.2 n _ hl
  rcases Nat.lt_or_ge (q - G.2.1) n with h | h
  · exfalso
    have h3 : (nws G S xs n ++ [(q, e)])[q - G.2.1]? = some (G.2.1 + (q - G.2.1), ncf G S xs (q - G.2.1)) := by
      rw [List.getElem?_append_left (by rw [nws_len]; exact h), nws_at h]
    have := hD.1 _ _ _ _ h3 hl (by show G.2.1 + (q - G.2.1) = q; omega)
    omega
  · omega
section
variable {G : ovG} {k : ovM} {R : Room} {u slots n0 : Nat} {Z : List Frame → Array Value → State → State → Prop} {pc : Nat} {ls : List (Option Value)} {st : List Value} {S : ovS} {xs : List (Nat × va_E)}
theorem n_newa {ay : ArrayType} {ty : FieldType} {cT : ClassId} {n : Int32} {N q t0 : Nat} {a0 : vp_A} (harr : Cond.arrayClass ty ∈ tblG) (hty : newarray.typeOf ay = ty) (ht : (otys G)[t0]? = some (cT, ty)) (ht5 : t0 < 5) (hq : n0 + u = q) (hqn : q < ovNN) (hn : ¬ n < 0) (hN : n.toNatClampNeg = N) (hb : N * componentBytes ty ≤ 536870912) (hc : u + 1 ≤ R.cells) (hs : slots + N ≤ R.slots) (ha : ∀ cA : ClassId, vp_cell cA a0 = arrV cA N (fun _ => defaultValue ty)) (hx : ncf G S xs q = .inl (cT, a0)) (hd : decode k.2.1 pc = .ok (.newarray ay, 2))
    (kk : RN G k R (u + 1) (slots + N) n0 Z (pc + 2) ls (.ref q :: st) xs S) : RN G k R u slots n0 Z pc ls (.int n :: st) xs S := by
  intro p e s m args below meth c C H locs la hP hS hl
  subst hty
  refine va_newa C.1.1 C.1.2.1 (C.1.2.2.2.2.2.1 _ harr) rfl C.1.2.2.2.2.2.2.1 hP nws_D hS (fun x h => by show G.2.1 ≤ x; have := C.2.2.1; omega) ha hn hN hb hc hs hd (fun q1 cA H1 hK1 hP1 hD1 hS1 => W_sz (fun hz => ?_))
  rw [C.2.2.1] at hz
  have e1 := n_addr hP1 hD1 (by omega)
  subst e1
  have e2 : cA = cT := va_RA_inj (hK1.2 5 (cA, newarray.typeOf ay) rfl).2 (C.1.2.2.2.2.2.2.1.2 t0 _ ht).2
  subst e2
  rw [nws_push (xs' := xs) (by rw [hq]; exact hx) (fun _ _ => rfl)] at hP1
  have := kk p e s m args below meth c C H1 locs la hP1 hS1 hl
  rw [List.map_cons, otr, oad_in hqn, ← hq] at this
  exact this
theorem n_newI {n : Int32} {N q : Nat} (hq : n0 + u = q) (ho : ocl q = 14) (hN : oln q = N) (hS0 : S.1 q = fun _ => 0) (hx : ncf G S xs q = oce G S q) (hn : ¬ n < 0) (hn2 : n.toNatClampNeg = N) (hb : N * 4 ≤ 536870912) (hc : u + 1 ≤ R.cells) (hs : slots + N ≤ R.slots) (hd : decode k.2.1 pc = .ok (.newarray .int, 2))
    (kk : RN G k R (u + 1) (slots + N) n0 Z (pc + 2) ls (.ref q :: st) xs S) : RN G k R u slots n0 Z pc ls (.int n :: st) xs S :=
  n_newa (ty := .int) (t0 := 1) nac_int rfl rfl (by decide) hq (ocl_lt ho (by decide)) hn hn2 hb hc hs (a0 := (N, .inl (S.1 q))) (fun cA => by rw [hS0]; rfl) (hx.trans (oce_I ho hN)) hd kk
theorem n_newZ {n : Int32} {N q : Nat} (hq : n0 + u = q) (ho : ocl q = 16) (hN : oln q = N) (hS0 : S.1 q = fun _ => 0) (hx : ncf G S xs q = oce G S q) (hn : ¬ n < 0) (hn2 : n.toNatClampNeg = N) (hb : N * 1 ≤ 536870912) (hc : u + 1 ≤ R.cells) (hs : slots + N ≤ R.slots) (hd : decode k.2.1 pc = .ok (.newarray .boolean, 2))
    (kk : RN G k R (u + 1) (slots + N) n0 Z (pc + 2) ls (.ref q :: st) xs S) : RN G k R u slots n0 Z pc ls (.int n :: st) xs S :=
  n_newa (ty := .boolean) (t0 := 3) nac_boolean rfl rfl (by decide) hq (ocl_lt ho (by decide)) hn hn2 hb hc hs (a0 := (N, .inl (S.1 q))) (fun cA => by rw [hS0]; rfl) (hx.trans (oce_Z ho hN)) hd kk
theorem n_newB {n : Int32} {N q : Nat} (hq : n0 + u = q) (ho : ocl q = 13) (hN : oln q = N) (hS0 : S.1 q = fun _ => 0) (hx : ncf G S xs q = oce G S q) (hn : ¬ n < 0) (hn2 : n.toNatClampNeg = N) (hb : N * 1 ≤ 536870912) (hc : u + 1 ≤ R.cells) (hs : slots + N ≤ R.slots) (hd : decode k.2.1 pc = .ok (.newarray .byte, 2))
    (kk : RN G k R (u + 1) (slots + N) n0 Z (pc + 2) ls (.ref q :: st) xs S) : RN G k R u slots n0 Z pc ls (.int n :: st) xs S :=
  n_newa (ty := .byte) (t0 := 0) nac_byte rfl rfl (by decide) hq (ocl_lt ho (by decide)) hn hn2 hb hc hs (a0 := (N, .inl (S.1 q))) (fun cA => by rw [hS0]; rfl) (hx.trans (oce_B ho hN)) hd kk
theorem n_newJ {n : Int32} {N q : Nat} (hq : n0 + u = q) (ho : ocl q = 15) (hN : oln q = N) (hS0 : S.2 q = fun _ => 0) (hx : ncf G S xs q = oce G S q) (hn : ¬ n < 0) (hn2 : n.toNatClampNeg = N) (hb : N * 8 ≤ 536870912) (hc : u + 1 ≤ R.cells) (hs : slots + N ≤ R.slots) (hd : decode k.2.1 pc = .ok (.newarray .long, 2))
    (kk : RN G k R (u + 1) (slots + N) n0 Z (pc + 2) ls (.ref q :: st) xs S) : RN G k R u slots n0 Z pc ls (.int n :: st) xs S :=
  n_newa (ty := .long) (t0 := 2) nac_long rfl rfl (by decide) hq (ocl_lt ho (by decide)) hn hn2 hb hc hs (a0 := (N, .inr (.inl (S.2 q)))) (fun cA => by rw [hS0]; rfl) (hx.trans (oce_J ho hN)) hd kk
/-- a row of States -/
theorem n_newq {index q N : Nat} {n : Int32} (hw : Cond.classLink k.1.cls index RX9 ∈ tblG) (hq : n0 + u = q) (hqn : q < ovNN) (hn : ¬ n < 0) (hN : n.toNatClampNeg = N) (hb : N * 4 ≤ 536870912) (hc : u + 1 ≤ R.cells) (hs : slots + N ≤ R.slots) (hd : decode k.2.1 pc = .ok (.anewarray index, 3))
    (kk : RN G k R (u + 1) (slots + N) n0 Z (pc + 3) ls (.ref q :: st) ((q, .inl (G.2.2.2.1 4, N, .inr (.inr (.inr (.inr (fun _ => none)))))) :: xs) S) : RN G k R u slots n0 Z pc ls (.int n :: st) xs S := by
  intro p e s m args below meth c C H locs la hP hS hl
  refine va_newq C.1.1 C.1.2.1 C.1.2.2.2.2.1 (C.1.2.2.2.2.2.1 _ hw) C.2.1.1 C.1.2.2.2.2.2.2.1 hP nws_D hS (fun x h => by show G.2.1 ≤ x; have := C.2.2.1; omega) hn hN hb hc hs hd (fun q1 cA H1 hK1 hP1 hD1 hS1 => W_sz (fun hz => ?_))
  rw [C.2.2.1] at hz
  have e1 := n_addr hP1 hD1 (by omega)
  subst e1
  have e2 : cA = G.2.2.2.1 4 := va_RA_inj (hK1.2 5 (cA, .object "OvenNames$State") rfl).2 (C.1.2.2.2.2.2.2.1.2 4 _ rfl).2
  subst e2
  subst hq
  rw [nws_push (xs' := (n0 + u, .inl (G.2.2.2.1 4, N, .inr (.inr (.inr (.inr (fun _ => none)))))) :: xs) (by simp [ncf]) (fun i hi => by rw [ncf, if_neg (by omega)])] at hP1
  have := kk p e s m args below meth c C H1 locs la hP1 hS1 hl
  rw [List.map_cons, otr, oad_in hqn] at this
  exact this
/-- a new object -/
theorem n_new {index q N ci kd o : Nat} {Cs : String} {T : u_T} {ty0 : Nat → FieldType} {fs : List Value} (hw : Cond.classLink k.1.cls index Cs ∈ tblG) (hi : Cond.instantiable Cs N ∈ tblG) (hit : Cond.initialized Cs ∈ tblG) (hF : oFd ci 0 Cs T N kd o) (hT : oFp T N ty0) (hfs : ∀ j, j < N → defaultValue (ty0 j) = vp_V fs j) (hq : n0 + u = q) (hqn : q < ovNN) (hc : u + 1 ≤ R.cells) (hs : slots + N ≤ R.slots) (hd : decode k.2.1 pc = .ok (.new index, 3))
    (kk : RN G k R (u + 1) (slots + N) n0 Z (pc + 3) ls (.ref q :: st) ((q, .inr (ci, fs)) :: xs) S) : RN G k R u slots n0 Z pc ls st xs S := by
  intro p e s m args below meth c C H locs la hP hS hl
  refine va_new C.1.1 C.1.2.1 C.1.2.2.2.2.2.1 hF.1 ty0 hT.1 C.1.2.2.2.2.1 (C.1.2.2.2.2.2.1 _ hw) (C.1.2.2.2.2.2.1 _ hi) (C.1.2.2.2.2.2.1 _ hit) C.1.2.2.2.2.2.2.1 hP nws_D hS (fun x h => by show G.2.1 ≤ x; have := C.2.2.1; omega) hF.2.1 hfs hc hs hd (fun q1 H1 hP1 hD1 hS1 => W_sz (fun hz => ?_))
  rw [C.2.2.1] at hz
  have e1 := n_addr hP1 hD1 (by omega)
  subst e1
  subst hq
  rw [nws_push (xs' := (n0 + u, .inr (ci, fs)) :: xs) (by simp [ncf]) (fun i hi => by rw [ncf, if_neg (by omega)])] at hP1
  have := kk p e s m args below meth c C H1 locs la hP1 hS1 hl
  rw [List.map_cons, otr, oad_in hqn] at this
  exact this
theorem n_put {index o N ci kd j q0 : Nat} {Cs : String} {T : u_T} {ty0 : Nat → FieldType} {fs : List Value} {v : Value} {xs' : List (Nat × va_E)} (hw : Cond.fieldLink k.1.cls index Cs (T j).2.1 (T j).2.2.1 ∈ tblG) (hF : oFd ci j Cs T N kd q0) (hT : oFp T N ty0) (hfin : (T j).2.2.2 = false ∨ ((T j).2.2.2 = true ∧ k.1.name = "<init>" ∧ Cs = k.1.cls)) (hna : narrow (ty0 j) (otr G v) = otr G v) (hfi : fits (ty0 j) (otr G v) = true) (ho : o < n0 + u) (ho2 : o < ovNN) (he : ncf G S xs o = .inr (ci, fs)) (hfl : j < fs.length) (hx : ncf G S xs' o = .inr (ci, fs.set j (otr G v))) (hk : ∀ i, i ≠ o → ncf G S xs' i = ncf G S xs i) (hd : decode k.2.1 pc = .ok (.putfield index, 3))
    (kk : RN G k R u slots n0 Z (pc + 3) ls st xs' S) : RN G k R u slots n0 Z pc ls (v :: .ref o :: st) xs S := by
  intro p e s m args below meth c C H locs la hP hS hl
  have hz : (nws G S xs (n0 + u))[o]? = some (G.2.1 + o, .inr (ci, fs)) := by rw [nws_at ho, he]
  have hset : (nws G S xs (n0 + u)).set o (G.2.1 + o, .inr (ci, fs.set j (otr G v))) = nws G S xs' (n0 + u) := nws_set ho hx hk
  rw [List.map_cons, List.map_cons, show otr G (.ref o) = .ref (G.2.1 + o) by rw [otr, oad_in ho2]]
  rcases hfin with hf | ⟨hf, hini, hown⟩
  · refine va_put C.1.1 C.1.2.1 C.1.2.2.2.2.2.1 hF.1 ty0 hT.1 hT.2 C.1.2.2.2.2.1 C.1.2.2.2.2.2.2.1 hP nws_D hS o hz hF.2.1 j hF.2.2.2.2.1 (C.1.2.2.2.2.2.1 _ hw) (fun x q => by rw [← hF.2.2.1]; exact q) hf (hT.1 j hF.2.2.2.2.1) hna hfi hfl hd (fun H1 locs1 hP1 hD1 hS1 => ?_)
    rw [hset] at hP1
    exact kk p e s m args below meth c C H1 locs1 la hP1 hS1 hl
  · refine va_putF C.1.1 C.1.2.1 C.1.2.2.2.2.2.1 hF.1 ty0 hT.1 hT.2 C.1.2.2.2.2.1 C.1.2.2.2.2.2.2.1 hP nws_D hS o hz hF.2.1 j hF.2.2.2.2.1 (C.1.2.2.2.2.2.1 _ hw) (fun x q => by rw [← hF.2.2.1]; exact q) hf (C.2.2.2.trans hini) (hF.2.2.1.trans hown) (hT.1 j hF.2.2.2.2.1) hna hfi hfl hd (fun H1 locs1 hP1 hD1 hS1 => ?_)
    rw [hset] at hP1
    exact kk p e s m args below meth c C H1 locs1 la hP1 hS1 hl
theorem n_get {index o N ci kd j q0 : Nat} {Cs : String} {T : u_T} {fs : List Value} {v : Value} (hw : Cond.fieldLink k.1.cls index Cs (T j).2.1 (T j).2.2.1 ∈ tblG) (hF : oFd ci j Cs T N kd q0) (ho : o < n0 + u) (ho2 : o < ovNN) (he : ncf G S xs o = .inr (ci, fs)) (hv : fs[j]? = some (otr G v)) (hd : decode k.2.1 pc = .ok (.getfield index, 3))
    (kk : RN G k R u slots n0 Z (pc + 3) ls (v :: st) xs S) : RN G k R u slots n0 Z pc ls (.ref o :: st) xs S := by
  intro p e s m args below meth c C H locs la hP hS hl
  have hz : (nws G S xs (n0 + u))[o]? = some (G.2.1 + o, .inr (ci, fs)) := by rw [nws_at ho, he]
  rw [List.map_cons, show otr G (.ref o) = .ref (G.2.1 + o) by rw [otr, oad_in ho2]]
  exact va_get C.1.1 C.1.2.1 C.1.2.2.2.2.2.1 hF.1 C.1.2.2.2.2.1 C.1.2.2.2.2.2.2.1 hP o hz hF.2.1 j hF.2.2.2.2.1 (C.1.2.2.2.2.2.1 _ hw) (fun x q => by rw [← hF.2.2.1]; exact q) hv hd (kk p e s m args below meth c C H locs la hP hS hl)
/-- a State into a row of States -/
theorem n_aast {o v N : Nat} {f : Nat → Option Nat} {fs : List Value} {i : Int32} {xs' : List (Nat × va_E)} (ho : o < n0 + u) (ho2 : o < ovNN) (hv : v < n0 + u) (hv2 : v < ovNN) (he : ncf G S xs o = .inl (G.2.2.2.1 4, N, .inr (.inr (.inr (.inr f))))) (hev : ncf G S xs v = .inr (9, fs)) (hi : vp_in i N) (hx : ncf G S xs' o = .inl (G.2.2.2.1 4, N, .inr (.inr (.inr (.inr (va_up f i.toNatClampNeg (some (oad G v)))))))) (hk : ∀ i, i ≠ o → ncf G S xs' i = ncf G S xs i) (hd : decode k.2.1 pc = .ok (.aastore, 1))
    (kk : RN G k R u slots n0 Z (pc + 1) ls st xs' S) : RN G k R u slots n0 Z pc ls (.ref v :: .int i :: .ref o :: st) xs S := by
  intro p e s m args below meth c C H locs la hP hS hl
  have hz : (nws G S xs (n0 + u))[o]? = some (G.2.1 + o, .inl (G.2.2.2.1 4, N, .inr (.inr (.inr (.inr f))))) := by rw [nws_at ho, he]
  have hzv : (nws G S xs (n0 + u))[v]? = some (G.2.1 + v, .inr (9, fs)) := by rw [nws_at hv, hev]
  rw [List.map_cons, List.map_cons, List.map_cons, show otr G (.ref o) = .ref (G.2.1 + o) by rw [otr, oad_in ho2], show otr G (.ref v) = .ref (G.2.1 + v) by rw [otr, oad_in hv2]]
  refine va_astq C.1.1 C.1.2.1 C.1.2.2.2.2.2.2.1 hP nws_D hS o 4 v 9 hz rfl hzv rfl hi hd (fun H1 locs1 hP1 hD1 hS1 => ?_)
  rw [nws_set (S' := S) (xs' := xs') ho (by rw [hx, oad_in hv2]) hk] at hP1
  exact kk p e s m args below meth c C H1 locs1 la hP1 hS1 hl
end
