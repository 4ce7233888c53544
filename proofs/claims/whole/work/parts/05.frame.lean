/-! ===== the store of both systems by object numbers, and the judgement RW over it ===== -/
abbrev ovS : Type := (Nat → Nat → Int32) × (Nat → Nat → Int64)
abbrev ovG : Type := Launch × Nat × va_G × (Nat → ClassId) × (Nat → Nat)
abbrev ovM : Type := MethodName × ByteArray × Nat × Option FieldType
def tblG : List Cond := lw_tbl.filter goodWord
def oA (G : ovG) : Nat → Prop := fun q => G.2.1 ≤ q
def oad (G : ovG) (k : Nat) : Nat := if k < ovNN then G.2.1 + k else G.2.2.2.2 k
def otr (G : ovG) (v : Value) : Value := match v with
  | .ref k => .ref (oad G k)
  | .int x => .int x
  | .long x => .long x
  | v => v
def ofv (G : ovG) (S : ovS) (k ci j : Nat) : Value := match ofk ci j with
  | (0, _) => .int (S.1 k j)
  | (1, _) => .long (S.2 k j)
  | (2, o) => .ref (oad G (k + o))
  | (_, o) => .ref (oad G o)
def oce (G : ovG) (S : ovS) (k : Nat) : va_E :=
  if ocl k = 13 then .inl (G.2.2.2.1 0, oln k, .inl (S.1 k))
  else if ocl k = 14 then .inl (G.2.2.2.1 1, oln k, .inl (S.1 k))
  else if ocl k = 15 then .inl (G.2.2.2.1 2, oln k, .inr (.inl (S.2 k)))
  else if ocl k = 16 then .inl (G.2.2.2.1 3, oln k, .inl (S.1 k))
  else if ocl k = 17 then .inl (G.2.2.2.1 4, oln k, .inr (.inr (.inr (.inr (fun j => some (oad G (orow k j)))))))
  else .inr (ocl k, (List.range (ofn (ocl k))).map (ofv G S k (ocl k)))
def ows (G : ovG) (S : ovS) : va_W := (List.range ovNN).map (fun k => (G.2.1 + k, oce G S k))
def otys (G : ovG) : List (ClassId × FieldType) := [(G.2.2.2.1 0, .byte), (G.2.2.2.1 1, .int), (G.2.2.2.1 2, .long), (G.2.2.2.1 3, .boolean), (G.2.2.2.1 4, .object "OvenNames$State")]
def oP (G : ovG) (S : ovS) (H : Heap) : Prop := va_P G.2.2.1 vwCl (ows G S) H
def seI (S : ovS) (k : Nat) (f : Nat → Int32) : ovS := (va_up S.1 k f, S.2)
def seJ (S : ovS) (k : Nat) (f : Nat → Int64) : ovS := (S.1, va_up S.2 k f)
theorem oad_in {G : ovG} {k : Nat} (h : k < ovNN) : oad G k = G.2.1 + k := by simp [oad, h]
theorem ocl_lt {k n : Nat} (h : ocl k = n) (hn : n ≠ 99) : k < ovNN := by
  rcases Nat.lt_or_ge k ovNN with q | q
  · exact q
  · exfalso
    apply hn
    rw [← h, ocl, List.getD_eq_getElem?_getD, List.getElem?_eq_none (by rw [ovL_len]; exact q)]
    rfl
theorem ows_at {G : ovG} {S : ovS} {k : Nat} (h : k < ovNN) : (ows G S)[k]? = some (oad G k, oce G S k) := by
  rw [ows, List.getElem?_map, List.getElem?_range h, oad_in h]
  rfl
theorem ows_D {G : ovG} {S : ovS} : va_D (oA G) (ows G S) := by
  have key : ∀ (k : Nat) (q : Nat × va_E), (ows G S)[k]? = some q → q.1 = G.2.1 + k := by
    intro k q hq
    rw [ows, List.getElem?_map] at hq
    cases hr : (List.range ovNN)[k]? with
    | none => rw [hr] at hq; cases hq
    | some b =>
      rw [hr] at hq
      obtain ⟨hb, e⟩ := List.getElem?_eq_some_iff.mp hr
      rw [List.getElem_range] at e
      subst e
      cases hq
      rfl
  refine ⟨fun i j p q hi hj hpq => ?_, fun k q hk => ?_⟩
  · have h1 := key i p hi
    have h2 := key j q hj
    omega
  · have h1 := key k q hk
    show G.2.1 ≤ q.1
    omega
theorem ows_set {G : ovG} {S S' : ovS} {k : Nat} {e : va_E} (hk : k < ovNN) (he : oce G S' k = e) (h : ∀ j, j ≠ k → oce G S' j = oce G S j) : (ows G S).set k (oad G k, e) = ows G S' := by
  apply List.ext_getElem?
  intro j
  by_cases hj : j = k
  · subst hj
    rw [List.getElem?_set_self (by rw [ows, List.length_map, List.length_range]; exact hk), ows_at hk, he]
  · rw [List.getElem?_set_ne (Ne.symm hj)]
    by_cases hn : j < ovNN
    · rw [ows_at hn, ows_at hn, h j hj]
    · rw [List.getElem?_eq_none (by rw [ows, List.length_map, List.length_range]; omega), List.getElem?_eq_none (by rw [ows, List.length_map, List.length_range]; omega)]
theorem oce_seI {G : ovG} {S : ovS} {k j : Nat} {f : Nat → Int32} (h : j ≠ k) : oce G (seI S k f) j = oce G S j := by
  simp only [oce, seI, va_up_ne _ _ h]
  have e : ofv G (va_up S.1 k f, S.2) j (ocl j) = ofv G S j (ocl j) := by
    funext i
    simp only [ofv, va_up_ne _ _ h]
  rw [e]
theorem oce_seJ {G : ovG} {S : ovS} {k j : Nat} {f : Nat → Int64} (h : j ≠ k) : oce G (seJ S k f) j = oce G S j := by
  simp only [oce, seJ, va_up_ne _ _ h]
  have e : ofv G (S.1, va_up S.2 k f) j (ocl j) = ofv G S j (ocl j) := by
    funext i
    simp only [ofv, va_up_ne _ _ h]
  rw [e]
theorem oce_obj {G : ovG} {S : ovS} {k ci : Nat} (h : ocl k = ci) (hc : ci < 13) : oce G S k = .inr (ci, (List.range (ofn ci)).map (ofv G S k ci)) := by
  subst h
  have h1 : ¬ ocl k = 13 := by omega
  have h2 : ¬ ocl k = 14 := by omega
  have h3 : ¬ ocl k = 15 := by omega
  have h4 : ¬ ocl k = 16 := by omega
  have h5 : ¬ ocl k = 17 := by omega
  simp only [oce, h1, h2, h3, h4, h5, if_false]
theorem oce_B {G : ovG} {S : ovS} {k n : Nat} (h : ocl k = 13) (hn : oln k = n) : oce G S k = .inl (G.2.2.2.1 0, n, .inl (S.1 k)) := by subst hn; simp [oce, h]
theorem oce_I {G : ovG} {S : ovS} {k n : Nat} (h : ocl k = 14) (hn : oln k = n) : oce G S k = .inl (G.2.2.2.1 1, n, .inl (S.1 k)) := by subst hn; simp [oce, h]
theorem oce_J {G : ovG} {S : ovS} {k n : Nat} (h : ocl k = 15) (hn : oln k = n) : oce G S k = .inl (G.2.2.2.1 2, n, .inr (.inl (S.2 k))) := by subst hn; simp [oce, h]
theorem oce_Z {G : ovG} {S : ovS} {k n : Nat} (h : ocl k = 16) (hn : oln k = n) : oce G S k = .inl (G.2.2.2.1 3, n, .inl (S.1 k)) := by subst hn; simp [oce, h]
theorem oce_R {G : ovG} {S : ovS} {k n : Nat} (h : ocl k = 17) (hn : oln k = n) : oce G S k = .inl (G.2.2.2.1 4, n, .inr (.inr (.inr (.inr (fun j => some (oad G (orow k j))))))) := by subst hn; simp [oce, h]
/-! the locals: a row with a place for each -/
def oll : List (Option Value) → Nat → List (Nat × Value)
  | [], _ => []
  | none :: l, i => oll l (i + 1)
  | some v :: l, i => (i, v) :: oll l (i + 1)
theorem mem_oll : ∀ (l : List (Option Value)) (i j : Nat) (v : Value), (j, v) ∈ oll l i ↔ i ≤ j ∧ l[j - i]? = some (some v)
  | [], i, j, v => by simp [oll]
  | none :: l, i, j, v => by
    rw [oll, mem_oll l (i + 1) j v]
    constructor
    · rintro ⟨h1, h2⟩
      refine ⟨by omega, ?_⟩
      rw [show j - i = (j - (i + 1)) + 1 by omega, List.getElem?_cons_succ]
      exact h2
    · rintro ⟨h1, h2⟩
      rcases Nat.eq_or_lt_of_le h1 with q | q
      · subst q
        rw [Nat.sub_self, List.getElem?_cons_zero] at h2
        cases h2
      · refine ⟨by omega, ?_⟩
        rw [show j - i = (j - (i + 1)) + 1 by omega, List.getElem?_cons_succ] at h2
        exact h2
  | some w :: l, i, j, v => by
    rw [oll, List.mem_cons, mem_oll l (i + 1) j v]
    constructor
    · rintro (h | ⟨h1, h2⟩)
      · cases h
        exact ⟨Nat.le_refl _, by rw [Nat.sub_self]; rfl⟩
      · refine ⟨by omega, ?_⟩
        rw [show j - i = (j - (i + 1)) + 1 by omega, List.getElem?_cons_succ]
        exact h2
    · rintro ⟨h1, h2⟩
      rcases Nat.eq_or_lt_of_le h1 with q | q
      · subst q
        rw [Nat.sub_self, List.getElem?_cons_zero] at h2
        cases h2
        exact Or.inl rfl
      · refine Or.inr ⟨by omega, ?_⟩
        rw [show j - i = (j - (i + 1)) + 1 by omega, List.getElem?_cons_succ] at h2
        exact h2
def otl (G : ovG) (q : Nat × Value) : Nat × Value := (q.1, otr G q.2)
def olv (G : ovG) (la : Array Slot) (n : Nat) (ls : List (Option Value)) : Prop := lv_has la n ((oll ls 0).map (otl G))
theorem olv_at {G : ovG} {la : Array Slot} {n i : Nat} {ls : List (Option Value)} {v : Value} (h : olv G la n ls) (hi : ls[i]? = some (some v)) : la[i]? = some (.val (otr G v)) :=
  h.2.2 (i, otr G v) (List.mem_map.mpr ⟨(i, v), (mem_oll ls 0 i v).mpr ⟨Nat.zero_le _, hi⟩, rfl⟩)
theorem otr_cat {G : ovG} (v : Value) : (otr G v).category = v.category := by cases v <;> rfl
/-- no long ends at this place -/
def onl (ls : List (Option Value)) : Nat → Prop
  | 0 => True
  | i + 1 => match ls[i]? with
    | some (some v) => v.category = 1
    | _ => True
theorem olv_set {G : ovG} {la : Array Slot} {n i : Nat} {ls : List (Option Value)} {v : Value} (h : lv_has la n ((i, otr G v) :: ((oll ls 0).map (otl G)).filter (fun q => !(q.1 == i) && !(q.1 + 1 == i && q.2.category == 2)))) (hn : onl ls i) : olv G la n (ls.set i (some v)) := by
  refine ⟨h.1, h.2.1, fun q hq => h.2.2 q ?_⟩
  obtain ⟨⟨j, w⟩, hj, rfl⟩ := List.mem_map.mp hq
  have hj2 := (mem_oll _ 0 j w).mp hj
  by_cases e : j = i
  · subst e
    have h3 := hj2.2
    rw [Nat.sub_zero, List.getElem?_set] at h3
    simp only [if_true] at h3
    split at h3
    · cases h3
      exact List.mem_cons_self
    · cases h3
  · have h3 := hj2.2
    rw [Nat.sub_zero, List.getElem?_set_ne (Ne.symm e)] at h3
    refine List.mem_cons_of_mem _ (List.mem_filter.mpr ⟨List.mem_map.mpr ⟨(j, w), (mem_oll ls 0 j w).mpr ⟨Nat.zero_le _, h3⟩, rfl⟩, ?_⟩)
    have e1 : (j == i) = false := by simpa using e
    show (!(j == i) && !(j + 1 == i && (otr G w).category == 2)) = true
    rw [e1]
    by_cases e2 : j + 1 = i
    · subst e2
      have hw : w.category = 1 := by
        have := hn
        simp only [onl, h3] at this
        exact this
      rw [otr_cat, hw]
      simp
    · have : (j + 1 == i) = false := by simpa using e2
      rw [this]
      simp
/-! the words that a method may use, and what its machine holds beside the store -/
def oWd : List Int64 := [0x64656564, 0x736f756c, 0x6e65656473, 0x7374617973, 0x66657564, 0x77697468, 0x6c6f6166, 0x68656174, 0x64726177, 0x6f72, 0x616e64, 0x6e6f74, 0x73746179, 0x6f6c64, 0x73616964]
def oRk : List Int32 := [9, 9, 9, 9, 9, 9, 1, 2, 3, 4, 4, 4, 5, 5, 6, 6, 6, 0]
def oSg : List Int32 := [59, 40, 41, 60, 62, 61, 43, 45, 42, 47, 37]
def oSx (G : ovG) (U : State) : Prop :=
  va_Z "OvenNames$Scanner" "WORDS" "[J" (.ref (G.2.2.2.2 447)) (oA G) U U.heap ∧
  va_T .long (G.2.2.2.2 447) 15 (fun j => .long (oWd.getD j 0)) (oA G) U U.heap ∧
  va_Z "OvenNames$FormulaReader" "RANKS" "[I" (.ref (G.2.2.2.2 448)) (oA G) U U.heap ∧
  va_T .int (G.2.2.2.2 448) 18 (fun j => .int (oRk.getD j 0)) (oA G) U U.heap ∧
  vk_R "OvenNames$Scanner" 48 ";()<>=+-*/%" (G.2.2.2.2 449) U ∧
  vk_S 1 [11] [oSg] (fun _ => G.2.2.2.2 449) (fun _ => G.2.2.2.2 450) (oA G) U U.heap ∧
  va_Z "java/lang/String" "COMPACT_STRINGS" "Z" (.int 1) (oA G) U U.heap ∧
  va_Nw (.methodLinkNest "OvenNames$Reports" 53 ⟨"OvenNames", "isHundredth", "(I)Z"⟩ "OvenNames") U
theorem oSx.to {G : ovG} {s U : State} {H : Heap} {locs : List Loc} (h : oSx G s) (hS : va_S (oA G) s.heap H locs) (hU : U.heap = H) (hW : s.WarmedH U.vm) : oSx G U := by
  obtain ⟨h1, h2, h3, h4, h5, h6, h7, h8⟩ := h
  have hq : ∀ a : Nat, a < s.heap.size → ¬ oA G a → U.heap[a]? = s.heap[a]? := fun a q1 q2 => by rw [hU]; exact hS.2.1 a q1 q2
  have hv := hW.alike
  exact ⟨(h1.kept hq).moved hv, (h2.kept hq).moved hv, (h3.kept hq).moved hv, (h4.kept hq).moved hv, h5.warm hW, (h6.kept hq).moved hv, (h7.kept hq).moved hv, h8.warmM hW⟩
def oCx (G : ovG) (k : ovM) (p : Program) (s : State) (m : MethodId) (args : Array Value) (meth : Method) (c : Code) : Prop :=
  p.tables.exec = Jvm.exec ∧ c.code = k.2.1 ∧ meth.sig.returnType = k.2.2.2 ∧ c.maxLocals = k.2.2.1 ∧ s.vm.findClass k.1.cls = some m.cls ∧ (∀ w ∈ tblG, w.before args s = true) ∧ va_K G.2.2.1 vwCl (otys G) s ∧ meth.locks = false ∧ oSx G s
/-- the machine, at pc of the method k, with these locals, this stack and this store, comes to a state with Z -/
def RW (G : ovG) (k : ovM) (R : Room) (cells slots : Nat) (Z : List Frame → Array Value → State → State → Prop) (pc : Nat) (ls : List (Option Value)) (st : List Value) (S : ovS) : Prop :=
  ∀ (p : Program) (e : Env) (s : State) (m : MethodId) (args : Array Value) (below : List Frame) (meth : Method) (c : Code), oCx G k p s m args meth c → ∀ (H : Heap) (locs : List Loc) (la : Array Slot), oP G S H → va_S (oA G) s.heap H locs → olv G la k.2.2.1 ls →
    W p G.1 e R s m args below meth c H locs cells slots (Z below args s) (F0 m pc la (st.map (otr G)))
/-! contracts -/
def oRm (h : Nat) : Room := { frames := h, cells := 0, slots := 0, locals := 64 * h }
def orv (k : ovM) (r : Int32) : Option Value := match k.2.2.2 with
  | none => none
  | some _ => some (.int r)
def oQc (G : ovG) (k : ovM) (Q : Int32 → ovS → Prop) : Array Value → State → Outcome → State → Prop := fun _ st oc t =>
  (∃ (r : Int32) (S1 : ovS), oc = .returned (orv k r) ∧ Q r S1 ∧ oP G S1 t.heap) ∧ va_F (oA G) st t
def oZ (G : ovG) (k : ovM) (Q : Int32 → ovS → Prop) : List Frame → Array Value → State → State → Prop := fun below args s => MQ below (oQc G k Q) args s 0 0 (oA G)
def owk (k : ovM) : List Cond := .code k.1 k.2.1 k.2.2.1 k.2.2.2 :: tblG
abbrev RM (G : ovG) (k : ovM) (h : Nat) (Q : Int32 → ovS → Prop) (pc : Nat) (ls : List (Option Value)) (st : List Value) (S : ovS) : Prop := RW G k (oRm h) 0 0 (oZ G k Q) pc ls st S
/-- the method k, with these arguments and this store, returns; Q of its answer (0 where there is none) and of the store behind it -/
def Ex (G : ovG) (k : ovM) (h : Nat) (av : List Value) (S : ovS) (Q : Int32 → ovS → Prop) : Prop :=
  Met G.1 k.1 (owk k) (oRm h) (va_Pc (av.map (otr G)) (fun U => oP G S U.heap ∧ va_K G.2.2.1 vwCl (otys G) U ∧ oSx G U)) (oQc G k Q) 0 0 (oA G)
def oarg : List Value → List (Option Value)
  | [] => []
  | .long x :: l => some (.long x) :: none :: oarg l
  | .double x :: l => some (.double x) :: none :: oarg l
  | v :: l => some v :: oarg l
theorem oll_app : ∀ (a b : List (Option Value)) (i : Nat), oll (a ++ b) i = oll a i ++ oll b (i + a.length)
  | [], b, i => by simp [oll]
  | none :: a, b, i => by simp only [List.cons_append, oll, oll_app a b (i + 1), List.length_cons]; congr 2; omega
  | some v :: a, b, i => by simp only [List.cons_append, oll, oll_app a b (i + 1), List.length_cons]; congr 3; omega
theorem oll_none : ∀ (n i : Nat), oll (List.replicate n none) i = []
  | 0, i => rfl
  | n + 1, i => by rw [List.replicate_succ, oll]; exact oll_none n (i + 1)
theorem oll_arg (G : ovG) : ∀ (av : List Value) (i : Nat), (oll (oarg av) i).map (otl G) = lv_args i (av.map (otr G))
  | [], i => rfl
  | v :: l, i => by
    cases v <;> simp only [oarg, oll, List.map_cons, lv_args, otl, otr, Value.category, oll_arg G l] <;> simp
theorem Ex.of {G : ovG} {y : MethodName} {cc : ByteArray} {n h : Nat} {ret : Option FieldType} {av : List Value} {S : ovS} {Q : Int32 → ovS → Prop} (hy : plainName y.cls = true) (hl : (lg_sl (av.map (otr G))).length ≤ n) (ls : List (Option Value)) (hls : ∃ m, oarg av ++ List.replicate m none = ls)
    (body : RM G (y, cc, n, ret) h Q 0 ls [] S) : Ex G (y, cc, n, ret) h av S Q := by
  refine Met.ofW (cc := cc) (maxL := n) (ret := ret) hy rfl ?_
  intro p e s m args below meth c s₁ B hml hv
  obtain ⟨rfl, hP, hK, hX⟩ := hv
  have hl2 := lv_entry (av.map (otr G)) (n := n) hl
  rw [lg_entry_eq]
  have hts := atoms_spec (ws := owk (y, cc, n, ret)) B.pre
  refine body p e s m _ below meth c ⟨B.exec, B.bytes, B.returns, hml, findClass_of_methodNamed B.named, fun w hw => hts w (List.mem_cons_of_mem _ hw), hK, B.notSynchronized, hX⟩ s.heap [] _ hP va_S.rf ?_
  obtain ⟨m2, rfl⟩ := hls
  show lv_has _ n _
  rw [oll_app, oll_none, List.append_nil, oll_arg]
  exact hl2
theorem r_iconst {G : ovG} {k : ovM} {R : Room} {cells slots : Nat} {Z : List Frame → Array Value → State → State → Prop} {pc : Nat} {ls : List (Option Value)} {st : List Value} {S : ovS} {n : Int} {v : Int32} (hd : decode k.2.1 pc = .ok (.iconst n, 1)) (hv : Int32.ofInt n = v) (kk : RW G k R cells slots Z (pc + 1) ls (.int v :: st) S) : RW G k R cells slots Z (pc) ls st S := by
  intro p e s m args below meth c C H locs la hP hS hl
  exact lv_iconst C.1 C.2.1 hd hv (kk p e s m args below meth c C H locs la hP hS hl)
theorem r_bipush {G : ovG} {k : ovM} {R : Room} {cells slots : Nat} {Z : List Frame → Array Value → State → State → Prop} {pc : Nat} {ls : List (Option Value)} {st : List Value} {S : ovS} {n : Int} {v : Int32} (hd : decode k.2.1 pc = .ok (.bipush n, 2)) (hv : (Int8.ofInt n).toInt32 = v) (kk : RW G k R cells slots Z (pc + 2) ls (.int v :: st) S) : RW G k R cells slots Z (pc) ls st S := by
  intro p e s m args below meth c C H locs la hP hS hl
  exact lv_bipush C.1 C.2.1 hd hv (kk p e s m args below meth c C H locs la hP hS hl)
theorem r_sipush {G : ovG} {k : ovM} {R : Room} {cells slots : Nat} {Z : List Frame → Array Value → State → State → Prop} {pc : Nat} {ls : List (Option Value)} {st : List Value} {S : ovS} {n : Int} {v : Int32} (hd : decode k.2.1 pc = .ok (.sipush n, 3)) (hv : (Int16.ofInt n).toInt32 = v) (kk : RW G k R cells slots Z (pc + 3) ls (.int v :: st) S) : RW G k R cells slots Z (pc) ls st S := by
  intro p e s m args below meth c C H locs la hP hS hl
  exact lv_sipush C.1 C.2.1 hd hv (kk p e s m args below meth c C H locs la hP hS hl)
theorem r_lconst {G : ovG} {k : ovM} {R : Room} {cells slots : Nat} {Z : List Frame → Array Value → State → State → Prop} {pc : Nat} {ls : List (Option Value)} {st : List Value} {S : ovS} {n : Fin 2} {v : Int64} (hd : decode k.2.1 pc = .ok (.lconst n, 1)) (hv : Int64.ofNat (n : Nat) = v) (kk : RW G k R cells slots Z (pc + 1) ls (.long v :: st) S) : RW G k R cells slots Z (pc) ls st S := by
  intro p e s m args below meth c C H locs la hP hS hl
  exact lv_lconst C.1 C.2.1 hd hv (kk p e s m args below meth c C H locs la hP hS hl)
theorem r_iload_n {G : ovG} {k : ovM} {R : Room} {cells slots : Nat} {Z : List Frame → Array Value → State → State → Prop} {pc : Nat} {ls : List (Option Value)} {st : List Value} {S : ovS} {q : Fin 4} {i : Nat} {x : Int32} (hd : decode k.2.1 pc = .ok (.iload_n q, 1)) (hi : (q : Nat) = i) (hx : ls[i]? = some (some (.int x))) (kk : RW G k R cells slots Z (pc + 1) ls (.int x :: st) S) : RW G k R cells slots Z (pc) ls st S := by
  intro p e s m args below meth c C H locs la hP hS hl
  exact lv_iload_n C.1 C.2.1 hd hi (olv_at hl hx) (kk p e s m args below meth c C H locs la hP hS hl)
theorem r_iload {G : ovG} {k : ovM} {R : Room} {cells slots : Nat} {Z : List Frame → Array Value → State → State → Prop} {pc : Nat} {ls : List (Option Value)} {st : List Value} {S : ovS} {i : Nat} {x : Int32} (hd : decode k.2.1 pc = .ok (.iload i, 2)) (hx : ls[i]? = some (some (.int x))) (kk : RW G k R cells slots Z (pc + 2) ls (.int x :: st) S) : RW G k R cells slots Z (pc) ls st S := by
  intro p e s m args below meth c C H locs la hP hS hl
  exact lv_iload C.1 C.2.1 hd (olv_at hl hx) (kk p e s m args below meth c C H locs la hP hS hl)
theorem r_lload_n {G : ovG} {k : ovM} {R : Room} {cells slots : Nat} {Z : List Frame → Array Value → State → State → Prop} {pc : Nat} {ls : List (Option Value)} {st : List Value} {S : ovS} {q : Fin 4} {i : Nat} {x : Int64} (hd : decode k.2.1 pc = .ok (.lload_n q, 1)) (hi : (q : Nat) = i) (hx : ls[i]? = some (some (.long x))) (kk : RW G k R cells slots Z (pc + 1) ls (.long x :: st) S) : RW G k R cells slots Z (pc) ls st S := by
  intro p e s m args below meth c C H locs la hP hS hl
  exact lv_lload_n C.1 C.2.1 hd hi (olv_at hl hx) (kk p e s m args below meth c C H locs la hP hS hl)
theorem r_lload {G : ovG} {k : ovM} {R : Room} {cells slots : Nat} {Z : List Frame → Array Value → State → State → Prop} {pc : Nat} {ls : List (Option Value)} {st : List Value} {S : ovS} {i : Nat} {x : Int64} (hd : decode k.2.1 pc = .ok (.lload i, 2)) (hx : ls[i]? = some (some (.long x))) (kk : RW G k R cells slots Z (pc + 2) ls (.long x :: st) S) : RW G k R cells slots Z (pc) ls st S := by
  intro p e s m args below meth c C H locs la hP hS hl
  exact lv_lload C.1 C.2.1 hd (olv_at hl hx) (kk p e s m args below meth c C H locs la hP hS hl)
theorem r_aload_n {G : ovG} {k : ovM} {R : Room} {cells slots : Nat} {Z : List Frame → Array Value → State → State → Prop} {pc : Nat} {ls : List (Option Value)} {st : List Value} {S : ovS} {q : Fin 4} {i : Nat} {x : Nat} (hd : decode k.2.1 pc = .ok (.aload_n q, 1)) (hi : (q : Nat) = i) (hx : ls[i]? = some (some (.ref x))) (kk : RW G k R cells slots Z (pc + 1) ls (.ref x :: st) S) : RW G k R cells slots Z (pc) ls st S := by
  intro p e s m args below meth c C H locs la hP hS hl
  exact lv_aload_n C.1 C.2.1 hd hi (olv_at hl hx) (kk p e s m args below meth c C H locs la hP hS hl)
theorem r_aload {G : ovG} {k : ovM} {R : Room} {cells slots : Nat} {Z : List Frame → Array Value → State → State → Prop} {pc : Nat} {ls : List (Option Value)} {st : List Value} {S : ovS} {i : Nat} {x : Nat} (hd : decode k.2.1 pc = .ok (.aload i, 2)) (hx : ls[i]? = some (some (.ref x))) (kk : RW G k R cells slots Z (pc + 2) ls (.ref x :: st) S) : RW G k R cells slots Z (pc) ls st S := by
  intro p e s m args below meth c C H locs la hP hS hl
  exact lv_aload C.1 C.2.1 hd (olv_at hl hx) (kk p e s m args below meth c C H locs la hP hS hl)
theorem r_istore_n {G : ovG} {k : ovM} {R : Room} {cells slots : Nat} {Z : List Frame → Array Value → State → State → Prop} {pc : Nat} {ls : List (Option Value)} {st : List Value} {S : ovS} {q : Fin 4} {i : Nat} {x : Int32} (hd : decode k.2.1 pc = .ok (.istore_n q, 1)) (hi : (q : Nat) = i) (hn : i < k.2.2.1) (ho : onl ls i) (kk : RW G k R cells slots Z (pc + 1) (ls.set i (some (.int x))) st S) : RW G k R cells slots Z (pc) ls (.int x :: st) S := by
  intro p e s m args below meth c C H locs la hP hS hl
  exact lv_istore_n C.1 C.2.1 hd hi hl hn rfl (fun la2 hl2 => kk p e s m args below meth c C H locs la2 hP hS (olv_set (v := .int x) hl2 ho))
theorem r_istore {G : ovG} {k : ovM} {R : Room} {cells slots : Nat} {Z : List Frame → Array Value → State → State → Prop} {pc : Nat} {ls : List (Option Value)} {st : List Value} {S : ovS} {i : Nat} {x : Int32} (hd : decode k.2.1 pc = .ok (.istore i, 2)) (hn : i < k.2.2.1) (ho : onl ls i) (kk : RW G k R cells slots Z (pc + 2) (ls.set i (some (.int x))) st S) : RW G k R cells slots Z (pc) ls (.int x :: st) S := by
  intro p e s m args below meth c C H locs la hP hS hl
  exact lv_istore C.1 C.2.1 hd hl hn rfl (fun la2 hl2 => kk p e s m args below meth c C H locs la2 hP hS (olv_set (v := .int x) hl2 ho))
theorem r_astore_n {G : ovG} {k : ovM} {R : Room} {cells slots : Nat} {Z : List Frame → Array Value → State → State → Prop} {pc : Nat} {ls : List (Option Value)} {st : List Value} {S : ovS} {q : Fin 4} {i : Nat} {x : Nat} (hd : decode k.2.1 pc = .ok (.astore_n q, 1)) (hi : (q : Nat) = i) (hn : i < k.2.2.1) (ho : onl ls i) (kk : RW G k R cells slots Z (pc + 1) (ls.set i (some (.ref x))) st S) : RW G k R cells slots Z (pc) ls (.ref x :: st) S := by
  intro p e s m args below meth c C H locs la hP hS hl
  exact lv_astore_n C.1 C.2.1 hd hi hl hn rfl (fun la2 hl2 => kk p e s m args below meth c C H locs la2 hP hS (olv_set (v := .ref x) hl2 ho))
theorem r_astore {G : ovG} {k : ovM} {R : Room} {cells slots : Nat} {Z : List Frame → Array Value → State → State → Prop} {pc : Nat} {ls : List (Option Value)} {st : List Value} {S : ovS} {i : Nat} {x : Nat} (hd : decode k.2.1 pc = .ok (.astore i, 2)) (hn : i < k.2.2.1) (ho : onl ls i) (kk : RW G k R cells slots Z (pc + 2) (ls.set i (some (.ref x))) st S) : RW G k R cells slots Z (pc) ls (.ref x :: st) S := by
  intro p e s m args below meth c C H locs la hP hS hl
  exact lv_astore C.1 C.2.1 hd hl hn rfl (fun la2 hl2 => kk p e s m args below meth c C H locs la2 hP hS (olv_set (v := .ref x) hl2 ho))
theorem r_iinc {G : ovG} {k : ovM} {R : Room} {cells slots : Nat} {Z : List Frame → Array Value → State → State → Prop} {pc : Nat} {ls : List (Option Value)} {st : List Value} {S : ovS} {i : Nat} {n : Int} {x v : Int32} (hd : decode k.2.1 pc = .ok (.iinc i n, 3)) (hx : ls[i]? = some (some (.int x))) (hv : x + Int32.ofInt n = v) (hn : i < k.2.2.1) (ho : onl ls i) (kk : RW G k R cells slots Z (pc + 3) (ls.set i (some (.int v))) st S) : RW G k R cells slots Z (pc) ls st S := by
  intro p e s m args below meth c C H locs la hP hS hl
  obtain ⟨j, hj⟩ := List.getElem?_of_mem (List.mem_map.mpr ⟨(i, .int x), (mem_oll ls 0 i (.int x)).mpr ⟨Nat.zero_le _, hx⟩, rfl⟩ : otl G (i, .int x) ∈ (oll ls 0).map (otl G))
  exact lv_iinc C.1 C.2.1 hd hl hj hv hn rfl (fun la2 hl2 => kk p e s m args below meth c C H locs la2 hP hS (olv_set (v := .int v) hl2 ho))
theorem r_iadd {G : ovG} {k : ovM} {R : Room} {cells slots : Nat} {Z : List Frame → Array Value → State → State → Prop} {pc : Nat} {ls : List (Option Value)} {st : List Value} {S : ovS} {x y : Int32} (hd : decode k.2.1 pc = .ok (.iadd, 1)) (kk : RW G k R cells slots Z (pc + 1) ls (.int (x + y) :: st) S) : RW G k R cells slots Z (pc) ls (.int y :: .int x :: st) S := by
  intro p e s m args below meth c C H locs la hP hS hl
  exact lv_iadd C.1 C.2.1 hd (kk p e s m args below meth c C H locs la hP hS hl)
theorem r_isub {G : ovG} {k : ovM} {R : Room} {cells slots : Nat} {Z : List Frame → Array Value → State → State → Prop} {pc : Nat} {ls : List (Option Value)} {st : List Value} {S : ovS} {x y : Int32} (hd : decode k.2.1 pc = .ok (.isub, 1)) (kk : RW G k R cells slots Z (pc + 1) ls (.int (x - y) :: st) S) : RW G k R cells slots Z (pc) ls (.int y :: .int x :: st) S := by
  intro p e s m args below meth c C H locs la hP hS hl
  exact lv_isub C.1 C.2.1 hd (kk p e s m args below meth c C H locs la hP hS hl)
theorem r_imul {G : ovG} {k : ovM} {R : Room} {cells slots : Nat} {Z : List Frame → Array Value → State → State → Prop} {pc : Nat} {ls : List (Option Value)} {st : List Value} {S : ovS} {x y : Int32} (hd : decode k.2.1 pc = .ok (.imul, 1)) (kk : RW G k R cells slots Z (pc + 1) ls (.int (x * y) :: st) S) : RW G k R cells slots Z (pc) ls (.int y :: .int x :: st) S := by
  intro p e s m args below meth c C H locs la hP hS hl
  exact lv_imul C.1 C.2.1 hd (kk p e s m args below meth c C H locs la hP hS hl)
theorem r_iand {G : ovG} {k : ovM} {R : Room} {cells slots : Nat} {Z : List Frame → Array Value → State → State → Prop} {pc : Nat} {ls : List (Option Value)} {st : List Value} {S : ovS} {x y : Int32} (hd : decode k.2.1 pc = .ok (.iand, 1)) (kk : RW G k R cells slots Z (pc + 1) ls (.int (x &&& y) :: st) S) : RW G k R cells slots Z (pc) ls (.int y :: .int x :: st) S := by
  intro p e s m args below meth c C H locs la hP hS hl
  exact lv_iand C.1 C.2.1 hd (kk p e s m args below meth c C H locs la hP hS hl)
theorem r_ior {G : ovG} {k : ovM} {R : Room} {cells slots : Nat} {Z : List Frame → Array Value → State → State → Prop} {pc : Nat} {ls : List (Option Value)} {st : List Value} {S : ovS} {x y : Int32} (hd : decode k.2.1 pc = .ok (.ior, 1)) (kk : RW G k R cells slots Z (pc + 1) ls (.int (x ||| y) :: st) S) : RW G k R cells slots Z (pc) ls (.int y :: .int x :: st) S := by
  intro p e s m args below meth c C H locs la hP hS hl
  exact lv_ior C.1 C.2.1 hd (kk p e s m args below meth c C H locs la hP hS hl)
theorem r_ixor {G : ovG} {k : ovM} {R : Room} {cells slots : Nat} {Z : List Frame → Array Value → State → State → Prop} {pc : Nat} {ls : List (Option Value)} {st : List Value} {S : ovS} {x y : Int32} (hd : decode k.2.1 pc = .ok (.ixor, 1)) (kk : RW G k R cells slots Z (pc + 1) ls (.int (x ^^^ y) :: st) S) : RW G k R cells slots Z (pc) ls (.int y :: .int x :: st) S := by
  intro p e s m args below meth c C H locs la hP hS hl
  exact lv_ixor C.1 C.2.1 hd (kk p e s m args below meth c C H locs la hP hS hl)
theorem r_ishl {G : ovG} {k : ovM} {R : Room} {cells slots : Nat} {Z : List Frame → Array Value → State → State → Prop} {pc : Nat} {ls : List (Option Value)} {st : List Value} {S : ovS} {x y : Int32} (hd : decode k.2.1 pc = .ok (.ishl, 1)) (kk : RW G k R cells slots Z (pc + 1) ls (.int (x <<< (y &&& 31)) :: st) S) : RW G k R cells slots Z (pc) ls (.int y :: .int x :: st) S := by
  intro p e s m args below meth c C H locs la hP hS hl
  exact lv_ishl C.1 C.2.1 hd (kk p e s m args below meth c C H locs la hP hS hl)
theorem r_ishr {G : ovG} {k : ovM} {R : Room} {cells slots : Nat} {Z : List Frame → Array Value → State → State → Prop} {pc : Nat} {ls : List (Option Value)} {st : List Value} {S : ovS} {x y : Int32} (hd : decode k.2.1 pc = .ok (.ishr, 1)) (kk : RW G k R cells slots Z (pc + 1) ls (.int (x >>> (y &&& 31)) :: st) S) : RW G k R cells slots Z (pc) ls (.int y :: .int x :: st) S := by
  intro p e s m args below meth c C H locs la hP hS hl
  exact lv_ishr C.1 C.2.1 hd (kk p e s m args below meth c C H locs la hP hS hl)
theorem r_idiv {G : ovG} {k : ovM} {R : Room} {cells slots : Nat} {Z : List Frame → Array Value → State → State → Prop} {pc : Nat} {ls : List (Option Value)} {st : List Value} {S : ovS} {x y : Int32} (hd : decode k.2.1 pc = .ok (.idiv, 1)) (hne : ¬ y = 0) (kk : RW G k R cells slots Z (pc + 1) ls (.int (x / y) :: st) S) : RW G k R cells slots Z (pc) ls (.int y :: .int x :: st) S := by
  intro p e s m args below meth c C H locs la hP hS hl
  exact lv_idiv C.1 C.2.1 hd hne (kk p e s m args below meth c C H locs la hP hS hl)
theorem r_irem {G : ovG} {k : ovM} {R : Room} {cells slots : Nat} {Z : List Frame → Array Value → State → State → Prop} {pc : Nat} {ls : List (Option Value)} {st : List Value} {S : ovS} {x y : Int32} (hd : decode k.2.1 pc = .ok (.irem, 1)) (hne : ¬ y = 0) (kk : RW G k R cells slots Z (pc + 1) ls (.int (x - x / y * y) :: st) S) : RW G k R cells slots Z (pc) ls (.int y :: .int x :: st) S := by
  intro p e s m args below meth c C H locs la hP hS hl
  exact lv_irem C.1 C.2.1 hd hne (kk p e s m args below meth c C H locs la hP hS hl)
theorem r_lor {G : ovG} {k : ovM} {R : Room} {cells slots : Nat} {Z : List Frame → Array Value → State → State → Prop} {pc : Nat} {ls : List (Option Value)} {st : List Value} {S : ovS} {x y : Int64} (hd : decode k.2.1 pc = .ok (.lor, 1)) (kk : RW G k R cells slots Z (pc + 1) ls (.long (x ||| y) :: st) S) : RW G k R cells slots Z (pc) ls (.long y :: .long x :: st) S := by
  intro p e s m args below meth c C H locs la hP hS hl
  exact lv_lor C.1 C.2.1 hd (kk p e s m args below meth c C H locs la hP hS hl)
theorem r_lcmp {G : ovG} {k : ovM} {R : Room} {cells slots : Nat} {Z : List Frame → Array Value → State → State → Prop} {pc : Nat} {ls : List (Option Value)} {st : List Value} {S : ovS} {x y : Int64} (hd : decode k.2.1 pc = .ok (.lcmp, 1)) (kk : RW G k R cells slots Z (pc + 1) ls (.int (lg_cmp x y) :: st) S) : RW G k R cells slots Z (pc) ls (.long y :: .long x :: st) S := by
  intro p e s m args below meth c C H locs la hP hS hl
  exact W.lcmp C.1 C.2.1 hd (kk p e s m args below meth c C H locs la hP hS hl)
theorem r_iushr {G : ovG} {k : ovM} {R : Room} {cells slots : Nat} {Z : List Frame → Array Value → State → State → Prop} {pc : Nat} {ls : List (Option Value)} {st : List Value} {S : ovS} {x y : Int32} (hd : decode k.2.1 pc = .ok (.iushr, 1)) (kk : RW G k R cells slots Z (pc + 1) ls (.int ((x.toUInt32 >>> (y.toUInt32 &&& Int32.toUInt32 31)).toInt32) :: st) S) : RW G k R cells slots Z (pc) ls (.int y :: .int x :: st) S := by
  intro p e s m args below meth c C H locs la hP hS hl
  exact lv_iushr C.1 C.2.1 hd rfl (kk p e s m args below meth c C H locs la hP hS hl)
theorem r_lshl {G : ovG} {k : ovM} {R : Room} {cells slots : Nat} {Z : List Frame → Array Value → State → State → Prop} {pc : Nat} {ls : List (Option Value)} {st : List Value} {S : ovS} {x : Int64} {y : Int32} (hd : decode k.2.1 pc = .ok (.lshl, 1)) (kk : RW G k R cells slots Z (pc + 1) ls (.long (x <<< (y.toInt64 &&& 63)) :: st) S) : RW G k R cells slots Z (pc) ls (.int y :: .long x :: st) S := by
  intro p e s m args below meth c C H locs la hP hS hl
  exact lv_lshl C.1 C.2.1 hd rfl (kk p e s m args below meth c C H locs la hP hS hl)
theorem r_i2l {G : ovG} {k : ovM} {R : Room} {cells slots : Nat} {Z : List Frame → Array Value → State → State → Prop} {pc : Nat} {ls : List (Option Value)} {st : List Value} {S : ovS} {x : Int32} (hd : decode k.2.1 pc = .ok (.i2l, 1)) (kk : RW G k R cells slots Z (pc + 1) ls (.long x.toInt64 :: st) S) : RW G k R cells slots Z (pc) ls (.int x :: st) S := by
  intro p e s m args below meth c C H locs la hP hS hl
  exact lv_i2l C.1 C.2.1 hd rfl (kk p e s m args below meth c C H locs la hP hS hl)
theorem r_i2b {G : ovG} {k : ovM} {R : Room} {cells slots : Nat} {Z : List Frame → Array Value → State → State → Prop} {pc : Nat} {ls : List (Option Value)} {st : List Value} {S : ovS} {x : Int32} (hd : decode k.2.1 pc = .ok (.i2b, 1)) (kk : RW G k R cells slots Z (pc + 1) ls (.int x.toInt8.toInt32 :: st) S) : RW G k R cells slots Z (pc) ls (.int x :: st) S := by
  intro p e s m args below meth c C H locs la hP hS hl
  exact lv_i2b C.1 C.2.1 hd rfl (kk p e s m args below meth c C H locs la hP hS hl)
theorem r_i2c {G : ovG} {k : ovM} {R : Room} {cells slots : Nat} {Z : List Frame → Array Value → State → State → Prop} {pc : Nat} {ls : List (Option Value)} {st : List Value} {S : ovS} {x : Int32} (hd : decode k.2.1 pc = .ok (.i2c, 1)) (kk : RW G k R cells slots Z (pc + 1) ls (.int (x.toUInt32 % 65536).toInt32 :: st) S) : RW G k R cells slots Z (pc) ls (.int x :: st) S := by
  intro p e s m args below meth c C H locs la hP hS hl
  exact lv_i2c C.1 C.2.1 hd rfl (kk p e s m args below meth c C H locs la hP hS hl)
theorem r_dup {G : ovG} {k : ovM} {R : Room} {cells slots : Nat} {Z : List Frame → Array Value → State → State → Prop} {pc : Nat} {ls : List (Option Value)} {st : List Value} {S : ovS} {a : Value} (hd : decode k.2.1 pc = .ok (.dup, 1)) (ha : a.category = 1) (kk : RW G k R cells slots Z (pc + 1) ls (a :: a :: st) S) : RW G k R cells slots Z (pc) ls (a :: st) S := by
  intro p e s m args below meth c C H locs la hP hS hl
  exact lv_dup C.1 C.2.1 hd ((otr_cat a).trans ha) (kk p e s m args below meth c C H locs la hP hS hl)
theorem r_dup2 {G : ovG} {k : ovM} {R : Room} {cells slots : Nat} {Z : List Frame → Array Value → State → State → Prop} {pc : Nat} {ls : List (Option Value)} {st : List Value} {S : ovS} {a b : Value} (hd : decode k.2.1 pc = .ok (.dup2, 1)) (ha : a.category = 1) (hb : b.category = 1) (kk : RW G k R cells slots Z (pc + 1) ls (a :: b :: a :: b :: st) S) : RW G k R cells slots Z (pc) ls (a :: b :: st) S := by
  intro p e s m args below meth c C H locs la hP hS hl
  exact lv_dup2_11 C.1 C.2.1 hd ((otr_cat a).trans ha) ((otr_cat b).trans hb) (kk p e s m args below meth c C H locs la hP hS hl)
theorem r_pop {G : ovG} {k : ovM} {R : Room} {cells slots : Nat} {Z : List Frame → Array Value → State → State → Prop} {pc : Nat} {ls : List (Option Value)} {st : List Value} {S : ovS} {a : Value} (hd : decode k.2.1 pc = .ok (.pop, 1)) (ha : a.category = 1) (kk : RW G k R cells slots Z (pc + 1) ls st S) : RW G k R cells slots Z (pc) ls (a :: st) S := by
  intro p e s m args below meth c C H locs la hP hS hl
  exact lv_pop C.1 C.2.1 hd ((otr_cat a).trans ha) (kk p e s m args below meth c C H locs la hP hS hl)
theorem r_if_eq {G : ovG} {k : ovM} {R : Room} {cells slots : Nat} {Z : List Frame → Array Value → State → State → Prop} {pc : Nat} {ls : List (Option Value)} {st : List Value} {S : ovS} {x : Int32} {off : Int} {tgt : Nat} (hd : decode k.2.1 pc = .ok (.ifCond .eq off, 3)) (ht : (pc : Int) + off = (tgt : Int)) (kt : x = 0 → RW G k R cells slots Z (tgt) ls st S) (kf : ¬ x = 0 → RW G k R cells slots Z (pc + 3) ls st S) : RW G k R cells slots Z (pc) ls (.int x :: st) S := by
  intro p e s m args below meth c C H locs la hP hS hl
  exact lv_if_eq C.1 C.2.1 hd ht (fun q => kt q p e s m args below meth c C H locs la hP hS hl) (fun q => kf q p e s m args below meth c C H locs la hP hS hl)
theorem r_icmp_eq {G : ovG} {k : ovM} {R : Room} {cells slots : Nat} {Z : List Frame → Array Value → State → State → Prop} {pc : Nat} {ls : List (Option Value)} {st : List Value} {S : ovS} {x y : Int32} {off : Int} {tgt : Nat} (hd : decode k.2.1 pc = .ok (.if_icmp .eq off, 3)) (ht : (pc : Int) + off = (tgt : Int)) (kt : x = y → RW G k R cells slots Z (tgt) ls st S) (kf : ¬ x = y → RW G k R cells slots Z (pc + 3) ls st S) : RW G k R cells slots Z (pc) ls (.int y :: .int x :: st) S := by
  intro p e s m args below meth c C H locs la hP hS hl
  exact lv_icmp_eq C.1 C.2.1 hd ht (fun q => kt q p e s m args below meth c C H locs la hP hS hl) (fun q => kf q p e s m args below meth c C H locs la hP hS hl)
theorem r_if_ne {G : ovG} {k : ovM} {R : Room} {cells slots : Nat} {Z : List Frame → Array Value → State → State → Prop} {pc : Nat} {ls : List (Option Value)} {st : List Value} {S : ovS} {x : Int32} {off : Int} {tgt : Nat} (hd : decode k.2.1 pc = .ok (.ifCond .ne off, 3)) (ht : (pc : Int) + off = (tgt : Int)) (kt : ¬ x = 0 → RW G k R cells slots Z (tgt) ls st S) (kf : x = 0 → RW G k R cells slots Z (pc + 3) ls st S) : RW G k R cells slots Z (pc) ls (.int x :: st) S := by
  intro p e s m args below meth c C H locs la hP hS hl
  exact lv_if_ne C.1 C.2.1 hd ht (fun q => kt q p e s m args below meth c C H locs la hP hS hl) (fun q => kf q p e s m args below meth c C H locs la hP hS hl)
theorem r_icmp_ne {G : ovG} {k : ovM} {R : Room} {cells slots : Nat} {Z : List Frame → Array Value → State → State → Prop} {pc : Nat} {ls : List (Option Value)} {st : List Value} {S : ovS} {x y : Int32} {off : Int} {tgt : Nat} (hd : decode k.2.1 pc = .ok (.if_icmp .ne off, 3)) (ht : (pc : Int) + off = (tgt : Int)) (kt : ¬ x = y → RW G k R cells slots Z (tgt) ls st S) (kf : x = y → RW G k R cells slots Z (pc + 3) ls st S) : RW G k R cells slots Z (pc) ls (.int y :: .int x :: st) S := by
  intro p e s m args below meth c C H locs la hP hS hl
  exact lv_icmp_ne C.1 C.2.1 hd ht (fun q => kt q p e s m args below meth c C H locs la hP hS hl) (fun q => kf q p e s m args below meth c C H locs la hP hS hl)
theorem r_if_lt {G : ovG} {k : ovM} {R : Room} {cells slots : Nat} {Z : List Frame → Array Value → State → State → Prop} {pc : Nat} {ls : List (Option Value)} {st : List Value} {S : ovS} {x : Int32} {off : Int} {tgt : Nat} (hd : decode k.2.1 pc = .ok (.ifCond .lt off, 3)) (ht : (pc : Int) + off = (tgt : Int)) (kt : x < 0 → RW G k R cells slots Z (tgt) ls st S) (kf : ¬ x < 0 → RW G k R cells slots Z (pc + 3) ls st S) : RW G k R cells slots Z (pc) ls (.int x :: st) S := by
  intro p e s m args below meth c C H locs la hP hS hl
  exact lv_if_lt C.1 C.2.1 hd ht (fun q => kt q p e s m args below meth c C H locs la hP hS hl) (fun q => kf q p e s m args below meth c C H locs la hP hS hl)
theorem r_icmp_lt {G : ovG} {k : ovM} {R : Room} {cells slots : Nat} {Z : List Frame → Array Value → State → State → Prop} {pc : Nat} {ls : List (Option Value)} {st : List Value} {S : ovS} {x y : Int32} {off : Int} {tgt : Nat} (hd : decode k.2.1 pc = .ok (.if_icmp .lt off, 3)) (ht : (pc : Int) + off = (tgt : Int)) (kt : x < y → RW G k R cells slots Z (tgt) ls st S) (kf : ¬ x < y → RW G k R cells slots Z (pc + 3) ls st S) : RW G k R cells slots Z (pc) ls (.int y :: .int x :: st) S := by
  intro p e s m args below meth c C H locs la hP hS hl
  exact lv_icmp_lt C.1 C.2.1 hd ht (fun q => kt q p e s m args below meth c C H locs la hP hS hl) (fun q => kf q p e s m args below meth c C H locs la hP hS hl)
theorem r_if_ge {G : ovG} {k : ovM} {R : Room} {cells slots : Nat} {Z : List Frame → Array Value → State → State → Prop} {pc : Nat} {ls : List (Option Value)} {st : List Value} {S : ovS} {x : Int32} {off : Int} {tgt : Nat} (hd : decode k.2.1 pc = .ok (.ifCond .ge off, 3)) (ht : (pc : Int) + off = (tgt : Int)) (kt : 0 ≤ x → RW G k R cells slots Z (tgt) ls st S) (kf : ¬ 0 ≤ x → RW G k R cells slots Z (pc + 3) ls st S) : RW G k R cells slots Z (pc) ls (.int x :: st) S := by
  intro p e s m args below meth c C H locs la hP hS hl
  exact lv_if_ge C.1 C.2.1 hd ht (fun q => kt q p e s m args below meth c C H locs la hP hS hl) (fun q => kf q p e s m args below meth c C H locs la hP hS hl)
theorem r_icmp_ge {G : ovG} {k : ovM} {R : Room} {cells slots : Nat} {Z : List Frame → Array Value → State → State → Prop} {pc : Nat} {ls : List (Option Value)} {st : List Value} {S : ovS} {x y : Int32} {off : Int} {tgt : Nat} (hd : decode k.2.1 pc = .ok (.if_icmp .ge off, 3)) (ht : (pc : Int) + off = (tgt : Int)) (kt : y ≤ x → RW G k R cells slots Z (tgt) ls st S) (kf : ¬ y ≤ x → RW G k R cells slots Z (pc + 3) ls st S) : RW G k R cells slots Z (pc) ls (.int y :: .int x :: st) S := by
  intro p e s m args below meth c C H locs la hP hS hl
  exact lv_icmp_ge C.1 C.2.1 hd ht (fun q => kt q p e s m args below meth c C H locs la hP hS hl) (fun q => kf q p e s m args below meth c C H locs la hP hS hl)
theorem r_if_gt {G : ovG} {k : ovM} {R : Room} {cells slots : Nat} {Z : List Frame → Array Value → State → State → Prop} {pc : Nat} {ls : List (Option Value)} {st : List Value} {S : ovS} {x : Int32} {off : Int} {tgt : Nat} (hd : decode k.2.1 pc = .ok (.ifCond .gt off, 3)) (ht : (pc : Int) + off = (tgt : Int)) (kt : 0 < x → RW G k R cells slots Z (tgt) ls st S) (kf : ¬ 0 < x → RW G k R cells slots Z (pc + 3) ls st S) : RW G k R cells slots Z (pc) ls (.int x :: st) S := by
  intro p e s m args below meth c C H locs la hP hS hl
  exact lv_if_gt C.1 C.2.1 hd ht (fun q => kt q p e s m args below meth c C H locs la hP hS hl) (fun q => kf q p e s m args below meth c C H locs la hP hS hl)
theorem r_icmp_gt {G : ovG} {k : ovM} {R : Room} {cells slots : Nat} {Z : List Frame → Array Value → State → State → Prop} {pc : Nat} {ls : List (Option Value)} {st : List Value} {S : ovS} {x y : Int32} {off : Int} {tgt : Nat} (hd : decode k.2.1 pc = .ok (.if_icmp .gt off, 3)) (ht : (pc : Int) + off = (tgt : Int)) (kt : y < x → RW G k R cells slots Z (tgt) ls st S) (kf : ¬ y < x → RW G k R cells slots Z (pc + 3) ls st S) : RW G k R cells slots Z (pc) ls (.int y :: .int x :: st) S := by
  intro p e s m args below meth c C H locs la hP hS hl
  exact lv_icmp_gt C.1 C.2.1 hd ht (fun q => kt q p e s m args below meth c C H locs la hP hS hl) (fun q => kf q p e s m args below meth c C H locs la hP hS hl)
theorem r_if_le {G : ovG} {k : ovM} {R : Room} {cells slots : Nat} {Z : List Frame → Array Value → State → State → Prop} {pc : Nat} {ls : List (Option Value)} {st : List Value} {S : ovS} {x : Int32} {off : Int} {tgt : Nat} (hd : decode k.2.1 pc = .ok (.ifCond .le off, 3)) (ht : (pc : Int) + off = (tgt : Int)) (kt : x ≤ 0 → RW G k R cells slots Z (tgt) ls st S) (kf : ¬ x ≤ 0 → RW G k R cells slots Z (pc + 3) ls st S) : RW G k R cells slots Z (pc) ls (.int x :: st) S := by
  intro p e s m args below meth c C H locs la hP hS hl
  exact lv_if_le C.1 C.2.1 hd ht (fun q => kt q p e s m args below meth c C H locs la hP hS hl) (fun q => kf q p e s m args below meth c C H locs la hP hS hl)
theorem r_icmp_le {G : ovG} {k : ovM} {R : Room} {cells slots : Nat} {Z : List Frame → Array Value → State → State → Prop} {pc : Nat} {ls : List (Option Value)} {st : List Value} {S : ovS} {x y : Int32} {off : Int} {tgt : Nat} (hd : decode k.2.1 pc = .ok (.if_icmp .le off, 3)) (ht : (pc : Int) + off = (tgt : Int)) (kt : x ≤ y → RW G k R cells slots Z (tgt) ls st S) (kf : ¬ x ≤ y → RW G k R cells slots Z (pc + 3) ls st S) : RW G k R cells slots Z (pc) ls (.int y :: .int x :: st) S := by
  intro p e s m args below meth c C H locs la hP hS hl
  exact lv_icmp_le C.1 C.2.1 hd ht (fun q => kt q p e s m args below meth c C H locs la hP hS hl) (fun q => kf q p e s m args below meth c C H locs la hP hS hl)
theorem r_goto {G : ovG} {k : ovM} {R : Room} {cells slots : Nat} {Z : List Frame → Array Value → State → State → Prop} {pc : Nat} {ls : List (Option Value)} {st : List Value} {S : ovS} {off : Int} {tgt : Nat} (hd : decode k.2.1 pc = .ok (.goto off, 3)) (ht : (pc : Int) + off = (tgt : Int)) (kk : RW G k R cells slots Z (tgt) ls st S) : RW G k R cells slots Z (pc) ls st S := by
  intro p e s m args below meth c C H locs la hP hS hl
  exact lv_goto C.1 C.2.1 hd ht (kk p e s m args below meth c C H locs la hP hS hl)
theorem r_tableOut {G : ovG} {k : ovM} {R : Room} {cells slots : Nat} {Z : List Frame → Array Value → State → State → Prop} {pc : Nat} {ls : List (Option Value)} {st : List Value} {S : ovS} {dflt lo hi : Int} {offs : Array Int} {len : Nat} {x : Int32} {tgt : Nat} (hd : decode k.2.1 pc = .ok (.tableswitch dflt lo hi offs, len)) (h : x.toInt < lo ∨ hi < x.toInt) (ht : (pc : Int) + dflt = (tgt : Int)) (kk : RW G k R cells slots Z (tgt) ls st S) : RW G k R cells slots Z (pc) ls (.int x :: st) S := by
  intro p e s m args below meth c C H locs la hP hS hl
  exact lv_tableOut C.1 C.2.1 hd h ht (kk p e s m args below meth c C H locs la hP hS hl)
theorem r_tableIn {G : ovG} {k : ovM} {R : Room} {cells slots : Nat} {Z : List Frame → Array Value → State → State → Prop} {pc : Nat} {ls : List (Option Value)} {st : List Value} {S : ovS} {dflt lo hi : Int} {offs : Array Int} {len : Nat} {x : Int32} {off : Int} {tgt : Nat} (hd : decode k.2.1 pc = .ok (.tableswitch dflt lo hi offs, len)) (h1 : ¬ x.toInt < lo) (h2 : ¬ hi < x.toInt) (ho : offs[(x.toInt - lo).toNat]? = some off) (ht : (pc : Int) + off = (tgt : Int)) (kk : RW G k R cells slots Z (tgt) ls st S) : RW G k R cells slots Z (pc) ls (.int x :: st) S := by
  intro p e s m args below meth c C H locs la hP hS hl
  exact lv_tableIn C.1 C.2.1 hd h1 h2 ho ht (kk p e s m args below meth c C H locs la hP hS hl)
theorem r_lookup {G : ovG} {k : ovM} {R : Room} {cells slots : Nat} {Z : List Frame → Array Value → State → State → Prop} {pc : Nat} {ls : List (Option Value)} {st : List Value} {S : ovS} {dflt : Int} {ps : Array (Int × Int)} {len : Nat} {x : Int32} {off : Int} {tgt : Nat} (hd : decode k.2.1 pc = .ok (.lookupswitch dflt ps, len)) (hp : (ps.toList.zip (ps.toList.drop 1)).all (fun (a, next) => a.1 < next.1) = true) (ho : Op.lookupswitch.offset ps.toList dflt x.toInt = off) (ht : (pc : Int) + off = (tgt : Int)) (kk : RW G k R cells slots Z (tgt) ls st S) : RW G k R cells slots Z (pc) ls (.int x :: st) S := by
  intro p e s m args below meth c C H locs la hP hS hl
  exact lv_lookup C.1 C.2.1 hd hp ho ht (kk p e s m args below meth c C H locs la hP hS hl)
theorem r_ldc {G : ovG} {k : ovM} {R : Room} {cells slots : Nat} {Z : List Frame → Array Value → State → State → Prop} {pc : Nat} {ls : List (Option Value)} {st : List Value} {S : ovS} {index : Nat} {v : Int32} (hw : Cond.constant k.1.cls index v ∈ tblG) (hd : decode k.2.1 pc = .ok (.ldc index, 2)) (kk : RW G k R cells slots Z (pc + 2) ls (.int v :: st) S) : RW G k R cells slots Z (pc) ls st S := by
  intro p e s m args below meth c C H locs la hP hS hl
  exact lv_ldc C.1 C.2.1 C.2.2.2.2.1 (C.2.2.2.2.2.1 _ hw) hd (kk p e s m args below meth c C H locs la hP hS hl)
theorem r_ldcw {G : ovG} {k : ovM} {R : Room} {cells slots : Nat} {Z : List Frame → Array Value → State → State → Prop} {pc : Nat} {ls : List (Option Value)} {st : List Value} {S : ovS} {index : Nat} {v : Int32} (hw : Cond.constant k.1.cls index v ∈ tblG) (hd : decode k.2.1 pc = .ok (.ldc_w index, 3)) (kk : RW G k R cells slots Z (pc + 3) ls (.int v :: st) S) : RW G k R cells slots Z (pc) ls st S := by
  intro p e s m args below meth c C H locs la hP hS hl
  exact lv_ldcw C.1 C.2.1 C.2.2.2.2.1 (C.2.2.2.2.2.1 _ hw) hd (kk p e s m args below meth c C H locs la hP hS hl)
theorem r_ldc2 {G : ovG} {k : ovM} {R : Room} {cells slots : Nat} {Z : List Frame → Array Value → State → State → Prop} {pc : Nat} {ls : List (Option Value)} {st : List Value} {S : ovS} {index : Nat} {v : Int64} (hw : Cond.constantLong k.1.cls index v ∈ tblG) (hd : decode k.2.1 pc = .ok (.ldc2_w index, 3)) (kk : RW G k R cells slots Z (pc + 3) ls (.long v :: st) S) : RW G k R cells slots Z (pc) ls st S := by
  intro p e s m args below meth c C H locs la hP hS hl
  exact lv_ldc2 C.1 C.2.1 C.2.2.2.2.1 (C.2.2.2.2.2.1 _ hw) hd (kk p e s m args below meth c C H locs la hP hS hl)
theorem r_getI {G : ovG} {k : ovM} {R : Room} {cells slots : Nat} {Z : List Frame → Array Value → State → State → Prop} {pc : Nat} {ls : List (Option Value)} {st : List Value} {S : ovS} {o ci j index : Nat} {C : String} {T : u_T} {N : Nat} (hw : Cond.fieldLink k.1.cls index C (T j).2.1 (T j).2.2.1 ∈ tblG) (hin : ∀ w ∈ u_ws C T N, w ∈ tblG) (hc : vwCl[ci]? = some (C, T, N)) (hC : (T j).1 = C) (ho : ocl o = ci) (hci : ci < 13) (hj : j < N) (hN : ofn ci = N) (hk : ofk ci j = (0, 0)) (hd : decode k.2.1 pc = .ok (.getfield index, 3)) (kk : RW G k R cells slots Z (pc + 3) ls (.int (S.1 o j) :: st) S) : RW G k R cells slots Z (pc) ls (.ref o :: st) S := by
  intro p e s m args below meth c C0 H locs la hP hS hl
  have hlt := ocl_lt ho (by omega)
  refine va_get C0.1 C0.2.1 C0.2.2.2.2.2.1 hin C0.2.2.2.2.1 C0.2.2.2.2.2.2.1 hP o (fs := (List.range (ofn ci)).map (ofv G S o ci)) ((ows_at hlt).trans (by rw [oce_obj ho hci])) hc j hj (C0.2.2.2.2.2.1 _ hw) (fun x q => by rw [← hC]; exact q) (v := .int (S.1 o j)) ?_ hd (kk p e s m args below meth c C0 H locs la hP hS hl)
  rw [List.getElem?_map, List.getElem?_range (by rw [hN]; exact hj)]
  simp only [Option.map_some, ofv, hk]
theorem r_getJ {G : ovG} {k : ovM} {R : Room} {cells slots : Nat} {Z : List Frame → Array Value → State → State → Prop} {pc : Nat} {ls : List (Option Value)} {st : List Value} {S : ovS} {o ci j index : Nat} {C : String} {T : u_T} {N : Nat} (hw : Cond.fieldLink k.1.cls index C (T j).2.1 (T j).2.2.1 ∈ tblG) (hin : ∀ w ∈ u_ws C T N, w ∈ tblG) (hc : vwCl[ci]? = some (C, T, N)) (hC : (T j).1 = C) (ho : ocl o = ci) (hci : ci < 13) (hj : j < N) (hN : ofn ci = N) (hk : ofk ci j = (1, 0)) (hd : decode k.2.1 pc = .ok (.getfield index, 3)) (kk : RW G k R cells slots Z (pc + 3) ls (.long (S.2 o j) :: st) S) : RW G k R cells slots Z (pc) ls (.ref o :: st) S := by
  intro p e s m args below meth c C0 H locs la hP hS hl
  have hlt := ocl_lt ho (by omega)
  refine va_get C0.1 C0.2.1 C0.2.2.2.2.2.1 hin C0.2.2.2.2.1 C0.2.2.2.2.2.2.1 hP o (fs := (List.range (ofn ci)).map (ofv G S o ci)) ((ows_at hlt).trans (by rw [oce_obj ho hci])) hc j hj (C0.2.2.2.2.2.1 _ hw) (fun x q => by rw [← hC]; exact q) (v := .long (S.2 o j)) ?_ hd (kk p e s m args below meth c C0 H locs la hP hS hl)
  rw [List.getElem?_map, List.getElem?_range (by rw [hN]; exact hj)]
  simp only [Option.map_some, ofv, hk]
theorem r_getR {G : ovG} {k : ovM} {R : Room} {cells slots : Nat} {Z : List Frame → Array Value → State → State → Prop} {pc : Nat} {ls : List (Option Value)} {st : List Value} {S : ovS} {o ci j index : Nat} {C : String} {T : u_T} {N : Nat} (hw : Cond.fieldLink k.1.cls index C (T j).2.1 (T j).2.2.1 ∈ tblG) (hin : ∀ w ∈ u_ws C T N, w ∈ tblG) (hc : vwCl[ci]? = some (C, T, N)) (hC : (T j).1 = C) (ho : ocl o = ci) (hci : ci < 13) (hj : j < N) (hN : ofn ci = N) {q : Nat} (hk : ofk ci j = (2, q)) (hd : decode k.2.1 pc = .ok (.getfield index, 3)) (kk : RW G k R cells slots Z (pc + 3) ls (.ref (o + q) :: st) S) : RW G k R cells slots Z (pc) ls (.ref o :: st) S := by
  intro p e s m args below meth c C0 H locs la hP hS hl
  have hlt := ocl_lt ho (by omega)
  refine va_get C0.1 C0.2.1 C0.2.2.2.2.2.1 hin C0.2.2.2.2.1 C0.2.2.2.2.2.2.1 hP o (fs := (List.range (ofn ci)).map (ofv G S o ci)) ((ows_at hlt).trans (by rw [oce_obj ho hci])) hc j hj (C0.2.2.2.2.2.1 _ hw) (fun x q => by rw [← hC]; exact q) (v := .ref (oad G (o + q))) ?_ hd (kk p e s m args below meth c C0 H locs la hP hS hl)
  rw [List.getElem?_map, List.getElem?_range (by rw [hN]; exact hj)]
  simp only [Option.map_some, ofv, hk]
theorem r_getA {G : ovG} {k : ovM} {R : Room} {cells slots : Nat} {Z : List Frame → Array Value → State → State → Prop} {pc : Nat} {ls : List (Option Value)} {st : List Value} {S : ovS} {o ci j index : Nat} {C : String} {T : u_T} {N : Nat} (hw : Cond.fieldLink k.1.cls index C (T j).2.1 (T j).2.2.1 ∈ tblG) (hin : ∀ w ∈ u_ws C T N, w ∈ tblG) (hc : vwCl[ci]? = some (C, T, N)) (hC : (T j).1 = C) (ho : ocl o = ci) (hci : ci < 13) (hj : j < N) (hN : ofn ci = N) {q : Nat} (hk : ofk ci j = (3, q)) (hd : decode k.2.1 pc = .ok (.getfield index, 3)) (kk : RW G k R cells slots Z (pc + 3) ls (.ref q :: st) S) : RW G k R cells slots Z (pc) ls (.ref o :: st) S := by
  intro p e s m args below meth c C0 H locs la hP hS hl
  have hlt := ocl_lt ho (by omega)
  refine va_get C0.1 C0.2.1 C0.2.2.2.2.2.1 hin C0.2.2.2.2.1 C0.2.2.2.2.2.2.1 hP o (fs := (List.range (ofn ci)).map (ofv G S o ci)) ((ows_at hlt).trans (by rw [oce_obj ho hci])) hc j hj (C0.2.2.2.2.2.1 _ hw) (fun x q => by rw [← hC]; exact q) (v := .ref (oad G q)) ?_ hd (kk p e s m args below meth c C0 H locs la hP hS hl)
  rw [List.getElem?_map, List.getElem?_range (by rw [hN]; exact hj)]
  simp only [Option.map_some, ofv, hk]
