/-! the law's own rows -/
theorem W_vac {p : Program} {l : Launch} {e : Env} {R : Room} {s : State} {m : MethodId} {args : Array Value} {below : List Frame} {meth : Method} {c : Code} {H : Heap} {locs : List Loc} {cells slots : Nat} {Q : State → Prop} {g : JFrame} (h : ∀ t, Q t) : W p l e R s m args below meth c H locs cells slots Q g := fun T _ _ => ⟨_, Steps.refl _, h _⟩
def LX (G : ovG) (L : Nat) (xs : Nat → Int32) (a : Array Value) (s : State) : Prop := a = #[Value.ref (G.2.2.2.2 451)] ∧ va_X (G.2.2.2.2 451) L xs s s.heap ∧ G.2.2.2.2 451 < s.heap.size ∧ s.heap.size = G.2.1
def lZ (G : ovG) (L : Nat) (xs : Nat → Int32) : List Frame → Array Value → State → State → Prop := fun below a s t => LX G L xs a s → lw_Z below a s t
def mL (nm : String) : ovM := (⟨RL, nm, "([I)Z"⟩, code, 4, ret)
section
variable {G : ovG} {k : ovM} {R : Room} {cells slots : Nat} {pc : Nat} {ls : List (Option Value)} {st : List Value} {S : ovS} {L : Nat} {xs : Nat → Int32}
theorem l_451 : otr G (.ref 451) = .ref (G.2.2.2.2 451) := by rw [otr, oad_x (by decide)]
theorem l_sld {i : Int32} (hin : vp_in i L) (hd : decode k.2.1 pc = .ok (.iaload, 1)) (kk : RW G k R cells slots (lZ G L xs) (pc + 1) ls (.int (xs i.toNatClampNeg) :: st) S) : RW G k R cells slots (lZ G L xs) pc ls (.int i :: .ref 451 :: st) S := by
  intro p e s m args below meth c C H locs la hP hS hl
  by_cases hX : LX G L xs args s
  · have hh := kk p e s m args below meth c C H locs la hP hS hl
    rw [List.map_cons, List.map_cons, l_451]
    refine va_sld C.1 C.2.1 hX.2.1 hX.2.2.1 (fun q => ?_) hS hin hd hh
    have q1 : G.2.1 ≤ G.2.2.2.2 451 := q
    have q2 := hX.2.2.1
    have q3 := hX.2.2.2
    omega
  · exact W_vac (fun t q => absurd q hX)
theorem l_slen {v : Int32} (hv : Int32.ofNat L = v) (hd : decode k.2.1 pc = .ok (.arraylength, 1)) (kk : RW G k R cells slots (lZ G L xs) (pc + 1) ls (.int v :: st) S) : RW G k R cells slots (lZ G L xs) pc ls (.ref 451 :: st) S := by
  intro p e s m args below meth c C H locs la hP hS hl
  subst hv
  by_cases hX : LX G L xs args s
  · have hh := kk p e s m args below meth c C H locs la hP hS hl
    rw [List.map_cons, l_451]
    refine va_slen C.1 C.2.1 hX.2.1 hX.2.2.1 (fun q => ?_) hS hd hh
    have q1 : G.2.1 ≤ G.2.2.2.2 451 := q
    have q2 := hX.2.2.1
    have q3 := hX.2.2.2
    omega
  · exact W_vac (fun t q => absurd q hX)
theorem l_ret {nm : String} (hc : cells ≤ 600000) (hs : slots ≤ 7302250) (hd : decode code pc = .ok (.ireturn, 1)) : RW G (mL nm) room_1 cells slots (lZ G L xs) pc ls [.int 1] S := by
  intro p e s m args below meth c C H locs la hP hS hl
  by_cases hX : LX G L xs args s
  · have ha := hX.1
    subst ha
    refine W.widen hc hs (va_forget (fun q hq => ?_) ?_)
    · have h1 : G.2.1 ≤ q.base := hS.2.2 q hq
      rw [hX.2.2.2]
      exact h1
    · have hw : W p G.1 e room_1 s m #[Value.ref (G.2.2.2.2 451)] below meth c H [] 600000 7302250 (lw_Z below #[Value.ref (G.2.2.2.2 451)] s) (F0 m pc la [.int 1]) := lw_ret C.1 C.2.1 C.2.2.1 C.2.2.2.2.2.2.2.1 hd
      intro T hT X
      obtain ⟨t, a1, b1⟩ := hw T hT X
      exact ⟨t, a1, fun _ => b1⟩
  · exact W_vac (fun t q => absurd q hX)
end
def lls (i : Nat) : List (Option Value) := [some (.ref 451), some (.ref 0), some (.ref 412), some (.int (nI i))]
/-- a place of the script -/
theorem l_arg {G : ovG} {nm : String} {R : Room} {cells slots pc : Nat} {st : List Value} {S : ovS} {L i : Nat} {xs : Nat → Int32} {n : Int} (j : Nat) (hL : L ≤ 3072) (hi : i + 6 ≤ L) (hj : j < 6) (hn : Int32.ofInt n = nI j) (d0 : decode code pc = .ok (.aload_n 0, 1)) (d1 : decode code (pc + 1) = .ok (.iload_n 3, 1)) (d2 : decode code (pc + 2) = .ok (.iconst n, 1)) (d3 : decode code (pc + 3) = .ok (.iadd, 1)) (d4 : decode code (pc + 4) = .ok (.iaload, 1)) (kk : RW G (mL nm) R cells slots (lZ G L xs) (pc + 5) (lls i) (.int (xs (i + j)) :: st) S) : RW G (mL nm) R cells slots (lZ G L xs) pc (lls i) st S := by
  refine r_aload_n (x := 451) d0 rfl rfl (r_iload_n (x := nI i) d1 rfl rfl (r_iconst d2 hn (r_iadd d3 ?_)))
  rw [nI_add]
  refine l_sld (vp_in_nI (by omega) (by omega)) d4 ?_
  rw [nI_ix (by omega)]
  exact kk
theorem l_cmp {L i : Nat} (hL : L ≤ 3072) (hi : i ≤ 4000) : (Int32.ofNat L - 6 < nI i) ↔ L < i + 6 := by
  have h1 : (Int32.ofNat L).toInt = (L : Int) := nI_toInt (by omega)
  have h2 : (nI i).toInt = (i : Int) := nI_toInt (by omega)
  have h3 : (6 : Int32).toInt = 6 := rfl
  rw [fa_lt, Int32.toInt_sub, h1, h2, h3, fb_bmod (by omega) (by omega)]
  omega
