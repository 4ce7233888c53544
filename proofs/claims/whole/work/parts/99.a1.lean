/-! the constructors: words -/
theorem nmlL_9 : Cond.methodLink RL 9 yX11_init ∈ tblG := tblG_of 134 (by decide +kernel) (by decide +kernel)
theorem nmlX11_15 : Cond.methodLink RX11 15 yX5_init ∈ tblG := tblG_of 142 (by decide +kernel) (by decide +kernel)
theorem nmlX5_27 : Cond.methodLink RX5 27 yX7_init ∈ tblG := tblG_of 230 (by decide +kernel) (by decide +kernel)
theorem nmlX5_36 : Cond.methodLink RX5 36 yX2_init ∈ tblG := tblG_of 266 (by decide +kernel) (by decide +kernel)
theorem nmlX11_42 : Cond.methodLink RX11 42 yX3_init ∈ tblG := tblG_of 397 (by decide +kernel) (by decide +kernel)
theorem nmlX11_57 : Cond.methodLink RX11 57 yX0_init ∈ tblG := tblG_of 421 (by decide +kernel) (by decide +kernel)
theorem nmlX11_66 : Cond.methodLink RX11 66 yX8_init ∈ tblG := tblG_of 452 (by decide +kernel) (by decide +kernel)
theorem nmlX11_75 : Cond.methodLink RX11 75 yX4_init ∈ tblG := tblG_of 485 (by decide +kernel) (by decide +kernel)
theorem nmlX11_82 : Cond.methodLink RX11 82 yX6_init ∈ tblG := tblG_of 513 (by decide +kernel) (by decide +kernel)
theorem nmlL_12 : Cond.methodLink RL 12 yX12_init ∈ tblG := tblG_of 1382 (by decide +kernel) (by decide +kernel)
def nb0 : List Value := [.null, .null, .null, .null, .null, .null, .int 0]
theorem nfs0 : ∀ j, j < 7 → defaultValue (tyX0 j) = vp_V nb0 j := fun j hj => match j, hj with
  | 0, _ => rfl
  | 1, _ => rfl
  | 2, _ => rfl
  | 3, _ => rfl
  | 4, _ => rfl
  | 5, _ => rfl
  | 6, _ => rfl
  | j + 7, h => absurd h (by omega)
def nb1 : List Value := [.int 0, .int 0, .null, .null, .null]
theorem nfs1 : ∀ j, j < 5 → defaultValue (tyX1 j) = vp_V nb1 j := fun j hj => match j, hj with
  | 0, _ => rfl
  | 1, _ => rfl
  | 2, _ => rfl
  | 3, _ => rfl
  | 4, _ => rfl
  | j + 5, h => absurd h (by omega)
def nb2 : List Value := [.null, .null, .null, .null, .int 0, .int 0, .int 0, .int 0, .int 0]
theorem nfs2 : ∀ j, j < 9 → defaultValue (tyX2 j) = vp_V nb2 j := fun j hj => match j, hj with
  | 0, _ => rfl
  | 1, _ => rfl
  | 2, _ => rfl
  | 3, _ => rfl
  | 4, _ => rfl
  | 5, _ => rfl
  | 6, _ => rfl
  | 7, _ => rfl
  | 8, _ => rfl
  | j + 9, h => absurd h (by omega)
def nb3 : List Value := [.int 0, .int 0, .int 0, .null]
theorem nfs3 : ∀ j, j < 4 → defaultValue (tyX3 j) = vp_V nb3 j := fun j hj => match j, hj with
  | 0, _ => rfl
  | 1, _ => rfl
  | 2, _ => rfl
  | 3, _ => rfl
  | j + 4, h => absurd h (by omega)
def nb4 : List Value := [.null, .null, .int 0, .int 0, .int 0, .null, .null]
theorem nfs4 : ∀ j, j < 7 → defaultValue (tyX4 j) = vp_V nb4 j := fun j hj => match j, hj with
  | 0, _ => rfl
  | 1, _ => rfl
  | 2, _ => rfl
  | 3, _ => rfl
  | 4, _ => rfl
  | 5, _ => rfl
  | 6, _ => rfl
  | j + 7, h => absurd h (by omega)
def nb5 : List Value := [.null, .int 0, .int 0, .null, .null, .null, .null, .int 0, .int 0, .int 0, .int 0]
theorem nfs5 : ∀ j, j < 11 → defaultValue (tyX5 j) = vp_V nb5 j := fun j hj => match j, hj with
  | 0, _ => rfl
  | 1, _ => rfl
  | 2, _ => rfl
  | 3, _ => rfl
  | 4, _ => rfl
  | 5, _ => rfl
  | 6, _ => rfl
  | 7, _ => rfl
  | 8, _ => rfl
  | 9, _ => rfl
  | 10, _ => rfl
  | j + 11, h => absurd h (by omega)
def nb6 : List Value := [.null, .int 0, .int 0, .null, .null, .null, .null, .null, .null, .null, .null, .null, .null, .null, .int 0]
theorem nfs6 : ∀ j, j < 15 → defaultValue (tyX6 j) = vp_V nb6 j := fun j hj => match j, hj with
  | 0, _ => rfl
  | 1, _ => rfl
  | 2, _ => rfl
  | 3, _ => rfl
  | 4, _ => rfl
  | 5, _ => rfl
  | 6, _ => rfl
  | 7, _ => rfl
  | 8, _ => rfl
  | 9, _ => rfl
  | 10, _ => rfl
  | 11, _ => rfl
  | 12, _ => rfl
  | 13, _ => rfl
  | 14, _ => rfl
  | j + 15, h => absurd h (by omega)
def nb7 : List Value := [.int 0, .int 0, .int 0, .long 0, .null, .int 0, .int 0]
theorem nfs7 : ∀ j, j < 7 → defaultValue (tyX7 j) = vp_V nb7 j := fun j hj => match j, hj with
  | 0, _ => rfl
  | 1, _ => rfl
  | 2, _ => rfl
  | 3, _ => rfl
  | 4, _ => rfl
  | 5, _ => rfl
  | 6, _ => rfl
  | j + 7, h => absurd h (by omega)
def nb8 : List Value := [.null, .null, .null, .null, .int 0, .null, .null, .int 0]
theorem nfs8 : ∀ j, j < 8 → defaultValue (tyX8 j) = vp_V nb8 j := fun j hj => match j, hj with
  | 0, _ => rfl
  | 1, _ => rfl
  | 2, _ => rfl
  | 3, _ => rfl
  | 4, _ => rfl
  | 5, _ => rfl
  | 6, _ => rfl
  | 7, _ => rfl
  | j + 8, h => absurd h (by omega)
def nb9 : List Value := [.null, .null, .null, .null, .null, .null, .null, .int 0, .int 0, .int 0]
theorem nfs9 : ∀ j, j < 10 → defaultValue (tyX9 j) = vp_V nb9 j := fun j hj => match j, hj with
  | 0, _ => rfl
  | 1, _ => rfl
  | 2, _ => rfl
  | 3, _ => rfl
  | 4, _ => rfl
  | 5, _ => rfl
  | 6, _ => rfl
  | 7, _ => rfl
  | 8, _ => rfl
  | 9, _ => rfl
  | j + 10, h => absurd h (by omega)
def nb10 : List Value := [.int 0, .int 0, .int 0, .int 0, .null, .null, .null, .null]
theorem nfs10 : ∀ j, j < 8 → defaultValue (tyX10 j) = vp_V nb10 j := fun j hj => match j, hj with
  | 0, _ => rfl
  | 1, _ => rfl
  | 2, _ => rfl
  | 3, _ => rfl
  | 4, _ => rfl
  | 5, _ => rfl
  | 6, _ => rfl
  | 7, _ => rfl
  | j + 8, h => absurd h (by omega)
def nb11 : List Value := [.null, .int 0, .null, .int 0, .int 0, .null, .null, .null, .null, .null, .null, .null, .null, .null]
theorem nfs11 : ∀ j, j < 14 → defaultValue (tyX11 j) = vp_V nb11 j := fun j hj => match j, hj with
  | 0, _ => rfl
  | 1, _ => rfl
  | 2, _ => rfl
  | 3, _ => rfl
  | 4, _ => rfl
  | 5, _ => rfl
  | 6, _ => rfl
  | 7, _ => rfl
  | 8, _ => rfl
  | 9, _ => rfl
  | 10, _ => rfl
  | 11, _ => rfl
  | 12, _ => rfl
  | 13, _ => rfl
  | j + 14, h => absurd h (by omega)
def nb12 : List Value := [.null, .int 0, .int 0, .int 0, .int 0, .int 0, .int 0, .int 0, .int 0, .long 0, .null, .null, .null, .null, .null, .null, .null, .int 0, .int 0, .int 0, .int 0, .int 0, .int 0, .int 0, .null, .null, .null, .null, .null, .int 0, .int 0, .int 0, .int 0, .int 0, .int 0, .int 0, .int 0, .int 0, .int 0, .int 0, .null, .null, .null, .null, .null, .int 0, .int 0, .null, .int 0, .int 0, .int 0, .int 0, .int 0, .int 0, .int 0, .null, .null, .null, .null, .null, .null, .null, .null, .int 0, .int 0, .null, .int 0, .null, .null, .null, .null, .null, .null]
theorem nfs12 : ∀ j, j < 73 → defaultValue (tyX12 j) = vp_V nb12 j := fun j hj => match j, hj with
  | 0, _ => rfl
  | 1, _ => rfl
  | 2, _ => rfl
  | 3, _ => rfl
  | 4, _ => rfl
  | 5, _ => rfl
  | 6, _ => rfl
  | 7, _ => rfl
  | 8, _ => rfl
  | 9, _ => rfl
  | 10, _ => rfl
  | 11, _ => rfl
  | 12, _ => rfl
  | 13, _ => rfl
  | 14, _ => rfl
  | 15, _ => rfl
  | 16, _ => rfl
  | 17, _ => rfl
  | 18, _ => rfl
  | 19, _ => rfl
  | 20, _ => rfl
  | 21, _ => rfl
  | 22, _ => rfl
  | 23, _ => rfl
  | 24, _ => rfl
  | 25, _ => rfl
  | 26, _ => rfl
  | 27, _ => rfl
  | 28, _ => rfl
  | 29, _ => rfl
  | 30, _ => rfl
  | 31, _ => rfl
  | 32, _ => rfl
  | 33, _ => rfl
  | 34, _ => rfl
  | 35, _ => rfl
  | 36, _ => rfl
  | 37, _ => rfl
  | 38, _ => rfl
  | 39, _ => rfl
  | 40, _ => rfl
  | 41, _ => rfl
  | 42, _ => rfl
  | 43, _ => rfl
  | 44, _ => rfl
  | 45, _ => rfl
  | 46, _ => rfl
  | 47, _ => rfl
  | 48, _ => rfl
  | 49, _ => rfl
  | 50, _ => rfl
  | 51, _ => rfl
  | 52, _ => rfl
  | 53, _ => rfl
  | 54, _ => rfl
  | 55, _ => rfl
  | 56, _ => rfl
  | 57, _ => rfl
  | 58, _ => rfl
  | 59, _ => rfl
  | 60, _ => rfl
  | 61, _ => rfl
  | 62, _ => rfl
  | 63, _ => rfl
  | 64, _ => rfl
  | 65, _ => rfl
  | 66, _ => rfl
  | 67, _ => rfl
  | 68, _ => rfl
  | 69, _ => rfl
  | 70, _ => rfl
  | 71, _ => rfl
  | 72, _ => rfl
  | j + 73, h => absurd h (by omega)
theorem ncf_hd {G : ovG} {S : ovS} {o : Nat} {e : va_E} {xs : List (Nat × va_E)} : ncf G S ((o, e) :: xs) o = e := by simp [ncf]
theorem ncf_tl {G : ovG} {S : ovS} {o i : Nat} {e : va_E} {xs : List (Nat × va_E)} (h : i ≠ o) : ncf G S ((o, e) :: xs) i = ncf G S xs i := by rw [ncf, if_neg h]
theorem nx_le {G : ovG} {S : ovS} {a b : Nat} {xs : List (Nat × va_E)} (h : a ≤ b) (hx : ∀ i, a ≤ i → ncf G S xs i = oce G S i) : ∀ i, b ≤ i → ncf G S xs i = oce G S i := fun i hi => hx i (by omega)
theorem nx_sub {G : ovG} {S : ovS} {h0 o : Nat} {e : va_E} {xs : List (Nat × va_E)} (h : h0 < o) (hx : ∀ i, o ≤ i → ncf G S xs i = oce G S i) : ∀ i, o ≤ i → ncf G S ((h0, e) :: xs) i = oce G S i := fun i hi => (ncf_tl (by omega)).trans (hx i hi)
theorem nx_end {G : ovG} {S : ovS} {h0 n : Nat} {e : va_E} {xs : List (Nat × va_E)} (he : e = oce G S h0) (hx : ∀ i, h0 ≤ i → ncf G S xs i = oce G S i) : ∀ i, i < n → ncf G S ((h0, e) :: xs) i = ncf G S xs i := fun i _ => by
  by_cases hi : i = h0
  · subst hi
    rw [ncf_hd, he, hx _ (Nat.le_refl _)]
  · exact ncf_tl hi
section
variable {G : ovG} {k : ovM} {R : Room} {u slots n0 : Nat} {Z : List Frame → Array Value → State → State → Prop} {pc : Nat} {ls : List (Option Value)} {st : List Value} {S : ovS} {xs : List (Nat × va_E)}
theorem n_put0 {index o N ci kd j q0 : Nat} {Cs : String} {T : u_T} {ty0 : Nat → FieldType} {fs fs' : List Value} {v : Value} (hw : Cond.fieldLink k.1.cls index Cs (T j).2.1 (T j).2.2.1 ∈ tblG) (hF : oFd ci j Cs T N kd q0) (hT : oFp T N ty0) (hfin : (T j).2.2.2 = false ∨ ((T j).2.2.2 = true ∧ k.1.name = "<init>" ∧ Cs = k.1.cls)) (hna : narrow (ty0 j) (otr G v) = otr G v) (hfi : fits (ty0 j) (otr G v) = true) (ho : o < n0 + u) (ho2 : o < ovNN) (hfl : j < fs.length) (he : fs.set j (otr G v) = fs') (hd : decode k.2.1 pc = .ok (.putfield index, 3))
    (kk : RN G k R u slots n0 Z (pc + 3) ls st ((o, .inr (ci, fs')) :: xs) S) : RN G k R u slots n0 Z pc ls (v :: .ref o :: st) ((o, .inr (ci, fs)) :: xs) S :=
  n_put hw hF hT hfin hna hfi ho ho2 ncf_hd hfl (by rw [ncf_hd, he]) (fun i hi => by rw [ncf_tl hi, ncf_tl hi]) hd kk
theorem n_put1 {index o a N ci kd j q0 : Nat} {ea : va_E} {Cs : String} {T : u_T} {ty0 : Nat → FieldType} {fs fs' : List Value} {v : Value} (hw : Cond.fieldLink k.1.cls index Cs (T j).2.1 (T j).2.2.1 ∈ tblG) (hF : oFd ci j Cs T N kd q0) (hT : oFp T N ty0) (hfin : (T j).2.2.2 = false ∨ ((T j).2.2.2 = true ∧ k.1.name = "<init>" ∧ Cs = k.1.cls)) (hna : narrow (ty0 j) (otr G v) = otr G v) (hfi : fits (ty0 j) (otr G v) = true) (ho : o < n0 + u) (ho2 : o < ovNN) (hfl : j < fs.length) (he : fs.set j (otr G v) = fs') (hao : o ≠ a) (hd : decode k.2.1 pc = .ok (.putfield index, 3))
    (kk : RN G k R u slots n0 Z (pc + 3) ls st ((a, ea) :: (o, .inr (ci, fs')) :: xs) S) : RN G k R u slots n0 Z pc ls (v :: .ref o :: st) ((a, ea) :: (o, .inr (ci, fs)) :: xs) S :=
  n_put hw hF hT hfin hna hfi ho ho2 ((ncf_tl hao).trans ncf_hd) hfl (by rw [ncf_tl hao, ncf_hd, he]) (fun i hi => by
    by_cases h : i = a
    · subst h
      rw [ncf_hd, ncf_hd]
    · rw [ncf_tl h, ncf_tl h, ncf_tl hi, ncf_tl hi]) hd kk
end
