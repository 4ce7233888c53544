/-! rows of States while they are filled; the History -/
theorem arrV_alike {cI : ClassId} {N : Nat} {f g : Nat → Value} (h : ∀ j, j < N → f j = g j) : arrV cI N f = arrV cI N g := by
  unfold arrV
  have : (fun j : Fin N => f j.val) = (fun j : Fin N => g j.val) := funext (fun j => h j.val j.isLt)
  rw [this]
def nrf (G : ovG) (o n : Nat) : Nat → Option Nat := fun j => if n ≤ j ∧ j < oln o then none else some (oad G (orow o j))
theorem nrf_up {G : ovG} {o n : Nat} : va_up (nrf G o n) n (some (oad G (orow o n))) = nrf G o (n + 1) := by
  funext j
  by_cases hj : j = n
  · subst hj
    rw [va_up_self, nrf, if_neg (by omega)]
  · rw [va_up_ne _ _ hj]
    simp only [nrf]
    by_cases h : n ≤ j ∧ j < oln o
    · rw [if_pos h, if_pos (by omega)]
    · rw [if_neg h, if_neg (by omega)]
theorem nrf_full {G : ovG} {o n : Nat} (h : oln o ≤ n) : nrf G o n = fun j => some (oad G (orow o j)) := by
  funext j
  rw [nrf, if_neg (by omega)]
section
variable {G : ovG} {k : ovM} {R : Room} {u slots n0 : Nat} {Z : List Frame → Array Value → State → State → Prop} {pc : Nat} {ls : List (Option Value)} {st : List Value} {S : ovS} {xs : List (Nat × va_E)}
theorem n_row {q N : Nat} {f g : Nat → Option Nat} (h : ∀ j, j < N → f j = g j) (kk : RN G k R u slots n0 Z pc ls st ((q, .inl (G.2.2.2.1 4, N, .inr (.inr (.inr (.inr g))))) :: xs) S) : RN G k R u slots n0 Z pc ls st ((q, .inl (G.2.2.2.1 4, N, .inr (.inr (.inr (.inr f))))) :: xs) S := by
  intro p e s m args below meth c C H locs la hP hS hl
  refine kk p e s m args below meth c C H locs la (fun i x hi => ?_) hS hl
  obtain ⟨hn, rfl⟩ := nws_key hi
  have h0 := hP i _ (nws_at hn)
  by_cases hq : i = q
  · subst hq
    rw [ncf_hd] at h0 ⊢
    have h1 : H[G.2.1 + i]? = some (vp_cell (G.2.2.2.1 4) (N, .inr (.inr (.inr (.inr f))))) := h0
    show H[G.2.1 + i]? = some (vp_cell (G.2.2.2.1 4) (N, .inr (.inr (.inr (.inr g)))))
    rw [h1, vp_cell_q, vp_cell_q, arrV_alike (fun j hj => by rw [h j hj])]
  · rw [ncf_tl hq] at h0 ⊢
    exact h0
end
theorem n_st33 : ∀ n, n < 41 → 34 + 8 * n ∈ ovSt := by decide +kernel
theorem n_st362 : ∀ n, n < 3 → 388 + 8 * n ∈ ovSt := by decide +kernel
theorem ctX3_32 {G : ovG} {S : ovS} {xs : List (Nat × va_E)} (hS : ∀ i, 32 ≤ i → i < 362 → S.1 i = (fun _ => 0) ∧ S.2 i = (fun _ => 0)) (hx : ∀ i, 32 ≤ i → ncf G S xs i = oce G S i) : EN G mX3_init 2 329 1886 [.ref 32] 33 S ((32, .inr (3, nb3)) :: xs) (fun S1 => S1 = S) xs := by
  have hfin : (.inr (3, [.int 0, .int 0, .int 0, .ref (oad G 33)]) : va_E) = oce G S 32 := by
    rw [oce_obj ov_c32 (by decide)]
    have h1 := (hS 32 (by omega) (by omega)).1
    have e1 : [.int (S.1 32 0), .int (S.1 32 1), .int (S.1 32 2), .ref (oad G 33)] = (List.range (ofn 3)).map (ofv G S 32 3) := rfl
    rw [← e1]
    simp only [h1]
  refine EN.of (by decide) (Nat.le_of_ble_eq_true rfl) [some (.ref 32), none] ⟨1, rfl⟩ ?_
  refine n_aload_n dX3_init_0 rfl rfl ?_
  refine n_obj nolX3 dX3_init_1 (by decide) (by decide) ?_
  refine n_aload_n dX3_init_4 rfl rfl ?_
  refine n_bipush dX3_init_5 (v := 41) (by decide) ?_
  refine n_newq (q := 33) (N := 41) nclX3_9 (by omega) (by decide) (by decide) (by decide) (by decide) (by decide) (by decide) dX3_init_7 ?_
  refine n_row (g := nrf G 33 0) (fun j hj => by rw [nrf, if_pos ⟨Nat.zero_le _, by rw [ov_n33]; exact hj⟩]) ?_
  refine n_put1 (v := .ref 33) (fs' := [.int 0, .int 0, .int 0, .ref (oad G 33)]) flX3_11 fdX3_3 fpX3 (Or.inr ⟨rfl, rfl, rfl⟩) rfl rfl (by omega) (by decide) (Nat.le_of_ble_eq_true rfl) rfl (by decide) dX3_init_10 ?_
  refine n_iconst dX3_init_13 (v := 0) (by decide) ?_
  refine n_istore_n dX3_init_14 rfl (by decide) rfl ?_
  have key : ∀ n, n ≤ 41 → RN G mX3_init (nRm 2 329 1886) (1 + 8 * n) (41 + 45 * n) 33 (nZ G (33 + 329) (fun S1 => S1 = S) xs 329 1886) 15 [some (.ref 32), some (.int (nI n))] [] ((33, .inl (G.2.2.2.1 4, 41, .inr (.inr (.inr (.inr (nrf G 33 n)))))) :: (32, .inr (3, [.int 0, .int 0, .int 0, .ref (oad G 33)])) :: xs) S := by
    refine loopUp ?_ (fun n hn ih => ?_)
    · refine n_iload_n dX3_init_15 rfl rfl ?_
      refine n_bipush dX3_init_16 (v := 41) (by decide) ?_
      refine n_icmp_ge dX3_init_18 (tgt := 40) (by decide) (fun _ => ?_) (fun c => absurd (show (41 : Int32) ≤ nI 41 by decide) c)
      have e1 : (.inl (G.2.2.2.1 4, 41, .inr (.inr (.inr (.inr (nrf G 33 41))))) : va_E) = oce G S 33 := by
        rw [oce_R ov_c33 ov_n33, nrf_full (by rw [ov_n33]; exact Nat.le_refl _)]
      refine n_ret rfl dX3_init_40 (by omega) rfl (fun i hi => ?_)
      by_cases h : i = 33
      · subst h
        rw [ncf_hd, e1, hx 33 (by decide)]
      · rw [ncf_tl h]
        exact nx_end hfin hx i hi
    · refine n_iload_n dX3_init_15 rfl rfl ?_
      refine n_bipush dX3_init_16 (v := 41) (by decide) ?_
      refine n_icmp_ge dX3_init_18 (tgt := 40) (by decide) (fun c => absurd ((nI_le_i (a := 41) (by decide) (by omega)).mp c) (by omega)) (fun _ => ?_)
      refine n_aload_n dX3_init_21 rfl rfl ?_
      refine n_get (v := .ref 33) flX3_11 fdX3_3 (by omega) (by decide) ((ncf_tl (by decide)).trans ncf_hd) rfl dX3_init_22 ?_
      refine n_iload_n dX3_init_25 rfl rfl ?_
      have hst := ovSt_c (34 + 8 * n) (n_st33 n hn)
      refine n_new (q := 34 + 8 * n) (fs := nb9) nclX3_9 ninX9 nitX9 fdX9_0 fpX9 nfs9 (by omega) hst.2.1 (by show 1 + 8 * n + 1 ≤ 329; omega) (by show 41 + 45 * n + 10 ≤ 1886; omega) dX3_init_26 ?_
      refine n_dup dX3_init_29 rfl ?_
      have hxx : ∀ i, 34 + 8 * n ≤ i → ncf G S ((33, .inl (G.2.2.2.1 4, 41, .inr (.inr (.inr (.inr (nrf G 33 n)))))) :: (32, .inr (3, [.int 0, .int 0, .int 0, .ref (oad G 33)])) :: xs) i = oce G S i := nx_sub (by omega) (nx_sub (by omega) (nx_le (by omega) hx))
      refine n_callN (h := 1) (mc := 7) (ms := 35) (As := []) (st := [.ref (34 + 8 * n), .int (nI n), .ref 33]) nokX9 (fun s h => h.2.2.2.2.2) dX3_init_30 rfl (Nat.le_of_ble_eq_true rfl) ⟨by decide, by decide⟩ ⟨by show 1 + 8 * n + 1 + 7 ≤ 329; omega, by show 41 + 45 * n + 10 + 35 ≤ 1886; omega⟩ (by omega) rfl (by
        have := ctX9 (G := G) (S := S) hst (fun i a b => hS i (by omega) (by omega)) hxx
        rw [show 34 + 8 * n + 1 = 33 + (1 + 8 * n + 1) by omega] at this
        exact this) (fun S1 e1 => ?_)
      subst e1
      refine n_aast (fs := (List.range (ofn 9)).map (ofv G S1 (34 + 8 * n) 9)) (by omega) (by decide) (by omega) hst.2.1 ncf_hd ((hxx _ (Nat.le_refl _)).trans (oce_obj hst.1 (by decide))) (vp_in_nI hn (by decide)) (xs' := (33, .inl (G.2.2.2.1 4, 41, .inr (.inr (.inr (.inr (nrf G 33 (n + 1))))))) :: (32, .inr (3, [.int 0, .int 0, .int 0, .ref (oad G 33)])) :: xs) (by rw [ncf_hd, nI_ix (by omega), ← nrf_up]; rfl) (fun i hi => by rw [ncf_tl hi, ncf_tl hi]) dX3_init_33 ?_
      refine n_iinc dX3_init_34 rfl (v := nI (n + 1)) (by rw [nI_succ]; rfl) (by decide) rfl ?_
      refine n_goto dX3_init_37 (tgt := 15) (by decide) ?_
      rw [show 1 + 8 * (n + 1) = 1 + 8 * n + 1 + 7 by omega, show 41 + 45 * (n + 1) = 41 + 45 * n + 10 + 35 by omega] at ih
      exact ih
  exact key 0 (by decide)
