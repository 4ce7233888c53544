/-! the constructors, printed -/
theorem ctX1_7 {G : ovG} {S : ovS} {xs : List (Nat × va_E)} (hS : ∀ i, 7 ≤ i → i < 11 → S.1 i = (fun _ => 0) ∧ S.2 i = (fun _ => 0)) (hx : ∀ i, 7 ≤ i → ncf G S xs i = oce G S i) : EN G mX1_init 1 3 631 [.ref 7] (8) S ((7, .inr (1, nb1)) :: xs) (fun S1 => S1 = S) xs := by
  have hfin : (.inr (1, [.int 0, .int 0, .ref (oad G 8), .ref (oad G 9), .ref (oad G 10)]) : va_E) = oce G S 7 := by
    rw [oce_obj ov_c7 (by decide)]
    have h1 := (hS 7 (by omega) (by omega)).1
    have h2 := (hS 7 (by omega) (by omega)).2
    have e1 : [.int (S.1 7 0), .int (S.1 7 1), .ref (oad G 8), .ref (oad G 9), .ref (oad G 10)] = (List.range (ofn 1)).map (ofv G S 7 1) := rfl
    rw [← e1]
    simp only [h1, h2]
  refine EN.of (by decide) (Nat.le_of_ble_eq_true rfl) [some (.ref 7)] ⟨0, rfl⟩ ?_
  refine n_aload_n dX1_init_0 rfl rfl ?_
  refine n_obj nolX1 dX1_init_1 (by decide) (by decide) ?_
  refine n_aload_n dX1_init_4 rfl rfl ?_
  refine n_sipush dX1_init_5 (v := 300) (by decide) ?_
  refine n_newI (q := 8) (N := 300) (by omega) ov_c8 ov_n8 (hS 8 (by decide) (by decide)).1 ((ncf_tl (by decide)).trans (hx 8 (by decide))) (by decide) (by decide) (by decide) (by decide) (by decide) dX1_init_8 ?_
  refine n_put0 (v := .ref 8) (fs' := [.int 0, .int 0, .ref (oad G 8), .null, .null]) flX1_11 fdX1_2 fpX1 (Or.inr ⟨rfl, rfl, rfl⟩) rfl rfl (by omega) (by decide) (Nat.le_of_ble_eq_true rfl) rfl dX1_init_10 ?_
  refine n_aload_n dX1_init_13 rfl rfl ?_
  refine n_sipush dX1_init_14 (v := 300) (by decide) ?_
  refine n_newI (q := 9) (N := 300) (by omega) ov_c9 ov_n9 (hS 9 (by decide) (by decide)).1 ((ncf_tl (by decide)).trans (hx 9 (by decide))) (by decide) (by decide) (by decide) (by decide) (by decide) dX1_init_17 ?_
  refine n_put0 (v := .ref 9) (fs' := [.int 0, .int 0, .ref (oad G 8), .ref (oad G 9), .null]) flX1_15 fdX1_3 fpX1 (Or.inr ⟨rfl, rfl, rfl⟩) rfl rfl (by omega) (by decide) (Nat.le_of_ble_eq_true rfl) rfl dX1_init_19 ?_
  refine n_aload_n dX1_init_22 rfl rfl ?_
  refine n_bipush dX1_init_23 (v := 31) (by decide) ?_
  refine n_newI (q := 10) (N := 31) (by omega) ov_c10 ov_n10 (hS 10 (by decide) (by decide)).1 ((ncf_tl (by decide)).trans (hx 10 (by decide))) (by decide) (by decide) (by decide) (by decide) (by decide) dX1_init_25 ?_
  refine n_put0 (v := .ref 10) (fs' := [.int 0, .int 0, .ref (oad G 8), .ref (oad G 9), .ref (oad G 10)]) flX1_18 fdX1_4 fpX1 (Or.inr ⟨rfl, rfl, rfl⟩) rfl rfl (by omega) (by decide) (Nat.le_of_ble_eq_true rfl) rfl dX1_init_27 ?_
  exact n_ret rfl dX1_init_30 (by omega) rfl (nx_end hfin hx)
theorem ctX1_20 {G : ovG} {S : ovS} {xs : List (Nat × va_E)} (hS : ∀ i, 20 ≤ i → i < 24 → S.1 i = (fun _ => 0) ∧ S.2 i = (fun _ => 0)) (hx : ∀ i, 20 ≤ i → ncf G S xs i = oce G S i) : EN G mX1_init 1 3 631 [.ref 20] (21) S ((20, .inr (1, nb1)) :: xs) (fun S1 => S1 = S) xs := by
  have hfin : (.inr (1, [.int 0, .int 0, .ref (oad G 21), .ref (oad G 22), .ref (oad G 23)]) : va_E) = oce G S 20 := by
    rw [oce_obj ov_c20 (by decide)]
    have h1 := (hS 20 (by omega) (by omega)).1
    have h2 := (hS 20 (by omega) (by omega)).2
    have e1 : [.int (S.1 20 0), .int (S.1 20 1), .ref (oad G 21), .ref (oad G 22), .ref (oad G 23)] = (List.range (ofn 1)).map (ofv G S 20 1) := rfl
    rw [← e1]
    simp only [h1, h2]
  refine EN.of (by decide) (Nat.le_of_ble_eq_true rfl) [some (.ref 20)] ⟨0, rfl⟩ ?_
  refine n_aload_n dX1_init_0 rfl rfl ?_
  refine n_obj nolX1 dX1_init_1 (by decide) (by decide) ?_
  refine n_aload_n dX1_init_4 rfl rfl ?_
  refine n_sipush dX1_init_5 (v := 300) (by decide) ?_
  refine n_newI (q := 21) (N := 300) (by omega) ov_c21 ov_n21 (hS 21 (by decide) (by decide)).1 ((ncf_tl (by decide)).trans (hx 21 (by decide))) (by decide) (by decide) (by decide) (by decide) (by decide) dX1_init_8 ?_
  refine n_put0 (v := .ref 21) (fs' := [.int 0, .int 0, .ref (oad G 21), .null, .null]) flX1_11 fdX1_2 fpX1 (Or.inr ⟨rfl, rfl, rfl⟩) rfl rfl (by omega) (by decide) (Nat.le_of_ble_eq_true rfl) rfl dX1_init_10 ?_
  refine n_aload_n dX1_init_13 rfl rfl ?_
  refine n_sipush dX1_init_14 (v := 300) (by decide) ?_
  refine n_newI (q := 22) (N := 300) (by omega) ov_c22 ov_n22 (hS 22 (by decide) (by decide)).1 ((ncf_tl (by decide)).trans (hx 22 (by decide))) (by decide) (by decide) (by decide) (by decide) (by decide) dX1_init_17 ?_
  refine n_put0 (v := .ref 22) (fs' := [.int 0, .int 0, .ref (oad G 21), .ref (oad G 22), .null]) flX1_15 fdX1_3 fpX1 (Or.inr ⟨rfl, rfl, rfl⟩) rfl rfl (by omega) (by decide) (Nat.le_of_ble_eq_true rfl) rfl dX1_init_19 ?_
  refine n_aload_n dX1_init_22 rfl rfl ?_
  refine n_bipush dX1_init_23 (v := 31) (by decide) ?_
  refine n_newI (q := 23) (N := 31) (by omega) ov_c23 ov_n23 (hS 23 (by decide) (by decide)).1 ((ncf_tl (by decide)).trans (hx 23 (by decide))) (by decide) (by decide) (by decide) (by decide) (by decide) dX1_init_25 ?_
  refine n_put0 (v := .ref 23) (fs' := [.int 0, .int 0, .ref (oad G 21), .ref (oad G 22), .ref (oad G 23)]) flX1_18 fdX1_4 fpX1 (Or.inr ⟨rfl, rfl, rfl⟩) rfl rfl (by omega) (by decide) (Nat.le_of_ble_eq_true rfl) rfl dX1_init_27 ?_
  exact n_ret rfl dX1_init_30 (by omega) rfl (nx_end hfin hx)
theorem ctX9 {G : ovG} {S : ovS} {xs : List (Nat × va_E)} {h0 : Nat} (hc : ocl h0 = 9 ∧ h0 < ovNN ∧ ∀ j, j < 8 → j ≠ 0 → ocl (h0 + j) = 14 ∧ oln (h0 + j) = 5 ∧ h0 + j < ovNN) (hS : ∀ i, h0 ≤ i → i < h0 + 8 → S.1 i = (fun _ => 0) ∧ S.2 i = (fun _ => 0)) (hx : ∀ i, h0 ≤ i → ncf G S xs i = oce G S i) : EN G mX9_init 1 7 35 [.ref h0] (h0 + 1) S ((h0, .inr (9, nb9)) :: xs) (fun S1 => S1 = S) xs := by
  have hfin : (.inr (9, [.ref (oad G (h0 + 1)), .ref (oad G (h0 + 2)), .ref (oad G (h0 + 3)), .ref (oad G (h0 + 4)), .ref (oad G (h0 + 5)), .ref (oad G (h0 + 6)), .ref (oad G (h0 + 7)), .int 0, .int 0, .int 0]) : va_E) = oce G S h0 := by
    rw [oce_obj hc.1 (by decide)]
    have h1 := (hS h0 (by omega) (by omega)).1
    have h2 := (hS h0 (by omega) (by omega)).2
    have e1 : [.ref (oad G (h0 + 1)), .ref (oad G (h0 + 2)), .ref (oad G (h0 + 3)), .ref (oad G (h0 + 4)), .ref (oad G (h0 + 5)), .ref (oad G (h0 + 6)), .ref (oad G (h0 + 7)), .int (S.1 h0 7), .int (S.1 h0 8), .int (S.1 h0 9)] = (List.range (ofn 9)).map (ofv G S h0 9) := rfl
    rw [← e1]
    simp only [h1, h2]
  refine EN.of (by decide) (Nat.le_of_ble_eq_true rfl) [some (.ref h0)] ⟨0, rfl⟩ ?_
  refine n_aload_n dX9_init_0 rfl rfl ?_
  refine n_obj nolX9 dX9_init_1 (by decide) (by decide) ?_
  refine n_aload_n dX9_init_4 rfl rfl ?_
  refine n_iconst dX9_init_5 (v := 5) (by decide) ?_
  refine n_newI (q := (h0 + 1)) (N := 5) (by omega) (hc.2.2 1 (by decide) (by decide)).1 (hc.2.2 1 (by decide) (by decide)).2.1 (hS (h0 + 1) (by omega) (by omega)).1 ((ncf_tl (by omega)).trans (hx (h0 + 1) (by omega))) (by decide) (by decide) (by decide) (by decide) (by decide) dX9_init_6 ?_
  refine n_put0 (v := .ref (h0 + 1)) (fs' := [.ref (oad G (h0 + 1)), .null, .null, .null, .null, .null, .null, .int 0, .int 0, .int 0]) flX9_9 fdX9_0 fpX9 (Or.inr ⟨rfl, rfl, rfl⟩) rfl rfl (by omega) hc.2.1 (Nat.le_of_ble_eq_true rfl) rfl dX9_init_8 ?_
  refine n_aload_n dX9_init_11 rfl rfl ?_
  refine n_iconst dX9_init_12 (v := 5) (by decide) ?_
  refine n_newI (q := (h0 + 2)) (N := 5) (by omega) (hc.2.2 2 (by decide) (by decide)).1 (hc.2.2 2 (by decide) (by decide)).2.1 (hS (h0 + 2) (by omega) (by omega)).1 ((ncf_tl (by omega)).trans (hx (h0 + 2) (by omega))) (by decide) (by decide) (by decide) (by decide) (by decide) dX9_init_13 ?_
  refine n_put0 (v := .ref (h0 + 2)) (fs' := [.ref (oad G (h0 + 1)), .ref (oad G (h0 + 2)), .null, .null, .null, .null, .null, .int 0, .int 0, .int 0]) flX9_15 fdX9_1 fpX9 (Or.inr ⟨rfl, rfl, rfl⟩) rfl rfl (by omega) hc.2.1 (Nat.le_of_ble_eq_true rfl) rfl dX9_init_15 ?_
  refine n_aload_n dX9_init_18 rfl rfl ?_
  refine n_iconst dX9_init_19 (v := 5) (by decide) ?_
  refine n_newI (q := (h0 + 3)) (N := 5) (by omega) (hc.2.2 3 (by decide) (by decide)).1 (hc.2.2 3 (by decide) (by decide)).2.1 (hS (h0 + 3) (by omega) (by omega)).1 ((ncf_tl (by omega)).trans (hx (h0 + 3) (by omega))) (by decide) (by decide) (by decide) (by decide) (by decide) dX9_init_20 ?_
  refine n_put0 (v := .ref (h0 + 3)) (fs' := [.ref (oad G (h0 + 1)), .ref (oad G (h0 + 2)), .ref (oad G (h0 + 3)), .null, .null, .null, .null, .int 0, .int 0, .int 0]) flX9_18 fdX9_2 fpX9 (Or.inr ⟨rfl, rfl, rfl⟩) rfl rfl (by omega) hc.2.1 (Nat.le_of_ble_eq_true rfl) rfl dX9_init_22 ?_
  refine n_aload_n dX9_init_25 rfl rfl ?_
  refine n_iconst dX9_init_26 (v := 5) (by decide) ?_
  refine n_newI (q := (h0 + 4)) (N := 5) (by omega) (hc.2.2 4 (by decide) (by decide)).1 (hc.2.2 4 (by decide) (by decide)).2.1 (hS (h0 + 4) (by omega) (by omega)).1 ((ncf_tl (by omega)).trans (hx (h0 + 4) (by omega))) (by decide) (by decide) (by decide) (by decide) (by decide) dX9_init_27 ?_
  refine n_put0 (v := .ref (h0 + 4)) (fs' := [.ref (oad G (h0 + 1)), .ref (oad G (h0 + 2)), .ref (oad G (h0 + 3)), .ref (oad G (h0 + 4)), .null, .null, .null, .int 0, .int 0, .int 0]) flX9_21 fdX9_3 fpX9 (Or.inr ⟨rfl, rfl, rfl⟩) rfl rfl (by omega) hc.2.1 (Nat.le_of_ble_eq_true rfl) rfl dX9_init_29 ?_
  refine n_aload_n dX9_init_32 rfl rfl ?_
  refine n_iconst dX9_init_33 (v := 5) (by decide) ?_
  refine n_newI (q := (h0 + 5)) (N := 5) (by omega) (hc.2.2 5 (by decide) (by decide)).1 (hc.2.2 5 (by decide) (by decide)).2.1 (hS (h0 + 5) (by omega) (by omega)).1 ((ncf_tl (by omega)).trans (hx (h0 + 5) (by omega))) (by decide) (by decide) (by decide) (by decide) (by decide) dX9_init_34 ?_
  refine n_put0 (v := .ref (h0 + 5)) (fs' := [.ref (oad G (h0 + 1)), .ref (oad G (h0 + 2)), .ref (oad G (h0 + 3)), .ref (oad G (h0 + 4)), .ref (oad G (h0 + 5)), .null, .null, .int 0, .int 0, .int 0]) flX9_24 fdX9_4 fpX9 (Or.inr ⟨rfl, rfl, rfl⟩) rfl rfl (by omega) hc.2.1 (Nat.le_of_ble_eq_true rfl) rfl dX9_init_36 ?_
  refine n_aload_n dX9_init_39 rfl rfl ?_
  refine n_iconst dX9_init_40 (v := 5) (by decide) ?_
  refine n_newI (q := (h0 + 6)) (N := 5) (by omega) (hc.2.2 6 (by decide) (by decide)).1 (hc.2.2 6 (by decide) (by decide)).2.1 (hS (h0 + 6) (by omega) (by omega)).1 ((ncf_tl (by omega)).trans (hx (h0 + 6) (by omega))) (by decide) (by decide) (by decide) (by decide) (by decide) dX9_init_41 ?_
  refine n_put0 (v := .ref (h0 + 6)) (fs' := [.ref (oad G (h0 + 1)), .ref (oad G (h0 + 2)), .ref (oad G (h0 + 3)), .ref (oad G (h0 + 4)), .ref (oad G (h0 + 5)), .ref (oad G (h0 + 6)), .null, .int 0, .int 0, .int 0]) flX9_27 fdX9_5 fpX9 (Or.inr ⟨rfl, rfl, rfl⟩) rfl rfl (by omega) hc.2.1 (Nat.le_of_ble_eq_true rfl) rfl dX9_init_43 ?_
  refine n_aload_n dX9_init_46 rfl rfl ?_
  refine n_iconst dX9_init_47 (v := 5) (by decide) ?_
  refine n_newI (q := (h0 + 7)) (N := 5) (by omega) (hc.2.2 7 (by decide) (by decide)).1 (hc.2.2 7 (by decide) (by decide)).2.1 (hS (h0 + 7) (by omega) (by omega)).1 ((ncf_tl (by omega)).trans (hx (h0 + 7) (by omega))) (by decide) (by decide) (by decide) (by decide) (by decide) dX9_init_48 ?_
  refine n_put0 (v := .ref (h0 + 7)) (fs' := [.ref (oad G (h0 + 1)), .ref (oad G (h0 + 2)), .ref (oad G (h0 + 3)), .ref (oad G (h0 + 4)), .ref (oad G (h0 + 5)), .ref (oad G (h0 + 6)), .ref (oad G (h0 + 7)), .int 0, .int 0, .int 0]) flX9_30 fdX9_6 fpX9 (Or.inr ⟨rfl, rfl, rfl⟩) rfl rfl (by omega) hc.2.1 (Nat.le_of_ble_eq_true rfl) rfl dX9_init_50 ?_
  exact n_ret rfl dX9_init_53 (by omega) rfl (nx_end hfin hx)
theorem ctX10_3 {G : ovG} {S : ovS} {xs : List (Nat × va_E)} (hS : ∀ i, 3 ≤ i → i < 11 → S.1 i = (fun _ => 0) ∧ S.2 i = (fun _ => 0)) (hx : ∀ i, 3 ≤ i → ncf G S xs i = oce G S i) : EN G mX10_init 2 7 651 [.ref 3] (4) S ((3, .inr (10, nb10)) :: xs) (fun S1 => S1 = S) xs := by
  have hfin : (.inr (10, [.int 0, .int 0, .int 0, .int 0, .ref (oad G 4), .ref (oad G 5), .ref (oad G 6), .ref (oad G 7)]) : va_E) = oce G S 3 := by
    rw [oce_obj ov_c3 (by decide)]
    have h1 := (hS 3 (by omega) (by omega)).1
    have h2 := (hS 3 (by omega) (by omega)).2
    have e1 : [.int (S.1 3 0), .int (S.1 3 1), .int (S.1 3 2), .int (S.1 3 3), .ref (oad G 4), .ref (oad G 5), .ref (oad G 6), .ref (oad G 7)] = (List.range (ofn 10)).map (ofv G S 3 10) := rfl
    rw [← e1]
    simp only [h1, h2]
  refine EN.of (by decide) (Nat.le_of_ble_eq_true rfl) [some (.ref 3)] ⟨0, rfl⟩ ?_
  refine n_aload_n dX10_init_0 rfl rfl ?_
  refine n_obj nolX10 dX10_init_1 (by decide) (by decide) ?_
  refine n_aload_n dX10_init_4 rfl rfl ?_
  refine n_iconst dX10_init_5 (v := 5) (by decide) ?_
  refine n_newI (q := 4) (N := 5) (by omega) ov_c4 ov_n4 (hS 4 (by decide) (by decide)).1 ((ncf_tl (by decide)).trans (hx 4 (by decide))) (by decide) (by decide) (by decide) (by decide) (by decide) dX10_init_6 ?_
  refine n_put0 (v := .ref 4) (fs' := [.int 0, .int 0, .int 0, .int 0, .ref (oad G 4), .null, .null, .null]) flX10_9 fdX10_4 fpX10 (Or.inr ⟨rfl, rfl, rfl⟩) rfl rfl (by omega) (by decide) (Nat.le_of_ble_eq_true rfl) rfl dX10_init_8 ?_
  refine n_aload_n dX10_init_11 rfl rfl ?_
  refine n_iconst dX10_init_12 (v := 5) (by decide) ?_
  refine n_newI (q := 5) (N := 5) (by omega) ov_c5 ov_n5 (hS 5 (by decide) (by decide)).1 ((ncf_tl (by decide)).trans (hx 5 (by decide))) (by decide) (by decide) (by decide) (by decide) (by decide) dX10_init_13 ?_
  refine n_put0 (v := .ref 5) (fs' := [.int 0, .int 0, .int 0, .int 0, .ref (oad G 4), .ref (oad G 5), .null, .null]) flX10_15 fdX10_5 fpX10 (Or.inr ⟨rfl, rfl, rfl⟩) rfl rfl (by omega) (by decide) (Nat.le_of_ble_eq_true rfl) rfl dX10_init_15 ?_
  refine n_aload_n dX10_init_18 rfl rfl ?_
  refine n_iconst dX10_init_19 (v := 5) (by decide) ?_
  refine n_newI (q := 6) (N := 5) (by omega) ov_c6 ov_n6 (hS 6 (by decide) (by decide)).1 ((ncf_tl (by decide)).trans (hx 6 (by decide))) (by decide) (by decide) (by decide) (by decide) (by decide) dX10_init_20 ?_
  refine n_put0 (v := .ref 6) (fs' := [.int 0, .int 0, .int 0, .int 0, .ref (oad G 4), .ref (oad G 5), .ref (oad G 6), .null]) flX10_18 fdX10_6 fpX10 (Or.inr ⟨rfl, rfl, rfl⟩) rfl rfl (by omega) (by decide) (Nat.le_of_ble_eq_true rfl) rfl dX10_init_22 ?_
  refine n_aload_n dX10_init_25 rfl rfl ?_
  refine n_new (q := 7) (fs := nb1) nclX10_21 ninX1 nitX1 fdX1_0 fpX1 nfs1 (by omega) (by decide) (by decide) (by decide) dX10_init_26 ?_
  refine n_dup dX10_init_29 rfl ?_
  refine n_callN (mc := 3) (ms := 631) (As := []) (st := [.ref 7, .ref 3]) nokX1 (fun s h => h.2.2.1) dX10_init_30 rfl (by decide) ⟨by decide, by decide⟩ ⟨by decide, by decide⟩ (by omega) rfl (ctX1_7 (fun i a b => hS i (by omega) (by omega)) (nx_sub (o := 7) (h0 := 3) (by decide) (nx_le (by omega) hx))) (fun S1 e1 => ?_)
  subst e1
  refine n_put0 (v := .ref 7) (fs' := [.int 0, .int 0, .int 0, .int 0, .ref (oad G 4), .ref (oad G 5), .ref (oad G 6), .ref (oad G 7)]) flX10_24 fdX10_7 fpX10 (Or.inr ⟨rfl, rfl, rfl⟩) rfl rfl (by omega) (by decide) (Nat.le_of_ble_eq_true rfl) rfl dX10_init_33 ?_
  exact n_ret rfl dX10_init_36 (by omega) rfl (nx_end hfin hx)
theorem ctX10_16 {G : ovG} {S : ovS} {xs : List (Nat × va_E)} (hS : ∀ i, 16 ≤ i → i < 24 → S.1 i = (fun _ => 0) ∧ S.2 i = (fun _ => 0)) (hx : ∀ i, 16 ≤ i → ncf G S xs i = oce G S i) : EN G mX10_init 2 7 651 [.ref 16] (17) S ((16, .inr (10, nb10)) :: xs) (fun S1 => S1 = S) xs := by
  have hfin : (.inr (10, [.int 0, .int 0, .int 0, .int 0, .ref (oad G 17), .ref (oad G 18), .ref (oad G 19), .ref (oad G 20)]) : va_E) = oce G S 16 := by
    rw [oce_obj ov_c16 (by decide)]
    have h1 := (hS 16 (by omega) (by omega)).1
    have h2 := (hS 16 (by omega) (by omega)).2
    have e1 : [.int (S.1 16 0), .int (S.1 16 1), .int (S.1 16 2), .int (S.1 16 3), .ref (oad G 17), .ref (oad G 18), .ref (oad G 19), .ref (oad G 20)] = (List.range (ofn 10)).map (ofv G S 16 10) := rfl
    rw [← e1]
    simp only [h1, h2]
  refine EN.of (by decide) (Nat.le_of_ble_eq_true rfl) [some (.ref 16)] ⟨0, rfl⟩ ?_
  refine n_aload_n dX10_init_0 rfl rfl ?_
  refine n_obj nolX10 dX10_init_1 (by decide) (by decide) ?_
  refine n_aload_n dX10_init_4 rfl rfl ?_
  refine n_iconst dX10_init_5 (v := 5) (by decide) ?_
  refine n_newI (q := 17) (N := 5) (by omega) ov_c17 ov_n17 (hS 17 (by decide) (by decide)).1 ((ncf_tl (by decide)).trans (hx 17 (by decide))) (by decide) (by decide) (by decide) (by decide) (by decide) dX10_init_6 ?_
  refine n_put0 (v := .ref 17) (fs' := [.int 0, .int 0, .int 0, .int 0, .ref (oad G 17), .null, .null, .null]) flX10_9 fdX10_4 fpX10 (Or.inr ⟨rfl, rfl, rfl⟩) rfl rfl (by omega) (by decide) (Nat.le_of_ble_eq_true rfl) rfl dX10_init_8 ?_
  refine n_aload_n dX10_init_11 rfl rfl ?_
  refine n_iconst dX10_init_12 (v := 5) (by decide) ?_
  refine n_newI (q := 18) (N := 5) (by omega) ov_c18 ov_n18 (hS 18 (by decide) (by decide)).1 ((ncf_tl (by decide)).trans (hx 18 (by decide))) (by decide) (by decide) (by decide) (by decide) (by decide) dX10_init_13 ?_
  refine n_put0 (v := .ref 18) (fs' := [.int 0, .int 0, .int 0, .int 0, .ref (oad G 17), .ref (oad G 18), .null, .null]) flX10_15 fdX10_5 fpX10 (Or.inr ⟨rfl, rfl, rfl⟩) rfl rfl (by omega) (by decide) (Nat.le_of_ble_eq_true rfl) rfl dX10_init_15 ?_
  refine n_aload_n dX10_init_18 rfl rfl ?_
  refine n_iconst dX10_init_19 (v := 5) (by decide) ?_
  refine n_newI (q := 19) (N := 5) (by omega) ov_c19 ov_n19 (hS 19 (by decide) (by decide)).1 ((ncf_tl (by decide)).trans (hx 19 (by decide))) (by decide) (by decide) (by decide) (by decide) (by decide) dX10_init_20 ?_
  refine n_put0 (v := .ref 19) (fs' := [.int 0, .int 0, .int 0, .int 0, .ref (oad G 17), .ref (oad G 18), .ref (oad G 19), .null]) flX10_18 fdX10_6 fpX10 (Or.inr ⟨rfl, rfl, rfl⟩) rfl rfl (by omega) (by decide) (Nat.le_of_ble_eq_true rfl) rfl dX10_init_22 ?_
  refine n_aload_n dX10_init_25 rfl rfl ?_
  refine n_new (q := 20) (fs := nb1) nclX10_21 ninX1 nitX1 fdX1_0 fpX1 nfs1 (by omega) (by decide) (by decide) (by decide) dX10_init_26 ?_
  refine n_dup dX10_init_29 rfl ?_
  refine n_callN (mc := 3) (ms := 631) (As := []) (st := [.ref 20, .ref 16]) nokX1 (fun s h => h.2.2.1) dX10_init_30 rfl (by decide) ⟨by decide, by decide⟩ ⟨by decide, by decide⟩ (by omega) rfl (ctX1_20 (fun i a b => hS i (by omega) (by omega)) (nx_sub (o := 20) (h0 := 16) (by decide) (nx_le (by omega) hx))) (fun S1 e1 => ?_)
  subst e1
  refine n_put0 (v := .ref 20) (fs' := [.int 0, .int 0, .int 0, .int 0, .ref (oad G 17), .ref (oad G 18), .ref (oad G 19), .ref (oad G 20)]) flX10_24 fdX10_7 fpX10 (Or.inr ⟨rfl, rfl, rfl⟩) rfl rfl (by omega) (by decide) (Nat.le_of_ble_eq_true rfl) rfl dX10_init_33 ?_
  exact n_ret rfl dX10_init_36 (by omega) rfl (nx_end hfin hx)
theorem ctX7_13 {G : ovG} {S : ovS} {xs : List (Nat × va_E)} (hS : ∀ i, 13 ≤ i → i < 14 → S.1 i = (fun _ => 0) ∧ S.2 i = (fun _ => 0)) (hx : ∀ i, 13 ≤ i → ncf G S xs i = oce G S i) : EN G mX7_init 1 0 0 [.ref 13, .ref 1] (14) S ((13, .inr (7, nb7)) :: xs) (fun S1 => S1 = S) xs := by
  have hfin : (.inr (7, [.int 0, .int 0, .int 0, .long 0, .ref (oad G 1), .int 0, .int 0]) : va_E) = oce G S 13 := by
    rw [oce_obj ov_c13 (by decide)]
    have h1 := (hS 13 (by omega) (by omega)).1
    have h2 := (hS 13 (by omega) (by omega)).2
    have e1 : [.int (S.1 13 0), .int (S.1 13 1), .int (S.1 13 2), .long (S.2 13 3), .ref (oad G 1), .int (S.1 13 5), .int (S.1 13 6)] = (List.range (ofn 7)).map (ofv G S 13 7) := rfl
    rw [← e1]
    simp only [h1, h2]
  refine EN.of (by decide) (Nat.le_of_ble_eq_true rfl) [some (.ref 13), some (.ref 1)] ⟨0, rfl⟩ ?_
  refine n_aload_n dX7_init_0 rfl rfl ?_
  refine n_obj nolX7 dX7_init_1 (by decide) (by decide) ?_
  refine n_aload_n dX7_init_4 rfl rfl ?_
  refine n_aload_n dX7_init_5 rfl rfl ?_
  refine n_put0 (v := .ref 1) (fs' := [.int 0, .int 0, .int 0, .long 0, .ref (oad G 1), .int 0, .int 0]) flX7_7 fdX7_4 fpX7 (Or.inr ⟨rfl, rfl, rfl⟩) rfl rfl (by omega) (by decide) (Nat.le_of_ble_eq_true rfl) rfl dX7_init_6 ?_
  exact n_ret rfl dX7_init_9 (by omega) rfl (nx_end hfin hx)
theorem ctX2_14 {G : ovG} {S : ovS} {xs : List (Nat × va_E)} (hS : ∀ i, 14 ≤ i → i < 16 → S.1 i = (fun _ => 0) ∧ S.2 i = (fun _ => 0)) (hx : ∀ i, 14 ≤ i → ncf G S xs i = oce G S i) : EN G mX2_init 1 1 64 [.ref 14, .ref 13, .ref 3, .ref 11] (15) S ((14, .inr (2, nb2)) :: xs) (fun S1 => S1 = S) xs := by
  have hfin : (.inr (2, [.ref (oad G 13), .ref (oad G 3), .ref (oad G 11), .ref (oad G 15), .int 0, .int 0, .int 0, .int 0, .int 0]) : va_E) = oce G S 14 := by
    rw [oce_obj ov_c14 (by decide)]
    have h1 := (hS 14 (by omega) (by omega)).1
    have h2 := (hS 14 (by omega) (by omega)).2
    have e1 : [.ref (oad G 13), .ref (oad G 3), .ref (oad G 11), .ref (oad G 15), .int (S.1 14 4), .int (S.1 14 5), .int (S.1 14 6), .int (S.1 14 7), .int (S.1 14 8)] = (List.range (ofn 2)).map (ofv G S 14 2) := rfl
    rw [← e1]
    simp only [h1, h2]
  refine EN.of (by decide) (Nat.le_of_ble_eq_true rfl) [some (.ref 14), some (.ref 13), some (.ref 3), some (.ref 11)] ⟨0, rfl⟩ ?_
  refine n_aload_n dX2_init_0 rfl rfl ?_
  refine n_obj nolX2 dX2_init_1 (by decide) (by decide) ?_
  refine n_aload_n dX2_init_4 rfl rfl ?_
  refine n_bipush dX2_init_5 (v := 64) (by decide) ?_
  refine n_newI (q := 15) (N := 64) (by omega) ov_c15 ov_n15 (hS 15 (by decide) (by decide)).1 ((ncf_tl (by decide)).trans (hx 15 (by decide))) (by decide) (by decide) (by decide) (by decide) (by decide) dX2_init_7 ?_
  refine n_put0 (v := .ref 15) (fs' := [.null, .null, .null, .ref (oad G 15), .int 0, .int 0, .int 0, .int 0, .int 0]) flX2_11 fdX2_3 fpX2 (Or.inr ⟨rfl, rfl, rfl⟩) rfl rfl (by omega) (by decide) (Nat.le_of_ble_eq_true rfl) rfl dX2_init_9 ?_
  refine n_aload_n dX2_init_12 rfl rfl ?_
  refine n_aload_n dX2_init_13 rfl rfl ?_
  refine n_put0 (v := .ref 13) (fs' := [.ref (oad G 13), .null, .null, .ref (oad G 15), .int 0, .int 0, .int 0, .int 0, .int 0]) flX2_15 fdX2_0 fpX2 (Or.inr ⟨rfl, rfl, rfl⟩) rfl rfl (by omega) (by decide) (Nat.le_of_ble_eq_true rfl) rfl dX2_init_14 ?_
  refine n_aload_n dX2_init_17 rfl rfl ?_
  refine n_aload_n dX2_init_18 rfl rfl ?_
  refine n_put0 (v := .ref 3) (fs' := [.ref (oad G 13), .ref (oad G 3), .null, .ref (oad G 15), .int 0, .int 0, .int 0, .int 0, .int 0]) flX2_19 fdX2_1 fpX2 (Or.inr ⟨rfl, rfl, rfl⟩) rfl rfl (by omega) (by decide) (Nat.le_of_ble_eq_true rfl) rfl dX2_init_19 ?_
  refine n_aload_n dX2_init_22 rfl rfl ?_
  refine n_aload_n dX2_init_23 rfl rfl ?_
  refine n_put0 (v := .ref 11) (fs' := [.ref (oad G 13), .ref (oad G 3), .ref (oad G 11), .ref (oad G 15), .int 0, .int 0, .int 0, .int 0, .int 0]) flX2_23 fdX2_2 fpX2 (Or.inr ⟨rfl, rfl, rfl⟩) rfl rfl (by omega) (by decide) (Nat.le_of_ble_eq_true rfl) rfl dX2_init_24 ?_
  exact n_ret rfl dX2_init_27 (by omega) rfl (nx_end hfin hx)
theorem ctX5_2 {G : ovG} {S : ovS} {xs : List (Nat × va_E)} (hS : ∀ i, 2 ≤ i → i < 16 → S.1 i = (fun _ => 0) ∧ S.2 i = (fun _ => 0)) (hx : ∀ i, 2 ≤ i → ncf G S xs i = oce G S i) : EN G mX5_init 3 13 749 [.ref 2, .ref 1] (3) S ((2, .inr (5, nb5)) :: xs) (fun S1 => S1 = S) xs := by
  have hfin : (.inr (5, [.ref (oad G 3), .int 0, .int 0, .ref (oad G 13), .ref (oad G 11), .ref (oad G 12), .ref (oad G 14), .int 0, .int 0, .int 0, .int 0]) : va_E) = oce G S 2 := by
    rw [oce_obj ov_c2 (by decide)]
    have h1 := (hS 2 (by omega) (by omega)).1
    have h2 := (hS 2 (by omega) (by omega)).2
    have e1 : [.ref (oad G 3), .int (S.1 2 1), .int (S.1 2 2), .ref (oad G 13), .ref (oad G 11), .ref (oad G 12), .ref (oad G 14), .int (S.1 2 7), .int (S.1 2 8), .int (S.1 2 9), .int (S.1 2 10)] = (List.range (ofn 5)).map (ofv G S 2 5) := rfl
    rw [← e1]
    simp only [h1, h2]
  refine EN.of (by decide) (Nat.le_of_ble_eq_true rfl) [some (.ref 2), some (.ref 1)] ⟨0, rfl⟩ ?_
  refine n_aload_n dX5_init_0 rfl rfl ?_
  refine n_obj nolX5 dX5_init_1 (by decide) (by decide) ?_
  refine n_aload_n dX5_init_4 rfl rfl ?_
  refine n_new (q := 3) (fs := nb10) nclX5_9 ninX10 nitX10 fdX10_0 fpX10 nfs10 (by omega) (by decide) (by decide) (by decide) dX5_init_5 ?_
  refine n_dup dX5_init_8 rfl ?_
  refine n_callN (mc := 7) (ms := 651) (As := []) (st := [.ref 3, .ref 2]) nokX10 (fun s h => h.2.1) dX5_init_9 rfl (by decide) ⟨by decide, by decide⟩ ⟨by decide, by decide⟩ (by omega) rfl (ctX10_3 (fun i a b => hS i (by omega) (by omega)) (nx_sub (o := 3) (h0 := 2) (by decide) (nx_le (by omega) hx))) (fun S1 e1 => ?_)
  subst e1
  refine n_put0 (v := .ref 3) (fs' := [.ref (oad G 3), .int 0, .int 0, .null, .null, .null, .null, .int 0, .int 0, .int 0, .int 0]) flX5_12 fdX5_0 fpX5 (Or.inr ⟨rfl, rfl, rfl⟩) rfl rfl (by omega) (by decide) (Nat.le_of_ble_eq_true rfl) rfl dX5_init_12 ?_
  refine n_aload_n dX5_init_15 rfl rfl ?_
  refine n_iconst dX5_init_16 (v := 5) (by decide) ?_
  refine n_newJ (q := 11) (N := 5) (by omega) ov_c11 ov_n11 (hS 11 (by decide) (by decide)).2 ((ncf_tl (by decide)).trans (hx 11 (by decide))) (by decide) (by decide) (by decide) (by decide) (by decide) dX5_init_17 ?_
  refine n_put0 (v := .ref 11) (fs' := [.ref (oad G 3), .int 0, .int 0, .null, .ref (oad G 11), .null, .null, .int 0, .int 0, .int 0, .int 0]) flX5_18 fdX5_4 fpX5 (Or.inr ⟨rfl, rfl, rfl⟩) rfl rfl (by omega) (by decide) (Nat.le_of_ble_eq_true rfl) rfl dX5_init_19 ?_
  refine n_aload_n dX5_init_22 rfl rfl ?_
  refine n_iconst dX5_init_23 (v := 5) (by decide) ?_
  refine n_newJ (q := 12) (N := 5) (by omega) ov_c12 ov_n12 (hS 12 (by decide) (by decide)).2 ((ncf_tl (by decide)).trans (hx 12 (by decide))) (by decide) (by decide) (by decide) (by decide) (by decide) dX5_init_24 ?_
  refine n_put0 (v := .ref 12) (fs' := [.ref (oad G 3), .int 0, .int 0, .null, .ref (oad G 11), .ref (oad G 12), .null, .int 0, .int 0, .int 0, .int 0]) flX5_22 fdX5_5 fpX5 (Or.inr ⟨rfl, rfl, rfl⟩) rfl rfl (by omega) (by decide) (Nat.le_of_ble_eq_true rfl) rfl dX5_init_26 ?_
  refine n_aload_n dX5_init_29 rfl rfl ?_
  refine n_new (q := 13) (fs := nb7) nclX5_25 ninX7 nitX7 fdX7_0 fpX7 nfs7 (by omega) (by decide) (by decide) (by decide) dX5_init_30 ?_
  refine n_dup dX5_init_33 rfl ?_
  refine n_aload_n dX5_init_34 rfl rfl ?_
  refine n_callI (mc := 0) (ms := 0) (As := [.ref 1]) (st := [.ref 13, .ref 2]) nokX7 nmlX5_27 dX5_init_35 rfl (by decide) ⟨by decide, by decide⟩ ⟨by decide, by decide⟩ (by omega) rfl (ctX7_13 (fun i a b => hS i (by omega) (by omega)) (nx_sub (o := 13) (h0 := 2) (by decide) (nx_le (by omega) hx))) (fun S1 e1 => ?_)
  subst e1
  refine n_put0 (v := .ref 13) (fs' := [.ref (oad G 3), .int 0, .int 0, .ref (oad G 13), .ref (oad G 11), .ref (oad G 12), .null, .int 0, .int 0, .int 0, .int 0]) flX5_30 fdX5_3 fpX5 (Or.inr ⟨rfl, rfl, rfl⟩) rfl rfl (by omega) (by decide) (Nat.le_of_ble_eq_true rfl) rfl dX5_init_38 ?_
  refine n_aload_n dX5_init_41 rfl rfl ?_
  refine n_new (q := 14) (fs := nb2) nclX5_34 ninX2 nitX2 fdX2_0 fpX2 nfs2 (by omega) (by decide) (by decide) (by decide) dX5_init_42 ?_
  refine n_dup dX5_init_45 rfl ?_
  refine n_aload_n dX5_init_46 rfl rfl ?_
  refine n_get (v := .ref 13) flX5_30 fdX5_3 (by omega) (by decide) ((ncf_tl (by decide)).trans ncf_hd) rfl dX5_init_47 ?_
  refine n_aload_n dX5_init_50 rfl rfl ?_
  refine n_get (v := .ref 3) flX5_12 fdX5_0 (by omega) (by decide) ((ncf_tl (by decide)).trans ncf_hd) rfl dX5_init_51 ?_
  refine n_aload_n dX5_init_54 rfl rfl ?_
  refine n_get (v := .ref 11) flX5_18 fdX5_4 (by omega) (by decide) ((ncf_tl (by decide)).trans ncf_hd) rfl dX5_init_55 ?_
  refine n_callI (mc := 1) (ms := 64) (As := [.ref 13, .ref 3, .ref 11]) (st := [.ref 14, .ref 2]) nokX2 nmlX5_36 dX5_init_58 rfl (by decide) ⟨by decide, by decide⟩ ⟨by decide, by decide⟩ (by omega) rfl (ctX2_14 (fun i a b => hS i (by omega) (by omega)) (nx_sub (o := 14) (h0 := 2) (by decide) (nx_le (by omega) hx))) (fun S1 e1 => ?_)
  subst e1
  refine n_put0 (v := .ref 14) (fs' := [.ref (oad G 3), .int 0, .int 0, .ref (oad G 13), .ref (oad G 11), .ref (oad G 12), .ref (oad G 14), .int 0, .int 0, .int 0, .int 0]) flX5_39 fdX5_6 fpX5 (Or.inr ⟨rfl, rfl, rfl⟩) rfl rfl (by omega) (by decide) (Nat.le_of_ble_eq_true rfl) rfl dX5_init_61 ?_
  exact n_ret rfl dX5_init_64 (by omega) rfl (nx_end hfin hx)
theorem ctX0_364 {G : ovG} {S : ovS} {xs : List (Nat × va_E)} (hS : ∀ i, 364 ≤ i → i < 369 → S.1 i = (fun _ => 0) ∧ S.2 i = (fun _ => 0)) (hx : ∀ i, 364 ≤ i → ncf G S xs i = oce G S i) : EN G mX0_init 1 4 72 [.ref 364, .ref 16, .ref 24] (365) S ((364, .inr (0, nb0)) :: xs) (fun S1 => S1 = S) xs := by
  have hfin : (.inr (0, [.ref (oad G 16), .ref (oad G 24), .ref (oad G 365), .ref (oad G 366), .ref (oad G 367), .ref (oad G 368), .int 0]) : va_E) = oce G S 364 := by
    rw [oce_obj ov_c364 (by decide)]
    have h1 := (hS 364 (by omega) (by omega)).1
    have h2 := (hS 364 (by omega) (by omega)).2
    have e1 : [.ref (oad G 16), .ref (oad G 24), .ref (oad G 365), .ref (oad G 366), .ref (oad G 367), .ref (oad G 368), .int (S.1 364 6)] = (List.range (ofn 0)).map (ofv G S 364 0) := rfl
    rw [← e1]
    simp only [h1, h2]
  refine EN.of (by decide) (Nat.le_of_ble_eq_true rfl) [some (.ref 364), some (.ref 16), some (.ref 24)] ⟨0, rfl⟩ ?_
  refine n_aload_n dX0_init_0 rfl rfl ?_
  refine n_obj nolX0 dX0_init_1 (by decide) (by decide) ?_
  refine n_aload_n dX0_init_4 rfl rfl ?_
  refine n_iconst dX0_init_5 (v := 5) (by decide) ?_
  refine n_newI (q := 365) (N := 5) (by omega) ov_c365 ov_n365 (hS 365 (by decide) (by decide)).1 ((ncf_tl (by decide)).trans (hx 365 (by decide))) (by decide) (by decide) (by decide) (by decide) (by decide) dX0_init_6 ?_
  refine n_put0 (v := .ref 365) (fs' := [.null, .null, .ref (oad G 365), .null, .null, .null, .int 0]) flX0_9 fdX0_2 fpX0 (Or.inr ⟨rfl, rfl, rfl⟩) rfl rfl (by omega) (by decide) (Nat.le_of_ble_eq_true rfl) rfl dX0_init_8 ?_
  refine n_aload_n dX0_init_11 rfl rfl ?_
  refine n_iconst dX0_init_12 (v := 5) (by decide) ?_
  refine n_newI (q := 366) (N := 5) (by omega) ov_c366 ov_n366 (hS 366 (by decide) (by decide)).1 ((ncf_tl (by decide)).trans (hx 366 (by decide))) (by decide) (by decide) (by decide) (by decide) (by decide) dX0_init_13 ?_
  refine n_put0 (v := .ref 366) (fs' := [.null, .null, .ref (oad G 365), .ref (oad G 366), .null, .null, .int 0]) flX0_15 fdX0_3 fpX0 (Or.inr ⟨rfl, rfl, rfl⟩) rfl rfl (by omega) (by decide) (Nat.le_of_ble_eq_true rfl) rfl dX0_init_15 ?_
  refine n_aload_n dX0_init_18 rfl rfl ?_
  refine n_bipush dX0_init_19 (v := 30) (by decide) ?_
  refine n_newI (q := 367) (N := 30) (by omega) ov_c367 ov_n367 (hS 367 (by decide) (by decide)).1 ((ncf_tl (by decide)).trans (hx 367 (by decide))) (by decide) (by decide) (by decide) (by decide) (by decide) dX0_init_21 ?_
  refine n_put0 (v := .ref 367) (fs' := [.null, .null, .ref (oad G 365), .ref (oad G 366), .ref (oad G 367), .null, .int 0]) flX0_18 fdX0_4 fpX0 (Or.inr ⟨rfl, rfl, rfl⟩) rfl rfl (by omega) (by decide) (Nat.le_of_ble_eq_true rfl) rfl dX0_init_23 ?_
  refine n_aload_n dX0_init_26 rfl rfl ?_
  refine n_bipush dX0_init_27 (v := 32) (by decide) ?_
  refine n_newZ (q := 368) (N := 32) (by omega) ov_c368 ov_n368 (hS 368 (by decide) (by decide)).1 ((ncf_tl (by decide)).trans (hx 368 (by decide))) (by decide) (by decide) (by decide) (by decide) (by decide) dX0_init_29 ?_
  refine n_put0 (v := .ref 368) (fs' := [.null, .null, .ref (oad G 365), .ref (oad G 366), .ref (oad G 367), .ref (oad G 368), .int 0]) flX0_21 fdX0_5 fpX0 (Or.inr ⟨rfl, rfl, rfl⟩) rfl rfl (by omega) (by decide) (Nat.le_of_ble_eq_true rfl) rfl dX0_init_31 ?_
  refine n_aload_n dX0_init_34 rfl rfl ?_
  refine n_aload_n dX0_init_35 rfl rfl ?_
  refine n_put0 (v := .ref 16) (fs' := [.ref (oad G 16), .null, .ref (oad G 365), .ref (oad G 366), .ref (oad G 367), .ref (oad G 368), .int 0]) flX0_25 fdX0_0 fpX0 (Or.inr ⟨rfl, rfl, rfl⟩) rfl rfl (by omega) (by decide) (Nat.le_of_ble_eq_true rfl) rfl dX0_init_36 ?_
  refine n_aload_n dX0_init_39 rfl rfl ?_
  refine n_aload_n dX0_init_40 rfl rfl ?_
  refine n_put0 (v := .ref 24) (fs' := [.ref (oad G 16), .ref (oad G 24), .ref (oad G 365), .ref (oad G 366), .ref (oad G 367), .ref (oad G 368), .int 0]) flX0_29 fdX0_1 fpX0 (Or.inr ⟨rfl, rfl, rfl⟩) rfl rfl (by omega) (by decide) (Nat.le_of_ble_eq_true rfl) rfl dX0_init_41 ?_
  exact n_ret rfl dX0_init_44 (by omega) rfl (nx_end hfin hx)
theorem ctX8_369 {G : ovG} {S : ovS} {xs : List (Nat × va_E)} (hS : ∀ i, 369 ≤ i → i < 373 → S.1 i = (fun _ => 0) ∧ S.2 i = (fun _ => 0)) (hx : ∀ i, 369 ≤ i → ncf G S xs i = oce G S i) : EN G mX8_init 1 3 15 [.ref 369, .ref 364, .ref 16, .ref 24] (370) S ((369, .inr (8, nb8)) :: xs) (fun S1 => S1 = S) xs := by
  have hfin : (.inr (8, [.ref (oad G 364), .ref (oad G 16), .ref (oad G 24), .ref (oad G 370), .int 0, .ref (oad G 371), .ref (oad G 372), .int 0]) : va_E) = oce G S 369 := by
    rw [oce_obj ov_c369 (by decide)]
    have h1 := (hS 369 (by omega) (by omega)).1
    have h2 := (hS 369 (by omega) (by omega)).2
    have e1 : [.ref (oad G 364), .ref (oad G 16), .ref (oad G 24), .ref (oad G 370), .int (S.1 369 4), .ref (oad G 371), .ref (oad G 372), .int (S.1 369 7)] = (List.range (ofn 8)).map (ofv G S 369 8) := rfl
    rw [← e1]
    simp only [h1, h2]
  refine EN.of (by decide) (Nat.le_of_ble_eq_true rfl) [some (.ref 369), some (.ref 364), some (.ref 16), some (.ref 24)] ⟨0, rfl⟩ ?_
  refine n_aload_n dX8_init_0 rfl rfl ?_
  refine n_obj nolX8 dX8_init_1 (by decide) (by decide) ?_
  refine n_aload_n dX8_init_4 rfl rfl ?_
  refine n_iconst dX8_init_5 (v := 5) (by decide) ?_
  refine n_newI (q := 370) (N := 5) (by omega) ov_c370 ov_n370 (hS 370 (by decide) (by decide)).1 ((ncf_tl (by decide)).trans (hx 370 (by decide))) (by decide) (by decide) (by decide) (by decide) (by decide) dX8_init_6 ?_
  refine n_put0 (v := .ref 370) (fs' := [.null, .null, .null, .ref (oad G 370), .int 0, .null, .null, .int 0]) flX8_9 fdX8_3 fpX8 (Or.inr ⟨rfl, rfl, rfl⟩) rfl rfl (by omega) (by decide) (Nat.le_of_ble_eq_true rfl) rfl dX8_init_8 ?_
  refine n_aload_n dX8_init_11 rfl rfl ?_
  refine n_iconst dX8_init_12 (v := 5) (by decide) ?_
  refine n_newI (q := 371) (N := 5) (by omega) ov_c371 ov_n371 (hS 371 (by decide) (by decide)).1 ((ncf_tl (by decide)).trans (hx 371 (by decide))) (by decide) (by decide) (by decide) (by decide) (by decide) dX8_init_13 ?_
  refine n_put0 (v := .ref 371) (fs' := [.null, .null, .null, .ref (oad G 370), .int 0, .ref (oad G 371), .null, .int 0]) flX8_15 fdX8_5 fpX8 (Or.inr ⟨rfl, rfl, rfl⟩) rfl rfl (by omega) (by decide) (Nat.le_of_ble_eq_true rfl) rfl dX8_init_15 ?_
  refine n_aload_n dX8_init_18 rfl rfl ?_
  refine n_iconst dX8_init_19 (v := 5) (by decide) ?_
  refine n_newI (q := 372) (N := 5) (by omega) ov_c372 ov_n372 (hS 372 (by decide) (by decide)).1 ((ncf_tl (by decide)).trans (hx 372 (by decide))) (by decide) (by decide) (by decide) (by decide) (by decide) dX8_init_20 ?_
  refine n_put0 (v := .ref 372) (fs' := [.null, .null, .null, .ref (oad G 370), .int 0, .ref (oad G 371), .ref (oad G 372), .int 0]) flX8_18 fdX8_6 fpX8 (Or.inr ⟨rfl, rfl, rfl⟩) rfl rfl (by omega) (by decide) (Nat.le_of_ble_eq_true rfl) rfl dX8_init_22 ?_
  refine n_aload_n dX8_init_25 rfl rfl ?_
  refine n_aload_n dX8_init_26 rfl rfl ?_
  refine n_put0 (v := .ref 364) (fs' := [.ref (oad G 364), .null, .null, .ref (oad G 370), .int 0, .ref (oad G 371), .ref (oad G 372), .int 0]) flX8_21 fdX8_0 fpX8 (Or.inr ⟨rfl, rfl, rfl⟩) rfl rfl (by omega) (by decide) (Nat.le_of_ble_eq_true rfl) rfl dX8_init_27 ?_
  refine n_aload_n dX8_init_30 rfl rfl ?_
  refine n_aload_n dX8_init_31 rfl rfl ?_
  refine n_put0 (v := .ref 16) (fs' := [.ref (oad G 364), .ref (oad G 16), .null, .ref (oad G 370), .int 0, .ref (oad G 371), .ref (oad G 372), .int 0]) flX8_25 fdX8_1 fpX8 (Or.inr ⟨rfl, rfl, rfl⟩) rfl rfl (by omega) (by decide) (Nat.le_of_ble_eq_true rfl) rfl dX8_init_32 ?_
  refine n_aload_n dX8_init_35 rfl rfl ?_
  refine n_aload_n dX8_init_36 rfl rfl ?_
  refine n_put0 (v := .ref 24) (fs' := [.ref (oad G 364), .ref (oad G 16), .ref (oad G 24), .ref (oad G 370), .int 0, .ref (oad G 371), .ref (oad G 372), .int 0]) flX8_29 fdX8_2 fpX8 (Or.inr ⟨rfl, rfl, rfl⟩) rfl rfl (by omega) (by decide) (Nat.le_of_ble_eq_true rfl) rfl dX8_init_37 ?_
  exact n_ret rfl dX8_init_40 (by omega) rfl (nx_end hfin hx)
theorem ctX4_373 {G : ovG} {S : ovS} {xs : List (Nat × va_E)} (hS : ∀ i, 373 ≤ i → i < 376 → S.1 i = (fun _ => 0) ∧ S.2 i = (fun _ => 0)) (hx : ∀ i, 373 ≤ i → ncf G S xs i = oce G S i) : EN G mX4_init 1 2 200 [.ref 373, .ref 16, .ref 24] (374) S ((373, .inr (4, nb4)) :: xs) (fun S1 => S1 = S) xs := by
  have hfin : (.inr (4, [.ref (oad G 16), .ref (oad G 24), .int 0, .int 0, .int 0, .ref (oad G 374), .ref (oad G 375)]) : va_E) = oce G S 373 := by
    rw [oce_obj ov_c373 (by decide)]
    have h1 := (hS 373 (by omega) (by omega)).1
    have h2 := (hS 373 (by omega) (by omega)).2
    have e1 : [.ref (oad G 16), .ref (oad G 24), .int (S.1 373 2), .int (S.1 373 3), .int (S.1 373 4), .ref (oad G 374), .ref (oad G 375)] = (List.range (ofn 4)).map (ofv G S 373 4) := rfl
    rw [← e1]
    simp only [h1, h2]
  refine EN.of (by decide) (Nat.le_of_ble_eq_true rfl) [some (.ref 373), some (.ref 16), some (.ref 24)] ⟨0, rfl⟩ ?_
  refine n_aload_n dX4_init_0 rfl rfl ?_
  refine n_obj nolX4 dX4_init_1 (by decide) (by decide) ?_
  refine n_aload_n dX4_init_4 rfl rfl ?_
  refine n_bipush dX4_init_5 (v := 100) (by decide) ?_
  refine n_newI (q := 374) (N := 100) (by omega) ov_c374 ov_n374 (hS 374 (by decide) (by decide)).1 ((ncf_tl (by decide)).trans (hx 374 (by decide))) (by decide) (by decide) (by decide) (by decide) (by decide) dX4_init_7 ?_
  refine n_put0 (v := .ref 374) (fs' := [.null, .null, .int 0, .int 0, .int 0, .ref (oad G 374), .null]) flX4_11 fdX4_5 fpX4 (Or.inr ⟨rfl, rfl, rfl⟩) rfl rfl (by omega) (by decide) (Nat.le_of_ble_eq_true rfl) rfl dX4_init_9 ?_
  refine n_aload_n dX4_init_12 rfl rfl ?_
  refine n_bipush dX4_init_13 (v := 100) (by decide) ?_
  refine n_newI (q := 375) (N := 100) (by omega) ov_c375 ov_n375 (hS 375 (by decide) (by decide)).1 ((ncf_tl (by decide)).trans (hx 375 (by decide))) (by decide) (by decide) (by decide) (by decide) (by decide) dX4_init_15 ?_
  refine n_put0 (v := .ref 375) (fs' := [.null, .null, .int 0, .int 0, .int 0, .ref (oad G 374), .ref (oad G 375)]) flX4_15 fdX4_6 fpX4 (Or.inr ⟨rfl, rfl, rfl⟩) rfl rfl (by omega) (by decide) (Nat.le_of_ble_eq_true rfl) rfl dX4_init_17 ?_
  refine n_aload_n dX4_init_20 rfl rfl ?_
  refine n_aload_n dX4_init_21 rfl rfl ?_
  refine n_put0 (v := .ref 16) (fs' := [.ref (oad G 16), .null, .int 0, .int 0, .int 0, .ref (oad G 374), .ref (oad G 375)]) flX4_18 fdX4_0 fpX4 (Or.inr ⟨rfl, rfl, rfl⟩) rfl rfl (by omega) (by decide) (Nat.le_of_ble_eq_true rfl) rfl dX4_init_22 ?_
  refine n_aload_n dX4_init_25 rfl rfl ?_
  refine n_aload_n dX4_init_26 rfl rfl ?_
  refine n_put0 (v := .ref 24) (fs' := [.ref (oad G 16), .ref (oad G 24), .int 0, .int 0, .int 0, .ref (oad G 374), .ref (oad G 375)]) flX4_22 fdX4_1 fpX4 (Or.inr ⟨rfl, rfl, rfl⟩) rfl rfl (by omega) (by decide) (Nat.le_of_ble_eq_true rfl) rfl dX4_init_27 ?_
  exact n_ret rfl dX4_init_30 (by omega) rfl (nx_end hfin hx)
theorem ctX6_376 {G : ovG} {S : ovS} {xs : List (Nat × va_E)} (hS : ∀ i, 376 ≤ i → i < 388 → S.1 i = (fun _ => 0) ∧ S.2 i = (fun _ => 0)) (hx : ∀ i, 376 ≤ i → ncf G S xs i = oce G S i) : EN G mX6_init 1 11 1424 [.ref 376, .ref 16] (377) S ((376, .inr (6, nb6)) :: xs) (fun S1 => S1 = S) xs := by
  have hfin : (.inr (6, [.ref (oad G 16), .int 0, .int 0, .ref (oad G 377), .ref (oad G 378), .ref (oad G 379), .ref (oad G 380), .ref (oad G 381), .ref (oad G 382), .ref (oad G 383), .ref (oad G 384), .ref (oad G 385), .ref (oad G 386), .ref (oad G 387), .int 0]) : va_E) = oce G S 376 := by
    rw [oce_obj ov_c376 (by decide)]
    have h1 := (hS 376 (by omega) (by omega)).1
    have h2 := (hS 376 (by omega) (by omega)).2
    have e1 : [.ref (oad G 16), .int (S.1 376 1), .int (S.1 376 2), .ref (oad G 377), .ref (oad G 378), .ref (oad G 379), .ref (oad G 380), .ref (oad G 381), .ref (oad G 382), .ref (oad G 383), .ref (oad G 384), .ref (oad G 385), .ref (oad G 386), .ref (oad G 387), .int (S.1 376 14)] = (List.range (ofn 6)).map (ofv G S 376 6) := rfl
    rw [← e1]
    simp only [h1, h2]
  refine EN.of (by decide) (Nat.le_of_ble_eq_true rfl) [some (.ref 376), some (.ref 16)] ⟨0, rfl⟩ ?_
  refine n_aload_n dX6_init_0 rfl rfl ?_
  refine n_obj nolX6 dX6_init_1 (by decide) (by decide) ?_
  refine n_aload_n dX6_init_4 rfl rfl ?_
  refine n_bipush dX6_init_5 (v := 30) (by decide) ?_
  refine n_newI (q := 377) (N := 30) (by omega) ov_c377 ov_n377 (hS 377 (by decide) (by decide)).1 ((ncf_tl (by decide)).trans (hx 377 (by decide))) (by decide) (by decide) (by decide) (by decide) (by decide) dX6_init_7 ?_
  refine n_put0 (v := .ref 377) (fs' := [.null, .int 0, .int 0, .ref (oad G 377), .null, .null, .null, .null, .null, .null, .null, .null, .null, .null, .int 0]) flX6_11 fdX6_3 fpX6 (Or.inr ⟨rfl, rfl, rfl⟩) rfl rfl (by omega) (by decide) (Nat.le_of_ble_eq_true rfl) rfl dX6_init_9 ?_
  refine n_aload_n dX6_init_12 rfl rfl ?_
  refine n_bipush dX6_init_13 (v := 30) (by decide) ?_
  refine n_newI (q := 378) (N := 30) (by omega) ov_c378 ov_n378 (hS 378 (by decide) (by decide)).1 ((ncf_tl (by decide)).trans (hx 378 (by decide))) (by decide) (by decide) (by decide) (by decide) (by decide) dX6_init_15 ?_
  refine n_put0 (v := .ref 378) (fs' := [.null, .int 0, .int 0, .ref (oad G 377), .ref (oad G 378), .null, .null, .null, .null, .null, .null, .null, .null, .null, .int 0]) flX6_15 fdX6_4 fpX6 (Or.inr ⟨rfl, rfl, rfl⟩) rfl rfl (by omega) (by decide) (Nat.le_of_ble_eq_true rfl) rfl dX6_init_17 ?_
  refine n_aload_n dX6_init_20 rfl rfl ?_
  refine n_bipush dX6_init_21 (v := 30) (by decide) ?_
  refine n_newI (q := 379) (N := 30) (by omega) ov_c379 ov_n379 (hS 379 (by decide) (by decide)).1 ((ncf_tl (by decide)).trans (hx 379 (by decide))) (by decide) (by decide) (by decide) (by decide) (by decide) dX6_init_23 ?_
  refine n_put0 (v := .ref 379) (fs' := [.null, .int 0, .int 0, .ref (oad G 377), .ref (oad G 378), .ref (oad G 379), .null, .null, .null, .null, .null, .null, .null, .null, .int 0]) flX6_18 fdX6_5 fpX6 (Or.inr ⟨rfl, rfl, rfl⟩) rfl rfl (by omega) (by decide) (Nat.le_of_ble_eq_true rfl) rfl dX6_init_25 ?_
  refine n_aload_n dX6_init_28 rfl rfl ?_
  refine n_bipush dX6_init_29 (v := 30) (by decide) ?_
  refine n_newI (q := 380) (N := 30) (by omega) ov_c380 ov_n380 (hS 380 (by decide) (by decide)).1 ((ncf_tl (by decide)).trans (hx 380 (by decide))) (by decide) (by decide) (by decide) (by decide) (by decide) dX6_init_31 ?_
  refine n_put0 (v := .ref 380) (fs' := [.null, .int 0, .int 0, .ref (oad G 377), .ref (oad G 378), .ref (oad G 379), .ref (oad G 380), .null, .null, .null, .null, .null, .null, .null, .int 0]) flX6_21 fdX6_6 fpX6 (Or.inr ⟨rfl, rfl, rfl⟩) rfl rfl (by omega) (by decide) (Nat.le_of_ble_eq_true rfl) rfl dX6_init_33 ?_
  refine n_aload_n dX6_init_36 rfl rfl ?_
  refine n_bipush dX6_init_37 (v := 30) (by decide) ?_
  refine n_newI (q := 381) (N := 30) (by omega) ov_c381 ov_n381 (hS 381 (by decide) (by decide)).1 ((ncf_tl (by decide)).trans (hx 381 (by decide))) (by decide) (by decide) (by decide) (by decide) (by decide) dX6_init_39 ?_
  refine n_put0 (v := .ref 381) (fs' := [.null, .int 0, .int 0, .ref (oad G 377), .ref (oad G 378), .ref (oad G 379), .ref (oad G 380), .ref (oad G 381), .null, .null, .null, .null, .null, .null, .int 0]) flX6_24 fdX6_7 fpX6 (Or.inr ⟨rfl, rfl, rfl⟩) rfl rfl (by omega) (by decide) (Nat.le_of_ble_eq_true rfl) rfl dX6_init_41 ?_
  refine n_aload_n dX6_init_44 rfl rfl ?_
  refine n_bipush dX6_init_45 (v := 30) (by decide) ?_
  refine n_newI (q := 382) (N := 30) (by omega) ov_c382 ov_n382 (hS 382 (by decide) (by decide)).1 ((ncf_tl (by decide)).trans (hx 382 (by decide))) (by decide) (by decide) (by decide) (by decide) (by decide) dX6_init_47 ?_
  refine n_put0 (v := .ref 382) (fs' := [.null, .int 0, .int 0, .ref (oad G 377), .ref (oad G 378), .ref (oad G 379), .ref (oad G 380), .ref (oad G 381), .ref (oad G 382), .null, .null, .null, .null, .null, .int 0]) flX6_27 fdX6_8 fpX6 (Or.inr ⟨rfl, rfl, rfl⟩) rfl rfl (by omega) (by decide) (Nat.le_of_ble_eq_true rfl) rfl dX6_init_49 ?_
  refine n_aload_n dX6_init_52 rfl rfl ?_
  refine n_bipush dX6_init_53 (v := 100) (by decide) ?_
  refine n_newI (q := 383) (N := 100) (by omega) ov_c383 ov_n383 (hS 383 (by decide) (by decide)).1 ((ncf_tl (by decide)).trans (hx 383 (by decide))) (by decide) (by decide) (by decide) (by decide) (by decide) dX6_init_55 ?_
  refine n_put0 (v := .ref 383) (fs' := [.null, .int 0, .int 0, .ref (oad G 377), .ref (oad G 378), .ref (oad G 379), .ref (oad G 380), .ref (oad G 381), .ref (oad G 382), .ref (oad G 383), .null, .null, .null, .null, .int 0]) flX6_30 fdX6_9 fpX6 (Or.inr ⟨rfl, rfl, rfl⟩) rfl rfl (by omega) (by decide) (Nat.le_of_ble_eq_true rfl) rfl dX6_init_57 ?_
  refine n_aload_n dX6_init_60 rfl rfl ?_
  refine n_bipush dX6_init_61 (v := 10) (by decide) ?_
  refine n_newI (q := 384) (N := 10) (by omega) ov_c384 ov_n384 (hS 384 (by decide) (by decide)).1 ((ncf_tl (by decide)).trans (hx 384 (by decide))) (by decide) (by decide) (by decide) (by decide) (by decide) dX6_init_63 ?_
  refine n_put0 (v := .ref 384) (fs' := [.null, .int 0, .int 0, .ref (oad G 377), .ref (oad G 378), .ref (oad G 379), .ref (oad G 380), .ref (oad G 381), .ref (oad G 382), .ref (oad G 383), .ref (oad G 384), .null, .null, .null, .int 0]) flX6_33 fdX6_10 fpX6 (Or.inr ⟨rfl, rfl, rfl⟩) rfl rfl (by omega) (by decide) (Nat.le_of_ble_eq_true rfl) rfl dX6_init_65 ?_
  refine n_aload_n dX6_init_68 rfl rfl ?_
  refine n_bipush dX6_init_69 (v := 10) (by decide) ?_
  refine n_newI (q := 385) (N := 10) (by omega) ov_c385 ov_n385 (hS 385 (by decide) (by decide)).1 ((ncf_tl (by decide)).trans (hx 385 (by decide))) (by decide) (by decide) (by decide) (by decide) (by decide) dX6_init_71 ?_
  refine n_put0 (v := .ref 385) (fs' := [.null, .int 0, .int 0, .ref (oad G 377), .ref (oad G 378), .ref (oad G 379), .ref (oad G 380), .ref (oad G 381), .ref (oad G 382), .ref (oad G 383), .ref (oad G 384), .ref (oad G 385), .null, .null, .int 0]) flX6_36 fdX6_11 fpX6 (Or.inr ⟨rfl, rfl, rfl⟩) rfl rfl (by omega) (by decide) (Nat.le_of_ble_eq_true rfl) rfl dX6_init_73 ?_
  refine n_aload_n dX6_init_76 rfl rfl ?_
  refine n_bipush dX6_init_77 (v := 100) (by decide) ?_
  refine n_newI (q := 386) (N := 100) (by omega) ov_c386 ov_n386 (hS 386 (by decide) (by decide)).1 ((ncf_tl (by decide)).trans (hx 386 (by decide))) (by decide) (by decide) (by decide) (by decide) (by decide) dX6_init_79 ?_
  refine n_put0 (v := .ref 386) (fs' := [.null, .int 0, .int 0, .ref (oad G 377), .ref (oad G 378), .ref (oad G 379), .ref (oad G 380), .ref (oad G 381), .ref (oad G 382), .ref (oad G 383), .ref (oad G 384), .ref (oad G 385), .ref (oad G 386), .null, .int 0]) flX6_39 fdX6_12 fpX6 (Or.inr ⟨rfl, rfl, rfl⟩) rfl rfl (by omega) (by decide) (Nat.le_of_ble_eq_true rfl) rfl dX6_init_81 ?_
  refine n_aload_n dX6_init_84 rfl rfl ?_
  refine n_sipush dX6_init_85 (v := 1024) (by decide) ?_
  refine n_newI (q := 387) (N := 1024) (by omega) ov_c387 ov_n387 (hS 387 (by decide) (by decide)).1 ((ncf_tl (by decide)).trans (hx 387 (by decide))) (by decide) (by decide) (by decide) (by decide) (by decide) dX6_init_88 ?_
  refine n_put0 (v := .ref 387) (fs' := [.null, .int 0, .int 0, .ref (oad G 377), .ref (oad G 378), .ref (oad G 379), .ref (oad G 380), .ref (oad G 381), .ref (oad G 382), .ref (oad G 383), .ref (oad G 384), .ref (oad G 385), .ref (oad G 386), .ref (oad G 387), .int 0]) flX6_42 fdX6_13 fpX6 (Or.inr ⟨rfl, rfl, rfl⟩) rfl rfl (by omega) (by decide) (Nat.le_of_ble_eq_true rfl) rfl dX6_init_90 ?_
  refine n_aload_n dX6_init_93 rfl rfl ?_
  refine n_aload_n dX6_init_94 rfl rfl ?_
  refine n_put0 (v := .ref 16) (fs' := [.ref (oad G 16), .int 0, .int 0, .ref (oad G 377), .ref (oad G 378), .ref (oad G 379), .ref (oad G 380), .ref (oad G 381), .ref (oad G 382), .ref (oad G 383), .ref (oad G 384), .ref (oad G 385), .ref (oad G 386), .ref (oad G 387), .int 0]) flX6_45 fdX6_0 fpX6 (Or.inr ⟨rfl, rfl, rfl⟩) rfl rfl (by omega) (by decide) (Nat.le_of_ble_eq_true rfl) rfl dX6_init_95 ?_
  exact n_ret rfl dX6_init_98 (by omega) rfl (nx_end hfin hx)
