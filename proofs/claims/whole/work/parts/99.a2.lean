/-! the constructors, printed -/
theorem ctX1_7 {G : ovG} {S : ovS} {xs : List (Nat × va_E)} (hS : ∀ i, 7 ≤ i → i < 11 → S.1 i = (fun _ => 0) ∧ S.2 i = (fun _ => 0)) (hx : ∀ i, 7 ≤ i → ncf G S xs i = oce G S i) : EN G mX1_init 1 3 631 [.ref 7] (8) S ((7, .inr (1, nb1)) :: xs) (fun S1 => S1 = S) xs := by
  have hfin : (.inr (1, [.int 0, .int 0, .ref (oad G 8), .ref (oad G 9), .ref (oad G 10)]) : va_E) = oce G S 7 := by
    rw [oce_obj ov_c7 (by decide)]
    have h1 := (hS 7 (by omega) (by omega)).1
    have h2 := (hS 7 (by omega) (by omega)).2
    have e1 : [.int (S.1 7 0), .int (S.1 7 1), .ref (oad G 8), .ref (oad G 9), .ref (oad G 10)] = (List.range (ofn 1)).map (ofv G S 7 1) := rfl
    rw [← e1]
    simp only [h1, h2]
  refine EN.of (by decide) (Nat.le_of_ble_eq_true rfl) [some (.ref 7)] ⟨0, rfl⟩ ?_
  refine n_aload_n dX1_init_0 rfl rfl ?_
  refine n_obj nolX1 dX1_init_1 (by decide) (by decide) ?_
  refine n_aload_n dX1_init_4 rfl rfl ?_
  refine n_sipush dX1_init_5 (v := 300) (by decide) ?_
  refine n_newI (q := 8) (N := 300) (by omega) ov_c8 ov_n8 (hS 8 (by decide) (by decide)).1 ((ncf_tl (by decide)).trans (hx 8 (by decide))) (by decide) (by decide) (by decide) (by decide) (by decide) dX1_init_8 ?_
  refine n_put0 (v := .ref 8) (fs' := [.int 0, .int 0, .ref (oad G 8), .null, .null]) flX1_11 fdX1_2 fpX1 (Or.inr ⟨rfl, rfl, rfl⟩) rfl rfl (by omega) (by decide) (Nat.le_of_ble_eq_true rfl) rfl dX1_init_10 ?_
  refine n_aload_n dX1_init_13 rfl rfl ?_
  refine n_sipush dX1_init_14 (v := 300) (by decide) ?_
  refine n_newI (q := 9) (N := 300) (by omega) ov_c9 ov_n9 (hS 9 (by decide) (by decide)).1 ((ncf_tl (by decide)).trans (hx 9 (by decide))) (by decide) (by decide) (by decide) (by decide) (by decide) dX1_init_17 ?_
  refine n_put0 (v := .ref 9) (fs' := [.int 0, .int 0, .ref (oad G 8), .ref (oad G 9), .null]) flX1_15 fdX1_3 fpX1 (Or.inr ⟨rfl, rfl, rfl⟩) rfl rfl (by omega) (by decide) (Nat.le_of_ble_eq_true rfl) rfl dX1_init_19 ?_
  refine n_aload_n dX1_init_22 rfl rfl ?_
  refine n_bipush dX1_init_23 (v := 31) (by decide) ?_
  refine n_newI (q := 10) (N := 31) (by omega) ov_c10 ov_n10 (hS 10 (by decide) (by decide)).1 ((ncf_tl (by decide)).trans (hx 10 (by decide))) (by decide) (by decide) (by decide) (by decide) (by decide) dX1_init_25 ?_
  refine n_put0 (v := .ref 10) (fs' := [.int 0, .int 0, .ref (oad G 8), .ref (oad G 9), .ref (oad G 10)]) flX1_18 fdX1_4 fpX1 (Or.inr ⟨rfl, rfl, rfl⟩) rfl rfl (by omega) (by decide) (Nat.le_of_ble_eq_true rfl) rfl dX1_init_27 ?_
  exact n_ret rfl dX1_init_30 (by omega) rfl (nx_end hfin hx)
theorem ctX1_20 {G : ovG} {S : ovS} {xs : List (Nat × va_E)} (hS : ∀ i, 20 ≤ i → i < 24 → S.1 i = (fun _ => 0) ∧ S.2 i = (fun _ => 0)) (hx : ∀ i, 20 ≤ i → ncf G S xs i = oce G S i) : EN G mX1_init 1 3 631 [.ref 20] (21) S ((20, .inr (1, nb1)) :: xs) (fun S1 => S1 = S) xs := by
  have hfin : (.inr (1, [.int 0, .int 0, .ref (oad G 21), .ref (oad G 22), .ref (oad G 23)]) : va_E) = oce G S 20 := by
    rw [oce_obj ov_c20 (by decide)]
    have h1 := (hS 20 (by omega) (by omega)).1
    have h2 := (hS 20 (by omega) (by omega)).2
    have e1 : [.int (S.1 20 0), .int (S.1 20 1), .ref (oad G 21), .ref (oad G 22), .ref (oad G 23)] = (List.range (ofn 1)).map (ofv G S 20 1) := rfl
    rw [← e1]
    simp only [h1, h2]
  refine EN.of (by decide) (Nat.le_of_ble_eq_true rfl) [some (.ref 20)] ⟨0, rfl⟩ ?_
  refine n_aload_n dX1_init_0 rfl rfl ?_
  refine n_obj nolX1 dX1_init_1 (by decide) (by decide) ?_
  refine n_aload_n dX1_init_4 rfl rfl ?_
  refine n_sipush dX1_init_5 (v := 300) (by decide) ?_
  refine n_newI (q := 21) (N := 300) (by omega) ov_c21 ov_n21 (hS 21 (by decide) (by decide)).1 ((ncf_tl (by decide)).trans (hx 21 (by decide))) (by decide) (by decide) (by decide) (by decide) (by decide) dX1_init_8 ?_
  refine n_put0 (v := .ref 21) (fs' := [.int 0, .int 0, .ref (oad G 21), .null, .null]) flX1_11 fdX1_2 fpX1 (Or.inr ⟨rfl, rfl, rfl⟩) rfl rfl (by omega) (by decide) (Nat.le_of_ble_eq_true rfl) rfl dX1_init_10 ?_
  refine n_aload_n dX1_init_13 rfl rfl ?_
  refine n_sipush dX1_init_14 (v := 300) (by decide) ?_
  refine n_newI (q := 22) (N := 300) (by omega) ov_c22 ov_n22 (hS 22 (by decide) (by decide)).1 ((ncf_tl (by decide)).trans (hx 22 (by decide))) (by decide) (by decide) (by decide) (by decide) (by decide) dX1_init_17 ?_
  refine n_put0 (v := .ref 22) (fs' := [.int 0, .int 0, .ref (oad G 21), .ref (oad G 22), .null]) flX1_15 fdX1_3 fpX1 (Or.inr ⟨rfl, rfl, rfl⟩) rfl rfl (by omega) (by decide) (Nat.le_of_ble_eq_true rfl) rfl dX1_init_19 ?_
  refine n_aload_n dX1_init_22 rfl rfl ?_
  refine n_bipush dX1_init_23 (v := 31) (by decide) ?_
  refine n_newI (q := 23) (N := 31) (by omega) ov_c23 ov_n23 (hS 23 (by decide) (by decide)).1 ((ncf_tl (by decide)).trans (hx 23 (by decide))) (by decide) (by decide) (by decide) (by decide) (by decide) dX1_init_25 ?_
  refine n_put0 (v := .ref 23) (fs' := [.int 0, .int 0, .ref (oad G 21), .ref (oad G 22), .ref (oad G 23)]) flX1_18 fdX1_4 fpX1 (Or.inr ⟨rfl, rfl, rfl⟩) rfl rfl (by omega) (by decide) (Nat.le_of_ble_eq_true rfl) rfl dX1_init_27 ?_
  exact n_ret rfl dX1_init_30 (by omega) rfl (nx_end hfin hx)
theorem ctX9 {G : ovG} {S : ovS} {xs : List (Nat × va_E)} {h0 : Nat} (hc : ocl h0 = 9 ∧ h0 < ovNN ∧ ∀ j, j < 8 → j ≠ 0 → ocl (h0 + j) = 14 ∧ oln (h0 + j) = 5 ∧ h0 + j < ovNN) (hS : ∀ i, h0 ≤ i → i < h0 + 8 → S.1 i = (fun _ => 0) ∧ S.2 i = (fun _ => 0)) (hx : ∀ i, h0 ≤ i → ncf G S xs i = oce G S i) : EN G mX9_init 1 7 35 [.ref h0] (h0 + 1) S ((h0, .inr (9, nb9)) :: xs) (fun S1 => S1 = S) xs := by
  have hfin : (.inr (9, [.ref (oad G (h0 + 1)), .ref (oad G (h0 + 2)), .ref (oad G (h0 + 3)), .ref (oad G (h0 + 4)), .ref (oad G (h0 + 5)), .ref (oad G (h0 + 6)), .ref (oad G (h0 + 7)), .int 0, .int 0, .int 0]) : va_E) = oce G S h0 := by
    rw [oce_obj hc.1 (by decide)]
    have h1 := (hS h0 (by omega) (by omega)).1
    have h2 := (hS h0 (by omega) (by omega)).2
    have e1 : [.ref (oad G (h0 + 1)), .ref (oad G (h0 + 2)), .ref (oad G (h0 + 3)), .ref (oad G (h0 + 4)), .ref (oad G (h0 + 5)), .ref (oad G (h0 + 6)), .ref (oad G (h0 + 7)), .int (S.1 h0 7), .int (S.1 h0 8), .int (S.1 h0 9)] = (List.range (ofn 9)).map (ofv G S h0 9) := rfl
    rw [← e1]
    simp only [h1, h2]
  refine EN.of (by decide) (Nat.le_of_ble_eq_true rfl) [some (.ref h0)] ⟨0, rfl⟩ ?_
  refine n_aload_n dX9_init_0 rfl rfl ?_
  refine n_obj nolX9 dX9_init_1 (by decide) (by decide) ?_
  refine n_aload_n dX9_init_4 rfl rfl ?_
  refine n_iconst dX9_init_5 (v := 5) (by decide) ?_
  refine n_newI (q := (h0 + 1)) (N := 5) (by omega) (hc.2.2 1 (by decide) (by decide)).1 (hc.2.2 1 (by decide) (by decide)).2.1 (hS (h0 + 1) (by omega) (by omega)).1 ((ncf_tl (by omega)).trans (hx (h0 + 1) (by omega))) (by decide) (by decide) (by decide) (by decide) (by decide) dX9_init_6 ?_
  refine n_put0 (v := .ref (h0 + 1)) (fs' := [.ref (oad G (h0 + 1)), .null, .null, .null, .null, .null, .null, .int 0, .int 0, .int 0]) flX9_9 fdX9_0 fpX9 (Or.inr ⟨rfl, rfl, rfl⟩) rfl rfl (by omega) hc.2.1 (Nat.le_of_ble_eq_true rfl) rfl dX9_init_8 ?_
  refine n_aload_n dX9_init_11 rfl rfl ?_
  refine n_iconst dX9_init_12 (v := 5) (by decide) ?_
  refine n_newI (q := (h0 + 2)) (N := 5) (by omega) (hc.2.2 2 (by decide) (by decide)).1 (hc.2.2 2 (by decide) (by decide)).2.1 (hS (h0 + 2) (by omega) (by omega)).1 ((ncf_tl (by omega)).trans (hx (h0 + 2) (by omega))) (by decide) (by decide) (by decide) (by decide) (by decide) dX9_init_13 ?_
  refine n_put0 (v := .ref (h0 + 2)) (fs' := [.ref (oad G (h0 + 1)), .ref (oad G (h0 + 2)), .null, .null, .null, .null, .null, .int 0, .int 0, .int 0]) flX9_15 fdX9_1 fpX9 (Or.inr ⟨rfl, rfl, rfl⟩) rfl rfl (by omega) hc.2.1 (Nat.le_of_ble_eq_true rfl) rfl dX9_init_15 ?_
  refine n_aload_n dX9_init_18 rfl rfl ?_
  refine n_iconst dX9_init_19 (v := 5) (by decide) ?_
  refine n_newI (q := (h0 + 3)) (N := 5) (by omega) (hc.2.2 3 (by decide) (by decide)).1 (hc.2.2 3 (by decide) (by decide)).2.1 (hS (h0 + 3) (by omega) (by omega)).1 ((ncf_tl (by omega)).trans (hx (h0 + 3) (by omega))) (by decide) (by decide) (by decide) (by decide) (by decide) dX9_init_20 ?_
  refine n_put0 (v := .ref (h0 + 3)) (fs' := [.ref (oad G (h0 + 1)), .ref (oad G (h0 + 2)), .ref (oad G (h0 + 3)), .null, .null, .null, .null, .int 0, .int 0, .int 0]) flX9_18 fdX9_2 fpX9 (Or.inr ⟨rfl, rfl, rfl⟩) rfl rfl (by omega) hc.2.1 (Nat.le_of_ble_eq_true rfl) rfl dX9_init_22 ?_
  refine n_aload_n dX9_init_25 rfl rfl ?_
  refine n_iconst dX9_init_26 (v := 5) (by decide) ?_
  refine n_newI (q := (h0 + 4)) (N := 5) (by omega) (hc.2.2 4 (by decide) (by decide)).1 (hc.2.2 4 (by decide) (by decide)).2.1 (hS (h0 + 4) (by omega) (by omega)).1 ((ncf_tl (by omega)).trans (hx (h0 + 4) (by omega))) (by decide) (by decide) (by decide) (by decide) (by decide) dX9_init_27 ?_
  refine n_put0 (v := .ref (h0 + 4)) (fs' := [.ref (oad G (h0 + 1)), .ref (oad G (h0 + 2)), .ref (oad G (h0 + 3)), .ref (oad G (h0 + 4)), .null, .null, .null, .int 0, .int 0, .int 0]) flX9_21 fdX9_3 fpX9 (Or.inr ⟨rfl, rfl, rfl⟩) rfl rfl (by omega) hc.2.1 (Nat.le_of_ble_eq_true rfl) rfl dX9_init_29 ?_
  refine n_aload_n dX9_init_32 rfl rfl ?_
  refine n_iconst dX9_init_33 (v := 5) (by decide) ?_
  refine n_newI (q := (h0 + 5)) (N := 5) (by omega) (hc.2.2 5 (by decide) (by decide)).1 (hc.2.2 5 (by decide) (by decide)).2.1 (hS (h0 + 5) (by omega) (by omega)).1 ((ncf_tl (by omega)).trans (hx (h0 + 5) (by omega))) (by decide) (by decide) (by decide) (by decide) (by decide) dX9_init_34 ?_
  refine n_put0 (v := .ref (h0 + 5)) (fs' := [.ref (oad G (h0 + 1)), .ref (oad G (h0 + 2)), .ref (oad G (h0 + 3)), .ref (oad G (h0 + 4)), .ref (oad G (h0 + 5)), .null, .null, .int 0, .int 0, .int 0]) flX9_24 fdX9_4 fpX9 (Or.inr ⟨rfl, rfl, rfl⟩) rfl rfl (by omega) hc.2.1 (Nat.le_of_ble_eq_true rfl) rfl dX9_init_36 ?_
  refine n_aload_n dX9_init_39 rfl rfl ?_
  refine n_iconst dX9_init_40 (v := 5) (by decide) ?_
  refine n_newI (q := (h0 + 6)) (N := 5) (by omega) (hc.2.2 6 (by decide) (by decide)).1 (hc.2.2 6 (by decide) (by decide)).2.1 (hS (h0 + 6) (by omega) (by omega)).1 ((ncf_tl (by omega)).trans (hx (h0 + 6) (by omega))) (by decide) (by decide) (by decide) (by decide) (by decide) dX9_init_41 ?_
  refine n_put0 (v := .ref (h0 + 6)) (fs' := [.ref (oad G (h0 + 1)), .ref (oad G (h0 + 2)), .ref (oad G (h0 + 3)), .ref (oad G (h0 + 4)), .ref (oad G (h0 + 5)), .ref (oad G (h0 + 6)), .null, .int 0, .int 0, .int 0]) flX9_27 fdX9_5 fpX9 (Or.inr ⟨rfl, rfl, rfl⟩) rfl rfl (by omega) hc.2.1 (Nat.le_of_ble_eq_true rfl) rfl dX9_init_43 ?_
  refine n_aload_n dX9_init_46 rfl rfl ?_
  refine n_iconst dX9_init_47 (v := 5) (by decide) ?_
  refine n_newI (q := (h0 + 7)) (N := 5) (by omega) (hc.2.2 7 (by decide) (by decide)).1 (hc.2.2 7 (by decide) (by decide)).2.1 (hS (h0 + 7) (by omega) (by omega)).1 ((ncf_tl (by omega)).trans (hx (h0 + 7) (by omega))) (by decide) (by decide) (by decide) (by decide) (by decide) dX9_init_48 ?_
  refine n_put0 (v := .ref (h0 + 7)) (fs' := [.ref (oad G (h0 + 1)), .ref (oad G (h0 + 2)), .ref (oad G (h0 + 3)), .ref (oad G (h0 + 4)), .ref (oad G (h0 + 5)), .ref (oad G (h0 + 6)), .ref (oad G (h0 + 7)), .int 0, .int 0, .int 0]) flX9_30 fdX9_6 fpX9 (Or.inr ⟨rfl, rfl, rfl⟩) rfl rfl (by omega) hc.2.1 (Nat.le_of_ble_eq_true rfl) rfl dX9_init_50 ?_
  exact n_ret rfl dX9_init_53 (by omega) rfl (nx_end hfin hx)
