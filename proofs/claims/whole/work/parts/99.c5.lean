/-! the law's loop, its start -/
theorem law_loop {G : ovG} {nm : String} {cells slots : Nat} {L : Nat} {xs : Nat → Int32} (hL : L ≤ 3072) (hc : cells ≤ 600000) (hs : slots ≤ 7302250) : ∀ (f i : Nat) (S : ovS), L < i + 6 * f + 6 → i ≤ 3072 → Inv S → RW G (mL nm) room_1 cells slots (lZ G L xs) 18 (lls i) [] S := by
  intro f
  induction f with
  | zero =>
    intro i S hf hi hI
    refine r_iload_n (x := nI i) dL_18 rfl rfl (r_aload_n (x := 451) dL_19 rfl rfl (l_slen rfl dL_20 (r_bipush (v := 6) dL_21 (by decide +kernel) (r_isub dL_23 (r_icmp_gt dL_24 (tgt := 1308) (by decide) (fun _ => ?_) (fun z => absurd ((l_cmp hL (by omega)).mpr (by omega)) z))))))
    exact r_iconst dL_1308 (v := 1) (by decide +kernel) (l_ret hc hs dL_1309)
  | succ f ih =>
    intro i S hf hi hI
    refine r_iload_n (x := nI i) dL_18 rfl rfl (r_aload_n (x := 451) dL_19 rfl rfl (l_slen rfl dL_20 (r_bipush (v := 6) dL_21 (by decide +kernel) (r_isub dL_23 (r_icmp_gt dL_24 (tgt := 1308) (by decide) (fun _ => ?_) (fun z => ?_))))))
    · exact r_iconst dL_1308 (v := 1) (by decide +kernel) (l_ret hc hs dL_1309)
    have h6 : i + 6 ≤ L := Nat.not_lt.mp (fun q => z ((l_cmp hL (by omega)).mpr q))
    have tl : ∀ S1 : ovS, Inv S1 → RW G (mL nm) room_1 cells slots (lZ G L xs) 1302 (lls i) [] S1 := fun S1 h1 => by
      refine r_iinc dL_1302 (x := nI i) (v := nI (i + 6)) rfl ((congrArg (nI i + ·) (show Int32.ofInt 6 = nI 6 by decide +kernel)).trans (nI_add i 6)) (show 3 < 4 by decide) rfl (r_goto dL_1305 (tgt := 18) (by decide) ?_)
      exact ih (i + 6) S1 (by omega) (by omega) h1
    obtain ⟨n, m, hIC, hY⟩ := hI
    refine r_aload_n (x := 451) dL_27 rfl rfl (r_iload_n (x := nI i) dL_28 rfl rfl (l_sld (vp_in_nI (by omega) (by omega)) dL_29 (r_bipush (v := 63) dL_30 (by decide +kernel) (r_iand dL_32 ?_))))
    generalize xs (nI i).toNatClampNeg &&& 63 = v
    by_cases h0 : v.toInt < 0
    · exact r_tableOut dL_33 (Or.inl h0) (tgt := 1302) (by decide) (tl S ⟨n, m, hIC, hY⟩)
    by_cases h41 : 41 < v.toInt
    · exact r_tableOut dL_33 (Or.inr h41) (tgt := 1302) (by decide) (tl S ⟨n, m, hIC, hY⟩)
    have go : ∀ (j : Nat) (off : Int) (tgt : Nat), v.toInt = (j : Int) → (#[183, 246, 269, 282, 305, 338, 371, 404, 437, 450, 463, 476, 489, 502, 525, 538, 551, 564, 577, 590, 613, 636, 659, 672, 685, 718, 761, 794, 827, 880, 913, 936, 989, 1012, 1035, 1058, 1081, 1114, 1167, 1200, 1223, 1246] : Array Int)[j]? = some off → ((33 : Nat) : Int) + off = (tgt : Int) → RW G (mL nm) room_1 cells slots (lZ G L xs) tgt (lls i) [] S → RW G (mL nm) room_1 cells slots (lZ G L xs) 33 (lls i) [.int v] S := fun j off tgt e1 e2 e3 kk => by
      refine r_tableIn dL_33 h0 h41 (off := off) (tgt := tgt) ?_ e3 kk
      rw [show (v.toInt - 0).toNat = j by omega]
      exact e2
    have hv : ∃ j : Nat, j ≤ 41 ∧ v.toInt = (j : Int) := ⟨v.toInt.toNat, by omega, by omega⟩
    obtain ⟨j, hj, ej⟩ := hv
    match j, hj, ej with
    | 0, _, ej => exact go 0 183 216 ej (by decide +kernel) (by decide) (lc_0 hL h6 hc hs hIC hY tl)
    | 1, _, ej => exact go 1 246 279 ej (by decide +kernel) (by decide) (lc_1 hL h6 hc hs hIC hY tl)
    | 2, _, ej => exact go 2 269 302 ej (by decide +kernel) (by decide) (lc_2 hL h6 hc hs hIC hY tl)
    | 3, _, ej => exact go 3 282 315 ej (by decide +kernel) (by decide) (lc_3 hL h6 hc hs hIC hY tl)
    | 4, _, ej => exact go 4 305 338 ej (by decide +kernel) (by decide) (lc_4 hL h6 hc hs hIC hY tl)
    | 5, _, ej => exact go 5 338 371 ej (by decide +kernel) (by decide) (lc_5 hL h6 hc hs hIC hY tl)
    | 6, _, ej => exact go 6 371 404 ej (by decide +kernel) (by decide) (lc_6 hL h6 hc hs hIC hY tl)
    | 7, _, ej => exact go 7 404 437 ej (by decide +kernel) (by decide) (lc_7 hL h6 hc hs hIC hY tl)
    | 8, _, ej => exact go 8 437 470 ej (by decide +kernel) (by decide) (lc_8 hL h6 hc hs hIC hY tl)
    | 9, _, ej => exact go 9 450 483 ej (by decide +kernel) (by decide) (lc_9 hL h6 hc hs hIC hY tl)
    | 10, _, ej => exact go 10 463 496 ej (by decide +kernel) (by decide) (lc_10 hL h6 hc hs hIC hY tl)
    | 11, _, ej => exact go 11 476 509 ej (by decide +kernel) (by decide) (lc_11 hL h6 hc hs hIC hY tl)
    | 12, _, ej => exact go 12 489 522 ej (by decide +kernel) (by decide) (lc_12 hL h6 hc hs hIC hY tl)
    | 13, _, ej => exact go 13 502 535 ej (by decide +kernel) (by decide) (lc_13 hL h6 hc hs hIC hY tl)
    | 14, _, ej => exact go 14 525 558 ej (by decide +kernel) (by decide) (lc_14 hL h6 hc hs hIC hY tl)
    | 15, _, ej => exact go 15 538 571 ej (by decide +kernel) (by decide) (lc_15 hL h6 hc hs hIC hY tl)
    | 16, _, ej => exact go 16 551 584 ej (by decide +kernel) (by decide) (lc_16 hL h6 hc hs hIC hY tl)
    | 17, _, ej => exact go 17 564 597 ej (by decide +kernel) (by decide) (lc_17 hL h6 hc hs hIC hY tl)
    | 18, _, ej => exact go 18 577 610 ej (by decide +kernel) (by decide) (lc_18 hL h6 hc hs hIC hY tl)
    | 19, _, ej => exact go 19 590 623 ej (by decide +kernel) (by decide) (lc_19 hL h6 hc hs hIC hY tl)
    | 20, _, ej => exact go 20 613 646 ej (by decide +kernel) (by decide) (lc_20 hL h6 hc hs hIC hY tl)
    | 21, _, ej => exact go 21 636 669 ej (by decide +kernel) (by decide) (lc_21 hL h6 hc hs hIC hY tl)
    | 22, _, ej => exact go 22 659 692 ej (by decide +kernel) (by decide) (lc_22 hL h6 hc hs hIC hY tl)
    | 23, _, ej => exact go 23 672 705 ej (by decide +kernel) (by decide) (lc_23 hL h6 hc hs hIC hY tl)
    | 24, _, ej => exact go 24 685 718 ej (by decide +kernel) (by decide) (lc_24 hL h6 hc hs hIC hY tl)
    | 25, _, ej => exact go 25 718 751 ej (by decide +kernel) (by decide) (lc_25 hL h6 hc hs hIC hY tl)
    | 26, _, ej => exact go 26 761 794 ej (by decide +kernel) (by decide) (lc_26 hL h6 hc hs hIC hY tl)
    | 27, _, ej => exact go 27 794 827 ej (by decide +kernel) (by decide) (lc_27 hL h6 hc hs hIC hY tl)
    | 28, _, ej => exact go 28 827 860 ej (by decide +kernel) (by decide) (lc_28 hL h6 hc hs hIC hY tl)
    | 29, _, ej => exact go 29 880 913 ej (by decide +kernel) (by decide) (lc_29 hL h6 hc hs hIC hY tl)
    | 30, _, ej => exact go 30 913 946 ej (by decide +kernel) (by decide) (lc_30 hL h6 hc hs hIC hY tl)
    | 31, _, ej => exact go 31 936 969 ej (by decide +kernel) (by decide) (lc_31 hL h6 hc hs hIC hY tl)
    | 32, _, ej => exact go 32 989 1022 ej (by decide +kernel) (by decide) (lc_32 hL h6 hc hs hIC hY tl)
    | 33, _, ej => exact go 33 1012 1045 ej (by decide +kernel) (by decide) (lc_33 hL h6 hc hs hIC hY tl)
    | 34, _, ej => exact go 34 1035 1068 ej (by decide +kernel) (by decide) (lc_34 hL h6 hc hs hIC hY tl)
    | 35, _, ej => exact go 35 1058 1091 ej (by decide +kernel) (by decide) (lc_35 hL h6 hc hs hIC hY tl)
    | 36, _, ej => exact go 36 1081 1114 ej (by decide +kernel) (by decide) (lc_36 hL h6 hc hs hIC hY tl)
    | 37, _, ej => exact go 37 1114 1147 ej (by decide +kernel) (by decide) (lc_37 hL h6 hc hs hIC hY tl)
    | 38, _, ej => exact go 38 1167 1200 ej (by decide +kernel) (by decide) (lc_38 hL h6 hc hs hIC hY tl)
    | 39, _, ej => exact go 39 1200 1233 ej (by decide +kernel) (by decide) (lc_39 hL h6 hc hs hIC hY tl)
    | 40, _, ej => exact go 40 1223 1256 ej (by decide +kernel) (by decide) (lc_40 hL h6 hc hs hIC hY tl)
    | 41, _, ej => exact go 41 1246 1279 ej (by decide +kernel) (by decide) (lc_41 hL h6 hc hs hIC hY tl)
    | j + 42, hj, _ => exact absurd hj (by omega)
theorem law_start {G : ovG} {nm : String} {L : Nat} {xs : Nat → Int32} (hL : L ≤ 3072) : RN G (mL nm) room_1 0 0 0 (lZ G L xs) 0 [some (.ref 451), none, none, none] [] [] sS0 := by
  refine n_new (q := 0) (fs := nb11) nclL_7 ninX11 nitX11 fdX11_0 fpX11 nfs11 rfl (by decide) (by decide) (by decide) dL_0 ?_
  refine n_dup dL_3 rfl ?_
  refine n_callI (h := 5) (mc := 411) (ms := 6843) (As := []) (st := [.ref 0]) nokX11 mlL_9 dL_4 rfl (Nat.le_of_ble_eq_true rfl) ⟨Nat.le_of_ble_eq_true rfl, Nat.le_of_ble_eq_true rfl⟩ ⟨Nat.le_of_ble_eq_true rfl, Nat.le_of_ble_eq_true rfl⟩ (by decide) rfl (ctX11_0 (fun i a b => ⟨s0_row (by omega) (by omega), rfl⟩) s0_0 rfl sp_cbegin5) (fun S1 q => ?_)
  obtain ⟨r, q⟩ := q
  have q9 : S1.2 = sS0.2 := q.2.2.2.2.2.2.2.2
  refine n_astore_n dL_7 rfl (show 1 < 4 by decide) rfl ?_
  refine n_new (q := 412) (fs := nb12) nclL_10 ninX12 nitX12 fdX12_0 fpX12 nfs12 rfl (by decide) (by decide) (by decide) dL_8 ?_
  refine n_dup dL_11 rfl ?_
  refine n_callI (h := 1) (mc := 34) (ms := 7586) (As := []) (st := [.ref 412]) nokX12 mlL_12 dL_12 rfl (Nat.le_of_ble_eq_true rfl) ⟨Nat.le_of_ble_eq_true rfl, Nat.le_of_ble_eq_true rfl⟩ ⟨Nat.le_of_ble_eq_true rfl, Nat.le_of_ble_eq_true rfl⟩ (by decide) rfl (ctX12_412 (fun i a b => ⟨(q.1 i (by unfold bgR; simp only [Bool.or_eq_false_iff, Bool.and_eq_false_iff, decide_eq_false_iff_not]; omega)).trans (s0_row (by omega) (by omega)), congrFun q9 i⟩) ((q.1 412 rfl).trans s0_412) (congrFun q9 412)) (fun S2 e2 => ?_)
  rw [e2]
  refine n_astore_n dL_15 rfl (show 2 < 4 by decide) rfl ?_
  refine n_full (by decide) (fun i _ => rfl) ?_
  refine r_iconst dL_16 (v := nI 0) (by decide +kernel) ?_
  refine r_istore_n dL_17 rfl (show 3 < 4 by decide) rfl ?_
  exact law_loop hL (by decide) (by decide) 512 0 (sM S1 5) (by omega) (by omega) (start_inv q)
/-- from the entry, for every script of at most 3072 ints, the law comes to its end with true -/
theorem whole_start {p : Program} {e : Env} {s : State} {m : MethodId} {below : List Frame} {meth : Method} {c : Code} (l : Launch) {b L : Nat} {xs : Nat → Int32} (hL : L ≤ 3072) (C0 : lw_At p s m meth c b L xs) : W p l e room_1 s m #[Value.ref b] below meth c s.heap [] 0 0 (lw_Z below #[Value.ref b] s) (entryFrame m ([Value.ref b] : List Value).toArray 4) := by
  obtain ⟨G, hG0, hG1, hGb, hK, hX, hN⟩ := law_world l C0
  subst hG0
  obtain ⟨hx, hb, hr, hml, hown, hts, hXs, hbl, hlocks, hgv⟩ := id C0
  have hl := lv_entry ([.ref b]) (n := 4) (Nat.le_of_ble_eq_true rfl)
  rw [lg_entry_eq]
  generalize (lg_sl ([.ref b]) ++ List.replicate (4 - (lg_sl ([.ref b])).length) Slot.unset).toArray = la at hl ⊢
  have hl : lv_has la 4 [(0, .ref b)] := hl
  have C : nCx G (mL meth.name) 0 p s m #[Value.ref b] meth c := ⟨⟨hx, hb, hr, hml, hown, fun w hw => hts w (tblG_lw hw), hK, hlocks, hX⟩, hN, hG1.symm, rfl⟩
  have hP : nWP G sS0 [] (0 + 0) s.heap := fun k q h => absurd (nws_key h).1 (by omega)
  have hl2 : olv G la 4 [some (.ref 451), none, none, none] := by
    show lv_has la 4 [(0, otr G (.ref 451))]
    rw [l_451, hGb]
    exact hl
  have hw := law_start (G := G) (nm := meth.name) (L := L) (xs := xs) hL p e s m #[Value.ref b] below meth c C s.heap [] la hP va_S.rf hl2
  intro T hT X
  obtain ⟨t, a1, b1⟩ := hw T hT X
  exact ⟨t, a1, b1 ⟨by rw [hGb], by rw [hGb]; exact hXs, by rw [hGb]; exact hbl, hG1.symm⟩⟩
