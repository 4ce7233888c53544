/-! ===== the class alone: the first 412 objects ===== -/
def ocl4 (k : Nat) : Nat := if k < 412 then ocl k else 99
theorem ocl4_in {k n : Nat} (h : ocl4 k = n) (hn : n ≠ 99) : k < 412 ∧ ocl k = n := by
  unfold ocl4 at h
  by_cases hk : k < 412
  · rw [if_pos hk] at h
    exact ⟨hk, h⟩
  · rw [if_neg hk] at h
    exact absurd h.symm hn
theorem ocl_lt4 {k n : Nat} (h : ocl4 k = n) (hn : n ≠ 99) : k < 412 := (ocl4_in h hn).1
def ows4 (G : ovG) (S : ovS) : va_W := nws G S [] 412
theorem ows_at4 {G : ovG} {S : ovS} {k : Nat} (h : k < 412) : (ows4 G S)[k]? = some (oad G k, oce G S k) := by
  rw [ows4, nws_at h, oad_in (Nat.lt_of_lt_of_le h (by decide))]
  rfl
theorem ows_D4 {G : ovG} {S : ovS} : va_D (oA G) (ows4 G S) := nws_D
theorem ows_set4 {G : ovG} {S S' : ovS} {k : Nat} {e : va_E} (hk : k < 412) (he : oce G S' k = e) (h : ∀ j, j ≠ k → oce G S' j = oce G S j) : (ows4 G S).set k (oad G k, e) = ows4 G S' := by
  rw [oad_in (Nat.lt_of_lt_of_le hk (by decide))]
  exact nws_set hk he h
theorem oce_obj4 {G : ovG} {S : ovS} {k ci : Nat} (h : ocl4 k = ci) (hc : ci < 13) : oce G S k = .inr (ci, (List.range (ofn ci)).map (ofv G S k ci)) := oce_obj (ocl4_in h (by omega)).2 hc
theorem oce_B4 {G : ovG} {S : ovS} {k n : Nat} (h : ocl4 k = 13) (hn : oln k = n) : oce G S k = .inl (G.2.2.2.1 0, n, .inl (S.1 k)) := oce_B (ocl4_in h (by decide)).2 hn
theorem oce_I4 {G : ovG} {S : ovS} {k n : Nat} (h : ocl4 k = 14) (hn : oln k = n) : oce G S k = .inl (G.2.2.2.1 1, n, .inl (S.1 k)) := oce_I (ocl4_in h (by decide)).2 hn
theorem oce_J4 {G : ovG} {S : ovS} {k n : Nat} (h : ocl4 k = 15) (hn : oln k = n) : oce G S k = .inl (G.2.2.2.1 2, n, .inr (.inl (S.2 k))) := oce_J (ocl4_in h (by decide)).2 hn
theorem oce_Z4 {G : ovG} {S : ovS} {k n : Nat} (h : ocl4 k = 16) (hn : oln k = n) : oce G S k = .inl (G.2.2.2.1 3, n, .inl (S.1 k)) := oce_Z (ocl4_in h (by decide)).2 hn
theorem oce_R4 {G : ovG} {S : ovS} {k n : Nat} (h : ocl4 k = 17) (hn : oln k = n) : oce G S k = .inl (G.2.2.2.1 4, n, .inr (.inr (.inr (.inr (fun j => some (oad G (orow k j))))))) := oce_R (ocl4_in h (by decide)).2 hn
theorem ovSt_c4 : ∀ o ∈ ovSt, ocl4 o = 9 ∧ o < ovNN ∧ ∀ j, j < 8 → j ≠ 0 → ocl4 (o + j) = 14 ∧ oln (o + j) = 5 ∧ o + j < ovNN := by decide +kernel
theorem ov4_c0 : ocl4 0 = 11 := by decide +kernel
theorem ov4_c16 : ocl4 16 = 10 := by decide +kernel
theorem ov4_c18 : ocl4 18 = 14 := by decide +kernel
theorem ov4_c19 : ocl4 19 = 14 := by decide +kernel
theorem ov4_c24 : ocl4 24 = 9 := by decide +kernel
theorem ov4_c27 : ocl4 27 = 14 := by decide +kernel
theorem ov4_c29 : ocl4 29 = 14 := by decide +kernel
theorem ov4_c32 : ocl4 32 = 3 := by decide +kernel
theorem ov4_c33 : ocl4 33 = 17 := by decide +kernel
theorem ov4_c363 : ocl4 363 = 16 := by decide +kernel
theorem ov4_c369 : ocl4 369 = 8 := by decide +kernel
theorem ov4_c376 : ocl4 376 = 6 := by decide +kernel
