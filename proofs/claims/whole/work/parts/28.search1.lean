/-! ===== SAYINGS by number ===== -/
def dgv (n k u s : Nat) : Int32 := nI (u / (n + 1) ^ (k - 1 - s) % (n + 1)) - 1
def nmv (n v : Nat) : Nat → Int32 := fun s => if s < n then dgv n n v s else -1
theorem dgv_nm {n k u s : Nat} : isNm n (dgv n k u s) := isNm_j (by have := Nat.mod_lt (u / (n + 1) ^ (k - 1 - s)) (show 0 < n + 1 by omega); omega)
theorem nmv_VN (n v : Nat) : VN n (nmv n v) := by
  intro i _
  refine ⟨fun h => ?_, fun h => ?_⟩
  · simp only [nmv, if_pos h]
    exact dgv_nm
  · simp only [nmv, if_neg (show ¬ i < n by omega)]
theorem dgv_up {n k u s : Nat} (hs : s < k) : dgv n (k + 1) u s = dgv n k (u / (n + 1)) s := by
  simp only [dgv]
  rw [show k + 1 - 1 - s = (k - 1 - s) + 1 by omega, Nat.pow_succ', Nat.div_div_eq_div_mul]
theorem dgv_k {n k u : Nat} : dgv n (k + 1) u k = nI (u % (n + 1)) - 1 := by
  simp only [dgv]
  rw [show k + 1 - 1 - k = 0 by omega, Nat.pow_zero, Nat.div_one]
theorem sub_add1 (x : Int32) : x - 1 + 1 = x := by
  rw [Int32.sub_add_cancel]
theorem nx_dg (n : Nat) (hn : n ≤ 5) : ∀ (k u : Nat) (g : Nat → Int32), u + 1 < (n + 1) ^ k → nxF n k (fun s => if s < k then dgv n k u s else g s) = fun s => if s < k then dgv n k (u + 1) s else g s
  | 0, u, g, h => by simp at h
  | k + 1, u, g, h => by
    have hm : u % (n + 1) < n + 1 := Nat.mod_lt _ (by omega)
    rw [nxF]
    simp only [if_pos (Nat.lt_succ_self k), dgv_k, sub_add1]
    by_cases hd : n ≤ u % (n + 1)
    · rw [if_pos ((nI_le_i (by omega) (by omega)).mpr hd)]
      have hu : u % (n + 1) = n := by omega
      have e1 : (u + 1) / (n + 1) = u / (n + 1) + 1 := by
        have := Nat.div_add_mod u (n + 1)
        rw [show u + 1 = (n + 1) * (u / (n + 1) + 1) by rw [Nat.mul_add, Nat.mul_one]; omega]
        rw [Nat.mul_div_cancel_left _ (by omega)]
      have e2 : (u + 1) % (n + 1) = 0 := by
        have := Nat.div_add_mod u (n + 1)
        rw [show u + 1 = (n + 1) * (u / (n + 1) + 1) by rw [Nat.mul_add, Nat.mul_one]; omega]
        exact Nat.mul_mod_right _ _
      have e3 : upd (fun s => if s < k + 1 then dgv n (k + 1) u s else g s) k (-1) = fun s => if s < k then dgv n k (u / (n + 1)) s else (upd g k (-1)) s := by
        funext s
        by_cases h1 : s = k
        · subst h1
          simp [upd]
        · by_cases h2 : s < k
          · have h3 : s < k + 1 := by omega
            simp [upd, h1, h2, h3, dgv_up h2]
          · have h3 : ¬ s < k + 1 := by omega
            simp [upd, h1, h2, h3]
      rw [e3, nx_dg n hn k (u / (n + 1)) _ ?_]
      · funext s
        by_cases h1 : s = k
        · subst h1
          simp only [Nat.lt_irrefl, if_false, upd, if_true, if_pos (Nat.lt_succ_self s), dgv_k, e2]
          decide
        · by_cases h2 : s < k
          · have h3 : s < k + 1 := by omega
            simp only [if_pos h2, if_pos h3, dgv_up h2, e1]
          · have h3 : ¬ s < k + 1 := by omega
            simp only [if_neg h2, if_neg h3, upd, if_neg h1]
      · rw [← e1]
        apply Nat.div_lt_of_lt_mul
        rw [← Nat.pow_succ']
        exact h
    · rw [if_neg (fun q => hd ((nI_le_i (by omega) (by omega)).mp q))]
      have hlt : u % (n + 1) + 1 < n + 1 := by omega
      have e1 : (u + 1) / (n + 1) = u / (n + 1) := by
        have := Nat.div_add_mod u (n + 1)
        refine Nat.div_eq_of_lt_le ?_ ?_
        · rw [Nat.mul_comm]; omega
        · rw [Nat.add_mul, Nat.one_mul, Nat.mul_comm]; omega
      have e2 : (u + 1) % (n + 1) = u % (n + 1) + 1 := by
        have h1 := Nat.div_add_mod u (n + 1)
        have h2 := Nat.div_add_mod (u + 1) (n + 1)
        rw [e1] at h2
        omega
      funext s
      by_cases h1 : s = k
      · subst h1
        simp only [upd, if_true, if_pos (Nat.lt_succ_self s), dgv_k, e2, nI_pred]
      · by_cases h2 : s < k
        · have h3 : s < k + 1 := by omega
          simp only [upd, if_neg h1, if_pos h3, dgv_up h2, e1]
        · have h3 : ¬ s < k + 1 := by omega
          simp only [upd, if_neg h1, if_neg h3]
theorem nx_nmv {n v : Nat} (hn : n ≤ 5) (h : v + 1 < (n + 1) ^ n) : nxF n n (nmv n v) = nmv n (v + 1) := nx_dg n hn n v (fun _ => -1) h
theorem nmv_0 (n : Nat) : nmv n 0 = fun _ => -1 := by
  funext s
  simp only [nmv, dgv, Nat.zero_div, Nat.zero_mod]
  split
  · decide
  · rfl
