/-! ===== bitCount of 32 bits ===== -/
theorem ou_n {v k : Nat} (hv : v < 2 ^ 32) (hk : k = 1 ∨ k = 2 ∨ k = 4 ∨ k = 8 ∨ k = 16 ∨ k = 24 ∨ k = 0) : oushr (nI v) (nI k) = nI (v / 2 ^ k) := by
  have e : (oushr (nI v) (nI k)).toBitVec.toNat = v / 2 ^ k := by
    show ((nI v).toUInt32 >>> ((nI k).toUInt32 &&& Int32.toUInt32 31)).toNat = _
    rw [UInt32.toNat_shiftRight]
    have e1 : (nI v).toUInt32.toNat = v := pk_tn hv
    have e2 : ((nI k).toUInt32 &&& Int32.toUInt32 31).toNat % 32 = k := by rcases hk with rfl | rfl | rfl | rfl | rfl | rfl | rfl <;> decide
    rw [e1, e2, Nat.shiftRight_eq_div_pow]
  apply Int32.toBitVec_inj.mp
  apply BitVec.eq_of_toNat_eq
  rw [e, pk_tn]
  exact Nat.lt_of_le_of_lt (Nat.div_le_self _ _) hv
theorem and16 {a d M m : Nat} (hd : d < 16) (hm : m < 16) : (16 * a + d) &&& (16 * M + m) = 16 * (a &&& M) + (d &&& m) := by
  have hx : d &&& m < 16 := Nat.lt_of_le_of_lt Nat.and_le_left hd
  apply Nat.eq_of_testBit_eq
  intro i
  rw [Nat.testBit_and, show (16 : Nat) = 2 ^ 4 from rfl, Nat.testBit_two_pow_mul_add a (i := 4) hd i, Nat.testBit_two_pow_mul_add M (i := 4) hm i, Nat.testBit_two_pow_mul_add (a &&& M) (i := 4) hx i]
  split
  · rw [Nat.testBit_and]
  · rw [Nat.testBit_and]
def r5 : Nat → Nat
  | 0 => 0
  | k + 1 => 16 * r5 k + 5
def r3 : Nat → Nat
  | 0 => 0
  | k + 1 => 16 * r3 k + 3
def pcA (k v : Nat) : Nat := v - ((v / 2) &&& r5 k)
def pcB (k v : Nat) : Nat := (v &&& r3 k) + ((v / 4) &&& r3 k)
def pc4 (d : Nat) : Nat := fb_ct (fun i => d.testBit i) 4
def pcP : Nat → Nat → Nat
  | 0, _ => 0
  | k + 1, v => 16 * pcP k (v / 16) + pc4 (v % 16)
theorem pcA_s {k a d : Nat} (hd : d < 16) : pcA (k + 1) (16 * a + d) = 16 * pcA k a + (d - ((d / 2) &&& 5)) := by
  have e1 : (16 * a + d) / 2 = 16 * (a / 2) + (8 * (a % 2) + d / 2) := by omega
  have h2 : a % 2 = 0 ∨ a % 2 = 1 := by omega
  have e3 : (8 * (a % 2) + d / 2) &&& 5 = (d / 2) &&& 5 := by
    have h : ∀ t, t < 2 → ∀ d, d < 16 → (8 * t + d / 2) &&& 5 = (d / 2) &&& 5 := by decide +kernel
    exact h _ (by omega) d hd
  have l1 : (a / 2) &&& r5 k ≤ a := Nat.le_trans Nat.and_le_left (Nat.div_le_self _ _)
  have l2 : (d / 2) &&& 5 ≤ d := Nat.le_trans Nat.and_le_left (Nat.div_le_self _ _)
  unfold pcA
  rw [e1, r5, and16 (by omega) (by decide), e3]
  omega
theorem pcB_s {k a d : Nat} (hd : d < 16) : pcB (k + 1) (16 * a + d) = 16 * pcB k a + ((d &&& 3) + ((d / 4) &&& 3)) := by
  have e1 : (16 * a + d) / 4 = 16 * (a / 4) + (4 * (a % 4) + d / 4) := by omega
  have e3 : (4 * (a % 4) + d / 4) &&& 3 = (d / 4) &&& 3 := by
    have h : ∀ t, t < 4 → ∀ d, d < 16 → (4 * t + d / 4) &&& 3 = (d / 4) &&& 3 := by decide +kernel
    exact h _ (by omega) d hd
  unfold pcB
  rw [e1, r3, and16 hd (by decide), and16 (by omega) (by decide), e3]
  omega
theorem pcBA : ∀ (k v : Nat), v < 16 ^ k → pcB k (pcA k v) = pcP k v
  | 0, v, h => by
    have : v = 0 := by simpa using h
    subst this
    rfl
  | k + 1, v, h => by
    have ih := pcBA k (v / 16) (by rw [Nat.pow_succ] at h; omega)
    have ev : v = 16 * (v / 16) + v % 16 := by omega
    have hd : v % 16 < 16 := by omega
    have h4 : ∀ d, d < 16 → d - ((d / 2) &&& 5) < 16 ∧ ((d - ((d / 2) &&& 5)) &&& 3) + (((d - ((d / 2) &&& 5)) / 4) &&& 3) = pc4 d := by decide +kernel
    rw [pcP, ← ih]
    rw (config := { occs := .pos [1] }) [ev]
    rw [pcA_s hd, pcB_s (h4 _ hd).1, (h4 _ hd).2]
theorem pcC {p0 p1 p2 p3 p4 p5 p6 p7 : Nat} (h0 : p0 ≤ 4) (h1 : p1 ≤ 4) (h2 : p2 ≤ 4) (h3 : p3 ≤ 4) (h4 : p4 ≤ 4) (h5 : p5 ≤ 4) (h6 : p6 ≤ 4) (h7 : p7 ≤ 4) (b : Nat) (hb : b = 16 * (16 * (16 * (16 * (16 * (16 * (16 * p7 + p6) + p5) + p4) + p3) + p2) + p1) + p0) : (b + b / 16) &&& 252645135 = (p0 + p1) + 256 * (p2 + p3) + 65536 * (p4 + p5) + 16777216 * (p6 + p7) := by
  have e : b + b / 16 = 16 * (16 * (16 * (16 * (16 * (16 * (16 * p7 + (p6 + p7)) + (p5 + p6)) + (p4 + p5)) + (p3 + p4)) + (p2 + p3)) + (p1 + p2)) + (p0 + p1) := by omega
  have f : ∀ q, q < 16 → q &&& 15 = q := by decide +kernel
  have z : ∀ q : Nat, q &&& 0 = 0 := fun q => Nat.and_zero q
  rw [e, show (252645135 : Nat) = 16 * (16 * (16 * (16 * (16 * (16 * (16 * 0 + 15) + 0) + 15) + 0) + 15) + 0) + 15 from rfl, and16 (by omega) (by decide), and16 (by omega) (by decide), and16 (by omega) (by decide), and16 (by omega) (by decide), and16 (by omega) (by decide), and16 (by omega) (by decide), and16 (by omega) (by decide), f _ (by omega), f _ (by omega), f _ (by omega), f _ (by omega), z, z, z, z]
  omega
theorem pc4_le (d : Nat) : pc4 d ≤ 4 := fb_ct_le _ _
theorem ct_nib (v n : Nat) : fb_ct (fun i => v.testBit i) (4 + n) = pc4 (v % 16) + fb_ct (fun i => (v / 16).testBit i) n := by
  rw [fb_ct_split]
  congr 1
  · refine fb_ct_cong (fun i hi => ?_)
    rw [show (16 : Nat) = 2 ^ 4 from rfl, Nat.testBit_mod_two_pow, decide_eq_true hi, Bool.true_and]
  · refine fb_ct_cong (fun i hi => ?_)
    rw [show (16 : Nat) = 2 ^ 4 from rfl, Nat.testBit_div_two_pow]
    rw [Nat.add_comm]
theorem r5_8 : r5 8 = 1431655765 := by decide +kernel
theorem r3_8 : r3 8 = 858993459 := by decide +kernel
theorem bcF_b {v : Nat} (hv : v < 2 ^ 32) : ∃ x, x = nI (pcP 8 v) ∧ bcF (nI v) = (((((x + oushr x 4) &&& 252645135) + oushr ((x + oushr x 4) &&& 252645135) 8) + oushr (((x + oushr x 4) &&& 252645135) + oushr ((x + oushr x 4) &&& 252645135) 8) 16) &&& 63) := by
  have o1 : oushr (nI v) 1 = nI (v / 2 ^ 1) := ou_n hv (k := 1) (by omega)
  have la : (v / 2) &&& 1431655765 ≤ v := Nat.le_trans Nat.and_le_left (Nat.div_le_self _ _)
  have ea : nI v - ((oushr (nI v) 1) &&& 1431655765) = nI (pcA 8 v) := by
    unfold pcA
    rw [r5_8, o1, Nat.pow_one, show (1431655765 : Int32) = nI 1431655765 from rfl, fa_and, pk_sub la]
  have ha : pcA 8 v < 2 ^ 32 := Nat.lt_of_le_of_lt (Nat.sub_le _ _) hv
  have o2 : oushr (nI (pcA 8 v)) 2 = nI (pcA 8 v / 2 ^ 2) := ou_n ha (k := 2) (by omega)
  have h16 : (16 : Nat) ^ 8 = 2 ^ 32 := by decide +kernel
  have eb : (nI (pcA 8 v) &&& 858993459) + ((oushr (nI (pcA 8 v)) 2) &&& 858993459) = nI (pcP 8 v) := by
    rw [← pcBA 8 v (by rw [h16]; exact hv)]
    unfold pcB
    rw [r3_8, o2, show (2 : Nat) ^ 2 = 4 from rfl, show (858993459 : Int32) = nI 858993459 from rfl, fa_and, fa_and, nI_add]
  refine ⟨_, rfl, ?_⟩
  unfold bcF
  rw [ea, eb]
theorem bcF_e {q0 q1 q2 q3 : Nat} (h0 : q0 ≤ 8) (h1 : q1 ≤ 8) (h2 : q2 ≤ 8) (h3 : q3 ≤ 8) (c : Nat) (hc : c = q0 + 256 * q1 + 65536 * q2 + 16777216 * q3) : (nI c + oushr (nI c) 8 + oushr (nI c + oushr (nI c) 8) 16) &&& 63 = nI (q0 + q1 + q2 + q3) := by
  have e1 : c / 2 ^ 8 = q1 + 256 * q2 + 65536 * q3 := by
    rw [show (2 : Nat) ^ 8 = 256 from rfl]
    omega
  have o8 : oushr (nI c) 8 = nI (q1 + 256 * q2 + 65536 * q3) := by
    rw [← e1]
    exact ou_n (by rw [show (2 : Nat) ^ 32 = 4294967296 from rfl]; omega) (k := 8) (by omega)
  rw [o8, nI_add]
  obtain ⟨d, hd⟩ : ∃ d, d = (q0 + q1) + 256 * (q1 + q2) + 65536 * (q2 + q3) + 16777216 * q3 := ⟨_, rfl⟩
  have ed : c + (q1 + 256 * q2 + 65536 * q3) = d := by omega
  rw [ed]
  have e2 : d / 2 ^ 16 = (q2 + q3) + 256 * q3 := by
    rw [show (2 : Nat) ^ 16 = 65536 from rfl]
    omega
  have o16 : oushr (nI d) 16 = nI ((q2 + q3) + 256 * q3) := by
    rw [← e2]
    exact ou_n (by rw [show (2 : Nat) ^ 32 = 4294967296 from rfl]; omega) (k := 16) (by omega)
  rw [o16, nI_add, show (63 : Int32) = nI (2 ^ 6 - 1) from rfl, fa_mask]
  congr 1
  rw [show (2 : Nat) ^ 6 = 64 from rfl]
  omega
theorem ct_32 (v : Nat) : fb_ct (fun i => v.testBit i) 32 = pc4 (v % 16) + (pc4 (v / 16 % 16) + (pc4 (v / 16 / 16 % 16) + (pc4 (v / 16 / 16 / 16 % 16) + (pc4 (v / 16 / 16 / 16 / 16 % 16) + (pc4 (v / 16 / 16 / 16 / 16 / 16 % 16) + (pc4 (v / 16 / 16 / 16 / 16 / 16 / 16 % 16) + (pc4 (v / 16 / 16 / 16 / 16 / 16 / 16 / 16 % 16) + 0))))))) := by
  rw [show (32 : Nat) = 4 + (4 + (4 + (4 + (4 + (4 + (4 + (4 + 0))))))) from rfl, ct_nib, ct_nib, ct_nib, ct_nib, ct_nib, ct_nib, ct_nib, ct_nib]
  rfl
theorem pcP_8 (v : Nat) : pcP 8 v = 16 * (16 * (16 * (16 * (16 * (16 * (16 * (16 * 0 + pc4 (v / 16 / 16 / 16 / 16 / 16 / 16 / 16 % 16)) + pc4 (v / 16 / 16 / 16 / 16 / 16 / 16 % 16)) + pc4 (v / 16 / 16 / 16 / 16 / 16 % 16)) + pc4 (v / 16 / 16 / 16 / 16 % 16)) + pc4 (v / 16 / 16 / 16 % 16)) + pc4 (v / 16 / 16 % 16)) + pc4 (v / 16 % 16)) + pc4 (v % 16) := rfl
theorem bc32b {v p0 p1 p2 p3 p4 p5 p6 p7 : Nat} (b0 : p0 ≤ 4) (b1 : p1 ≤ 4) (b2 : p2 ≤ 4) (b3 : p3 ≤ 4) (b4 : p4 ≤ 4) (b5 : p5 ≤ 4) (b6 : p6 ≤ 4) (b7 : p7 ≤ 4) (hP : pcP 8 v = 16 * (16 * (16 * (16 * (16 * (16 * (16 * (16 * 0 + p7) + p6) + p5) + p4) + p3) + p2) + p1) + p0) {x : Int32} (hx : x = nI (pcP 8 v)) : (((((x + oushr x 4) &&& 252645135) + oushr ((x + oushr x 4) &&& 252645135) 8) + oushr (((x + oushr x 4) &&& 252645135) + oushr ((x + oushr x 4) &&& 252645135) 8) 16) &&& 63) = nI (p0 + (p1 + (p2 + (p3 + (p4 + (p5 + (p6 + (p7 + 0)))))))) := by
  have hb : pcP 8 v = 16 * (16 * (16 * (16 * (16 * (16 * (16 * p7 + p6) + p5) + p4) + p3) + p2) + p1) + p0 := by omega
  have h32 : pcP 8 v < 2 ^ 32 := by
    rw [show (2 : Nat) ^ 32 = 4294967296 from rfl]
    omega
  have o4 : oushr (nI (pcP 8 v)) 4 = nI (pcP 8 v / 16) := by
    rw [show (16 : Nat) = 2 ^ 4 from rfl]
    exact ou_n h32 (k := 4) (by omega)
  have ec : (x + oushr x 4) &&& 252645135 = nI ((p0 + p1) + 256 * (p2 + p3) + 65536 * (p4 + p5) + 16777216 * (p6 + p7)) := by
    rw [hx, o4, nI_add, show (252645135 : Int32) = nI 252645135 from rfl, fa_and, pcC b0 b1 b2 b3 b4 b5 b6 b7 _ hb]
  rw [ec, bcF_e (q0 := p0 + p1) (q1 := p2 + p3) (q2 := p4 + p5) (q3 := p6 + p7) (by omega) (by omega) (by omega) (by omega) _ rfl]
  congr 1
  omega
theorem bc32 {v : Nat} (hv : v < 2 ^ 32) : bcF (nI v) = nI (fb_ct (fun i => v.testBit i) 32) := by
  obtain ⟨x, hx, hb⟩ := bcF_b hv
  rw [hb, ct_32]
  exact bc32b (pc4_le _) (pc4_le _) (pc4_le _) (pc4_le _) (pc4_le _) (pc4_le _) (pc4_le _) (pc4_le _) (pcP_8 v) hx
theorem ct_mk {p : Nat → Bool} {N : Nat} (h : N ≤ 32) : fb_ct (fun i => (mk p N).testBit i) 32 = fb_ct p N := by
  obtain ⟨d, hd⟩ : ∃ d, N + d = 32 := ⟨32 - N, by omega⟩
  rw [← hd, fb_ct_split]
  have e1 : fb_ct (fun i => (mk p N).testBit i) N = fb_ct p N := fb_ct_cong (fun i hi => by rw [mk_bit, decide_eq_true hi, Bool.true_and])
  have e2 : fb_ct (fun k => (mk p N).testBit (N + k)) d = 0 := fb_ct_zero.mpr (fun k hk => by rw [mk_bit, decide_eq_false (by omega), Bool.false_and])
  rw [e1, e2, Nat.add_zero]
theorem bc_mk {p : Nat → Bool} {N : Nat} (h : N ≤ 32) : bcF (nI (mk p N)) = nI (fb_ct p N) := by
  rw [bc32 (Nat.lt_of_lt_of_le (mk_lt p N) (Nat.pow_le_pow_right (by decide) h)), ct_mk h]
/-! ===== fit, end, feed ===== -/
section
variable {G : ovG} {S : ovS} {n m : Nat}
theorem pb_fit {x : Int32} (hI : IC S n m) (hL : Ly S n) : PB G mX11_fit 5 [.ref 0, .int x] mX12_fit 6 [.ref 412, .int x] S := by
  obtain ⟨c, hR⟩ := hI.2.2.2.2.2.2.2.1
  have h32 : 2 ^ m ≤ 32 := Nat.pow_le_pow_right (n := 2) (by decide) (show m ≤ 5 from hI.m5)
  refine PB.q (A := fun r => r = nI (fb_ct (fitP S c x) (2 ^ m))) hI hL ?_ (fun r S1 hA h1 hK => ?_)
  · refine eX11_fit (vX11_fit_0 ⟨_, sp_fitting hI.fok hR.1 hI.2.1, fun r3 S2 q => ⟨_, sp_bitCount, fun r8 S7 p => ⟨?_, ?_⟩⟩⟩)
    · rw [p.1, q.1, bc_mk h32]
    · rw [p.2]
      exact KL.fr q.2 rfl rfl rfl
  · have hR1 : RR S1 c := hR.cg (fun k hk => hK.1.1 k (RRr_nsc k hk)) hK.1.2.2.1 hK.1.2.2.2 (hK.1.2.1 63 rfl) (hK.1.2.1 64 rfl)
    refine eX12_fit (vX12_fit_0 ⟨_, sp_layFits h1.1 hR1 h1.2.2.1 h1.m5, fun r3 S2 q => ⟨?_, KL.fj q.2 rfl rfl rfl rfl rfl⟩⟩)
    rw [q.1.1, hA, fitP_kl hK.1]
/-- the tape is new -/
theorem IC.tp {S2 : ovS} (hI : IC S n m) (hk : ∀ k, k ≠ 0 → k ≠ 1 → k ≠ 412 → k ≠ 413 → S2.1 k = S.1 k) (h0 : ∀ j, j ≠ 1 → S2.1 0 j = S.1 0 j) (h4 : ∀ j, j ≠ 1 → S2.1 412 j = S.1 412 j) (hT : TP S2) : IC S2 n m := by
  obtain ⟨hM, hD, h34, hU, hW, hH, hB, ⟨c, hR⟩, _, hf1, hf2⟩ := hI
  have r1 : ∀ a, a < 41 → ∀ j, j < 8 → S2.1 (34 + 8 * a + j) = S.1 (34 + 8 * a + j) := fun a ha j hj => hk _ (by omega) (by omega) (by omega) (by omega)
  have r3 : ∀ j, j < 8 → S2.1 (24 + j) = S.1 (24 + j) := fun j hj => hk _ (by omega) (by omega) (by omega) (by omega)
  have r4 : ∀ k, k ∈ MXr → k ≠ 0 ∧ k ≠ 1 ∧ k ≠ 412 ∧ k ≠ 413 := by decide +kernel
  have r5 : ∀ k, k ∈ RRr → k ≠ 0 ∧ k ≠ 1 ∧ k ≠ 412 ∧ k ≠ 413 := by decide +kernel
  refine ⟨hM.cg (fun k h => hk k (r4 k h).1 (r4 k h).2.1 (r4 k h).2.2.1 (r4 k h).2.2.2) (h4 35 (by decide)) (h4 18 (by decide)) (h4 39 (by decide)), ?_, by rw [h4 34 (by decide)]; exact h34, ?_, ?_, ?_, ?_, ⟨c, ?_⟩, hT, ?_, ?_⟩
  · unfold CD
    rw [hk 16 (by decide) (by decide) (by decide) (by decide)]
    exact hD
  · rw [hk 20 (by decide) (by decide) (by decide) (by decide), h4 21 (by decide)]; exact hU
  · rw [sr_cg r3]; exact hW
  · exact hH.cg (hk 32 (by decide) (by decide) (by decide) (by decide)) (h4 45 (by decide)) (h4 46 (by decide)) (hk 430 (by decide) (by decide) (by decide) (by decide)) r1 r3
  · exact hB.cg (hk 445 (by decide) (by decide) (by decide) (by decide)) (hk 363 (by decide) (by decide) (by decide) (by decide)) (hk 446 (by decide) (by decide) (by decide) (by decide)) (fun b hb j hj => hk _ (by omega) (by omega) (by omega) (by omega))
  · exact hR.cg (fun k h => hk k (r5 k h).1 (r5 k h).2.1 (r5 k h).2.2.1 (r5 k h).2.2.2) (by rw [hk 376 (by decide) (by decide) (by decide) (by decide)]) (by rw [hk 376 (by decide) (by decide) (by decide) (by decide)]) (h4 63 (by decide)) (h4 64 (by decide))
  · rw [h0 3 (by decide), h4 2 (by decide)]; exact hf1
  · rw [h0 4 (by decide), h4 3 (by decide)]; exact hf2
theorem pb_end {x : Int32} (hI : IC S n m) (hL : Ly S n) : PB G mX11_end 1 [.ref 0, .int x] mX12_end 1 [.ref 412, .int x] S := by
  obtain ⟨t, ht, e0, e4, hb⟩ := hI.2.2.2.2.2.2.2.2.1
  have hv : Inv S := ⟨n, m, hI, hL⟩
  have bad : (x < 0 ∨ ¬ x ≤ nI t) → Ex G mX12_end 1 [.ref 412, .int x] S (fun r2 S2 => r2 = -1 ∧ Inv S2) := by
    intro hz
    refine eX12_end (vX12_end_0 ?_)
    rw [e4]
    exact ⟨fun _ => ⟨rfl, hv⟩, fun c => ⟨fun d => absurd hz (fun z => z.elim c (fun z => z d)), fun _ => ⟨rfl, hv⟩⟩⟩
  refine eX11_end (vX11_end_0 ?_)
  rw [e0]
  refine ⟨fun c => bad (Or.inl c), fun c => ⟨fun d S3 e3 => ?_, fun d => bad (Or.inr d)⟩⟩
  refine eX12_end (vX12_end_0 ⟨fun z => absurd z c, fun _ => ?_⟩)
  rw [e3, stI_row (by decide), e4]
  refine ⟨fun _ S4 e4' => ⟨rfl, n, m, ?_, ?_⟩, fun z => absurd d z⟩
  · obtain ⟨j, hj, hx⟩ : ∃ j, j ≤ t ∧ x = nI j := by
      rcases pk_ix x (n := t + 1) (by omega) with z | z | ⟨j, hj, z⟩
      · exact absurd z c
      · have := Int32.le_trans z d
        rw [nI_le_i (by omega) (by omega)] at this
        omega
      · exact ⟨j, by omega, z⟩
    refine hI.tp (fun k h0 h1 h4 h5 => ?_) (fun j hj => ?_) (fun j hj => ?_) ⟨j, by omega, ?_, ?_, fun i hi => ?_⟩
    · rw [e4', stI_row h4, stI_row h0]
    · rw [e4', stI_row (by decide), stI_1, if_pos rfl, if_neg hj]
    · rw [e4', stI_1, if_pos rfl, if_neg hj, stI_row (by decide)]
    · rw [e4', stI_row (by decide), stI_1, if_pos rfl, if_pos rfl, hx]
    · rw [e4', stI_1, if_pos rfl, if_pos rfl, hx]
    · rw [e4', stI_row (by decide), stI_row (by decide), stI_row (by decide), stI_row (by decide)]
      exact hb i (by omega)
  · refine hL.cg ?_ ?_ ?_ ?_
    · rw [e4', stI_row (by decide), stI_row (by decide)]
    · rw [e4', stI_1, if_pos rfl, if_neg (by decide), stI_row (by decide)]
    · rw [e4', stI_row (by decide), stI_row (by decide)]
    · rw [e4', stI_row (by decide), stI_row (by decide)]
end
/-- bytes put behind those on a tape: its row oT, its count at oC 1 -/
def pt (oT oC : Nat) : List Int32 → Nat → ovS → ovS
  | [], _, S => S
  | v :: l, t, S => pt oT oC l (t + 1) (stI (stI S oT t v) oC 1 (nI (t + 1)))
theorem pt_app {oT oC : Nat} : ∀ (a b : List Int32) (t : Nat) (S : ovS), pt oT oC b (t + a.length) (pt oT oC a t S) = pt oT oC (a ++ b) t S
  | [], b, t, S => rfl
  | v :: a, b, t, S => by
    have := pt_app (oT := oT) (oC := oC) a b (t + 1) (stI (stI S oT t v) oC 1 (nI (t + 1)))
    rw [show t + 1 + a.length = t + (v :: a).length by simp; omega] at this
    exact this
theorem pt_ct {oT oC : Nat} : ∀ (l : List Int32) (t : Nat) (S : ovS), S.1 oC 1 = nI t → (pt oT oC l t S).1 oC 1 = nI (t + l.length)
  | [], t, S, h => h
  | v :: l, t, S, h => by
    rw [pt, pt_ct l (t + 1) _ (by rw [stI_1, if_pos rfl, if_pos rfl]), List.length_cons]
    congr 1
    omega
theorem pt_row {oT oC k : Nat} (h1 : k ≠ oT) (h2 : k ≠ oC) : ∀ (l : List Int32) (t : Nat) (S : ovS), (pt oT oC l t S).1 k = S.1 k
  | [], t, S => rfl
  | v :: l, t, S => by rw [pt, pt_row h1 h2 l, stI_row h2, stI_row h1]
theorem pt_c {oT oC j : Nat} (h : oC ≠ oT) (hj : j ≠ 1) : ∀ (l : List Int32) (t : Nat) (S : ovS), (pt oT oC l t S).1 oC j = S.1 oC j
  | [], t, S => rfl
  | v :: l, t, S => by rw [pt, pt_c h hj l, stI_1, if_pos rfl, if_neg hj, stI_row h]
theorem pt_lo {oT oC i : Nat} (h : oT ≠ oC) : ∀ (l : List Int32) (t : Nat) (S : ovS), i < t → (pt oT oC l t S).1 oT i = S.1 oT i
  | [], t, S, _ => rfl
  | v :: l, t, S, hi => by rw [pt, pt_lo h l _ _ (by omega), stI_row h, stI_1, if_pos rfl, if_neg (by omega)]
theorem pt_hi {oT oC : Nat} (h : oT ≠ oC) : ∀ (l : List Int32) (t : Nat) (S : ovS) (i : Nat), i < l.length → (pt oT oC l t S).1 oT (t + i) = l.getD i 0
  | [], t, S, i, hi => absurd hi (by simp)
  | v :: l, t, S, 0, _ => by
    rw [pt, pt_lo h l _ _ (by omega), stI_row h, stI_1, if_pos rfl, if_pos (by omega)]
    rfl
  | v :: l, t, S, i + 1, hi => by
    rw [pt, show t + (i + 1) = t + 1 + i by omega, pt_hi h l _ _ i (by simpa using hi)]
    rfl
def bC (x : Int32) (k : Nat) : Int32 := (oushr x (nI k)).toInt8.toInt32
def bM (x : Int32) (k : Nat) : Int32 := (x >>> (nI k &&& 31)) &&& 255
def by4 (f : Int32 → Nat → Int32) (x : Int32) : List Int32 := [f x 24, f x 16, f x 8, f x 0]
theorem nar_b (z : Int32) : vp_nar .byte z.toInt8.toInt32 = z.toInt8.toInt32 := by
  unfold vp_nar
  rw [pk_nb]
theorem b_rel (x : Int32) {k : Nat} (hk : k = 24 ∨ k = 16 ∨ k = 8 ∨ k = 0) : ∃ b, b < 256 ∧ bM x k = nI b ∧ bC x k = sby b := by
  obtain ⟨X, hX⟩ : ∃ X, X = x.toBitVec.toNat := ⟨_, rfl⟩
  have hX32 : X < 2 ^ 32 := by rw [hX]; exact x.toBitVec.isLt
  have ex : x = nI X := by
    apply Int32.toBitVec_inj.mp
    apply BitVec.eq_of_toNat_eq
    rw [pk_tn hX32, hX]
  have eu : oushr x (nI k) = nI (X / 2 ^ k) := by
    rw [ex]
    exact ou_n hX32 (by omega)
  have es : (nI k &&& 31 : Int32).toBitVec.smod 32 = BitVec.ofNat 32 k := by rcases hk with rfl | rfl | rfl | rfl <;> decide
  have eI : (x >>> (nI k &&& 31)).toInt = x.toInt >>> k := pk_shr x _ k (by rw [es]; rcases hk with rfl | rfl | rfl | rfl <;> decide)
  obtain ⟨Y, hY⟩ : ∃ Y, Y = (x >>> (nI k &&& 31)).toBitVec.toNat := ⟨_, rfl⟩
  have hY32 : Y < 2 ^ 32 := by rw [hY]; exact (x >>> (nI k &&& 31)).toBitVec.isLt
  have iX : x.toInt = if 2 * X < 2 ^ 32 then (X : Int) else (X : Int) - 2 ^ 32 := by
    rw [hX]
    exact BitVec.toInt_eq_toNat_cond x.toBitVec
  have iY : (x >>> (nI k &&& 31)).toInt = if 2 * Y < 2 ^ 32 then (Y : Int) else (Y : Int) - 2 ^ 32 := by
    rw [hY]
    exact BitVec.toInt_eq_toNat_cond (x >>> (nI k &&& 31)).toBitVec
  have eYX : Y % 256 = (X / 2 ^ k) % 256 := by
    rw [iY, iX, Int.shiftRight_eq_div_pow] at eI
    rcases hk with rfl | rfl | rfl | rfl <;> split at eI <;> split at eI <;> simp at eI ⊢ <;> omega
  have hlow : (oushr x (nI k)) &&& 255 = nI ((X / 2 ^ k) % 256) := by
    rw [eu]
    exact pk_andN (Nat.lt_of_le_of_lt (Nat.div_le_self _ _) hX32) 8 (by decide)
  have all : ∀ b, b < 256 → (nI b).toInt8.toInt32 = sby b := by decide +kernel
  refine ⟨(X / 2 ^ k) % 256, Nat.mod_lt _ (by decide), ?_, ?_⟩
  · unfold bM
    rw [pk_and _ 8 (by decide), ← hY]
    congr 1
  · unfold bC
    rw [← fa_byte_low, hlow]
    exact all _ (Nat.mod_lt _ (by decide))
section
variable {G : ovG} {S : ovS} {n m : Nat}
theorem sp_putT {x : Int32} {t : Nat} (h : S.1 0 1 = nI t) (ht : t + 4 ≤ 1600) : Ex G mX11_putOnTape 1 [.ref 0, .int x] S (fun _ S1 => S1 = pt 1 0 (by4 bC x) t S) := by
  obtain ⟨Q, hQ⟩ : ∃ Q : Int32 → ovS → Prop, Q = (fun _ S1 => S1 = pt 1 0 (by4 bC x) t S) := ⟨_, rfl⟩
  rw [← hQ]
  have st : ∀ (k u : Nat) (S' : ovS), k < 25 → S'.1 0 1 = nI u → u < 1600 → RM G mX11_putOnTape 1 Q 3 [some (.ref 0), some (.int x), some (.int (nI k + (-8)))] [] (stI (stI S' 1 u (bC x k)) 0 1 (nI (u + 1))) → RM G mX11_putOnTape 1 Q 3 [some (.ref 0), some (.int x), some (.int (nI k))] [] S' := by
    intro k u S' hk e hu hh
    refine vX11_putOnTape_3 ⟨fun c => absurd c (nI_neg (by omega)), fun _ => ?_⟩
    rw [e]
    refine ⟨fun c => absurd ((nI_le_i (a := 1600) (by decide) (by omega)).mp c) (by omega), fun _ => ⟨vp_in_nI hu (by decide), fun S3 e3 S4 e4 => ?_⟩⟩
    rw [nI_ix (by omega), nar_b] at e3
    rw [e3, stI_row (by decide), e, nI_1] at e4
    rw [e4]
    exact hh
  refine eX11_putOnTape (vX11_putOnTape_0 (st 24 t S (by decide) h (by omega) (st 16 (t + 1) _ (by decide) (by rw [stI_1]; rfl) (by omega) (st 8 (t + 2) _ (by decide) (by rw [stI_1]; rfl) (by omega) (st 0 (t + 3) _ (by decide) (by rw [stI_1]; rfl) (by omega) ?_)))))
  refine vX11_putOnTape_3 ⟨fun _ => ?_, fun c => absurd (by decide) c⟩
  rw [hQ]
  rfl
theorem sp_four {x : Int32} {t : Nat} (h : S.1 412 1 = nI t) (ht : t + 4 ≤ 1600) : Ex G mX12_four 1 [.ref 412, .int x] S (fun _ S1 => S1 = pt 413 412 (by4 bM x) t S) := by
  obtain ⟨Q, hQ⟩ : ∃ Q : Int32 → ovS → Prop, Q = (fun _ S1 => S1 = pt 413 412 (by4 bM x) t S) := ⟨_, rfl⟩
  rw [← hQ]
  have st : ∀ (k u : Nat) (S' : ovS), k < 25 → S'.1 412 1 = nI u → u < 1600 → RM G mX12_four 1 Q 3 [some (.ref 412), some (.int x), some (.int (nI k + (-8)))] [] (stI (stI S' 413 u (bM x k)) 412 1 (nI (u + 1))) → RM G mX12_four 1 Q 3 [some (.ref 412), some (.int x), some (.int (nI k))] [] S' := by
    intro k u S' hk e hu hh
    refine vX12_four_3 ⟨fun c => absurd c (nI_neg (by omega)), fun _ => ?_⟩
    rw [e]
    refine ⟨vp_in_nI hu (by decide), fun S3 e3 S4 e4 => ?_⟩
    rw [nI_ix (by omega)] at e3
    rw [e3, stI_row (by decide), e, nI_1] at e4
    rw [e4]
    exact hh
  refine eX12_four (vX12_four_0 (st 24 t S (by decide) h (by omega) (st 16 (t + 1) _ (by decide) (by rw [stI_1]; rfl) (by omega) (st 8 (t + 2) _ (by decide) (by rw [stI_1]; rfl) (by omega) (st 0 (t + 3) _ (by decide) (by rw [stI_1]; rfl) (by omega) ?_)))))
  refine vX12_four_3 ⟨fun _ => ?_, fun c => absurd (by decide) c⟩
  rw [hQ]
  rfl
def by20 (f : Int32 → Nat → Int32) (a b c d e : Int32) : List Int32 := by4 f a ++ by4 f b ++ by4 f c ++ by4 f d ++ by4 f e
theorem sp_cFeed {a b c d e : Int32} {t : Nat} (h : S.1 0 1 = nI t) (ht : t ≤ 1600) : Ex G mX11_feed 2 [.ref 0, .int a, .int b, .int c, .int d, .int e] S (fun r S1 => (t + 20 ≤ 1600 ∧ r = nI (t + 20) ∧ S1 = pt 1 0 (by20 bC a b c d e) t S) ∨ (¬ t + 20 ≤ 1600 ∧ r = -1 ∧ S1 = S)) := by
  refine eX11_feed (vX11_feed_0 ?_)
  rw [h, show (20 : Int32) = nI 20 from rfl, nI_add, show (1600 : Int32) = nI 1600 from rfl, nI_le_i (by omega) (by decide)]
  refine ⟨fun k => ⟨_, sp_putT (t := t) h (by omega), fun r1 S1 q1 => ⟨_, sp_putT (t := t + 4) ?_ (by omega), fun r2 S2 q2 => ⟨_, sp_putT (t := t + 8) ?_ (by omega), fun r3 S3 q3 => ⟨_, sp_putT (t := t + 12) ?_ (by omega), fun r4 S4 q4 => ⟨_, sp_putT (t := t + 16) ?_ (by omega), fun r5 S5 q5 => ?_⟩⟩⟩⟩⟩, fun k => Or.inr ⟨k, rfl, rfl⟩⟩
  · rw [q1]; exact pt_ct _ t S h
  · rw [q2]; refine pt_ct _ (t + 4) S1 ?_
    rw [q1]; exact pt_ct _ t S h
  · rw [q3]; refine pt_ct _ (t + 8) S2 ?_
    rw [q2]; refine pt_ct _ (t + 4) S1 ?_
    rw [q1]; exact pt_ct _ t S h
  · rw [q4]; refine pt_ct _ (t + 12) S3 ?_
    rw [q3]; refine pt_ct _ (t + 8) S2 ?_
    rw [q2]; refine pt_ct _ (t + 4) S1 ?_
    rw [q1]; exact pt_ct _ t S h
  · have e5 : S5 = pt 1 0 (by20 bC a b c d e) t S := by
      rw [q5, q4, q3, q2, q1]
      have h1 := pt_app (oT := 1) (oC := 0) (by4 bC a) (by4 bC b) t S
      have h2 := pt_app (oT := 1) (oC := 0) (by4 bC a ++ by4 bC b) (by4 bC c) t S
      have h3 := pt_app (oT := 1) (oC := 0) (by4 bC a ++ by4 bC b ++ by4 bC c) (by4 bC d) t S
      have h4 := pt_app (oT := 1) (oC := 0) (by4 bC a ++ by4 bC b ++ by4 bC c ++ by4 bC d) (by4 bC e) t S
      exact (congrArg (pt 1 0 (by4 bC e) (t + 16)) ((congrArg (pt 1 0 (by4 bC d) (t + 12)) ((congrArg (pt 1 0 (by4 bC c) (t + 8)) h1).trans h2)).trans h3)).trans h4
    refine Or.inl ⟨k, ?_, e5⟩
    rw [e5]
    exact pt_ct _ t S h
theorem sp_mFeed {a b c d e : Int32} {t : Nat} (h : S.1 412 1 = nI t) (ht : t ≤ 1600) : Ex G mX12_feed 2 [.ref 412, .int a, .int b, .int c, .int d, .int e] S (fun r S1 => (t + 20 ≤ 1600 ∧ r = nI (t + 20) ∧ S1 = pt 413 412 (by20 bM a b c d e) t S) ∨ (¬ t + 20 ≤ 1600 ∧ r = -1 ∧ S1 = S)) := by
  refine eX12_feed (vX12_feed_0 ?_)
  rw [h, show (20 : Int32) = nI 20 from rfl, nI_add, show (1600 : Int32) = nI 1600 from rfl, nI_le_i (by omega) (by decide)]
  refine ⟨fun k => ⟨_, sp_four (t := t) h (by omega), fun r1 S1 q1 => ⟨_, sp_four (t := t + 4) ?_ (by omega), fun r2 S2 q2 => ⟨_, sp_four (t := t + 8) ?_ (by omega), fun r3 S3 q3 => ⟨_, sp_four (t := t + 12) ?_ (by omega), fun r4 S4 q4 => ⟨_, sp_four (t := t + 16) ?_ (by omega), fun r5 S5 q5 => ?_⟩⟩⟩⟩⟩, fun k => Or.inr ⟨k, rfl, rfl⟩⟩
  · rw [q1]; exact pt_ct _ t S h
  · rw [q2]; refine pt_ct _ (t + 4) S1 ?_
    rw [q1]; exact pt_ct _ t S h
  · rw [q3]; refine pt_ct _ (t + 8) S2 ?_
    rw [q2]; refine pt_ct _ (t + 4) S1 ?_
    rw [q1]; exact pt_ct _ t S h
  · rw [q4]; refine pt_ct _ (t + 12) S3 ?_
    rw [q3]; refine pt_ct _ (t + 8) S2 ?_
    rw [q2]; refine pt_ct _ (t + 4) S1 ?_
    rw [q1]; exact pt_ct _ t S h
  · have e5 : S5 = pt 413 412 (by20 bM a b c d e) t S := by
      rw [q5, q4, q3, q2, q1]
      have h1 := pt_app (oT := 413) (oC := 412) (by4 bM a) (by4 bM b) t S
      have h2 := pt_app (oT := 413) (oC := 412) (by4 bM a ++ by4 bM b) (by4 bM c) t S
      have h3 := pt_app (oT := 413) (oC := 412) (by4 bM a ++ by4 bM b ++ by4 bM c) (by4 bM d) t S
      have h4 := pt_app (oT := 413) (oC := 412) (by4 bM a ++ by4 bM b ++ by4 bM c ++ by4 bM d) (by4 bM e) t S
      exact (congrArg (pt 413 412 (by4 bM e) (t + 16)) ((congrArg (pt 413 412 (by4 bM d) (t + 12)) ((congrArg (pt 413 412 (by4 bM c) (t + 8)) h1).trans h2)).trans h3)).trans h4
    refine Or.inl ⟨k, ?_, e5⟩
    rw [e5]
    exact pt_ct _ t S h
theorem by20_rel (a b c d e : Int32) (i : Nat) (hi : i < 20) : ∃ v, v < 256 ∧ (by20 bM a b c d e).getD i 0 = nI v ∧ (by20 bC a b c d e).getD i 0 = sby v := by
  have r : ∀ (x : Int32) (j : Nat), j < 4 → ∃ v, v < 256 ∧ (by4 bM x).getD j 0 = nI v ∧ (by4 bC x).getD j 0 = sby v := by
    intro x j hj
    have : j = 0 ∨ j = 1 ∨ j = 2 ∨ j = 3 := by omega
    rcases this with rfl | rfl | rfl | rfl
    · exact b_rel x (k := 24) (by omega)
    · exact b_rel x (k := 16) (by omega)
    · exact b_rel x (k := 8) (by omega)
    · exact b_rel x (k := 0) (by omega)
  have : i = 0 ∨ i = 1 ∨ i = 2 ∨ i = 3 ∨ i = 4 ∨ i = 5 ∨ i = 6 ∨ i = 7 ∨ i = 8 ∨ i = 9 ∨ i = 10 ∨ i = 11 ∨ i = 12 ∨ i = 13 ∨ i = 14 ∨ i = 15 ∨ i = 16 ∨ i = 17 ∨ i = 18 ∨ i = 19 := by omega
  rcases this with rfl | rfl | rfl | rfl | rfl | rfl | rfl | rfl | rfl | rfl | rfl | rfl | rfl | rfl | rfl | rfl | rfl | rfl | rfl | rfl
  · exact r a 0 (by decide)
  · exact r a 1 (by decide)
  · exact r a 2 (by decide)
  · exact r a 3 (by decide)
  · exact r b 0 (by decide)
  · exact r b 1 (by decide)
  · exact r b 2 (by decide)
  · exact r b 3 (by decide)
  · exact r c 0 (by decide)
  · exact r c 1 (by decide)
  · exact r c 2 (by decide)
  · exact r c 3 (by decide)
  · exact r d 0 (by decide)
  · exact r d 1 (by decide)
  · exact r d 2 (by decide)
  · exact r d 3 (by decide)
  · exact r e 0 (by decide)
  · exact r e 1 (by decide)
  · exact r e 2 (by decide)
  · exact r e 3 (by decide)
theorem pb_feed {a b c d e : Int32} (hI : IC S n m) (hL : Ly S n) : PB G mX11_feed 2 [.ref 0, .int a, .int b, .int c, .int d, .int e] mX12_feed 2 [.ref 412, .int a, .int b, .int c, .int d, .int e] S := by
  obtain ⟨t, ht, e0, e4, hb⟩ := hI.2.2.2.2.2.2.2.2.1
  refine Ex.imp (sp_cFeed e0 ht) (fun r S1 q => ?_)
  have f4 : S1.1 412 1 = nI t := by
    rcases q with ⟨_, _, q⟩ | ⟨_, _, q⟩
    · rw [q, pt_row (by decide) (by decide)]; exact e4
    · rw [q]; exact e4
  refine Ex.imp (sp_mFeed f4 ht) (fun r2 S2 p => ?_)
  rcases q with ⟨k, q1, q2⟩ | ⟨k, q1, q2⟩
  · rcases p with ⟨_, p1, p2⟩ | ⟨z, _⟩
    · refine ⟨by rw [p1, q1], n, m, ?_, ?_⟩
      · refine hI.tp (fun k h0 h1 h4 h5 => ?_) (fun j hj => ?_) (fun j hj => ?_) ⟨t + 20, k, ?_, ?_, fun i hi => ?_⟩
        · rw [p2, pt_row h5 h4, q2, pt_row h1 h0]
        · rw [p2, pt_row (by decide) (by decide), q2, pt_c (by decide) hj]
        · rw [p2, pt_c (by decide) hj, q2, pt_row (by decide) (by decide)]
        · rw [p2, pt_row (by decide) (by decide), q2]
          exact pt_ct _ t S e0
        · rw [p2]
          exact pt_ct _ t S1 f4
        · rw [p2, pt_row (k := 1) (by decide) (by decide), q2]
          by_cases hlt : i < t
          · rw [pt_lo (by decide) _ _ _ hlt, pt_lo (by decide) _ _ _ hlt, pt_row (by decide) (by decide)]
            exact hb i hlt
          · obtain ⟨j, rfl⟩ : ∃ j, i = t + j := ⟨i - t, by omega⟩
            rw [pt_hi (by decide) _ _ _ j (by show j < 20; omega), pt_hi (by decide) _ _ _ j (by show j < 20; omega)]
            exact by20_rel a b c d e j (by omega)
      · refine hL.cg ?_ ?_ ?_ ?_
        · rw [p2, pt_row (by decide) (by decide), q2, pt_row (by decide) (by decide)]
        · rw [p2, pt_c (by decide) (by decide), q2, pt_row (by decide) (by decide)]
        · rw [p2, pt_row (by decide) (by decide), q2, pt_row (by decide) (by decide)]
        · rw [p2, pt_row (by decide) (by decide), q2, pt_row (by decide) (by decide)]
    · exact absurd k z
  · rcases p with ⟨z, _⟩ | ⟨_, p1, p2⟩
    · exact absurd z k
    · exact ⟨by rw [p1, q1], n, m, by rw [p2, q2]; exact hI, by rw [p2, q2]; exact hL⟩
end
