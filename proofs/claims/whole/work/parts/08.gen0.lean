theorem oiA {i : Int32} {n : Nat} (h : ¬ (i < 0 ∨ n ≤ i.toNatClampNeg)) : vp_in i n := h
theorem x_iald {G : ovG} {k : ovM} {R : Room} {cells slots : Nat} {Z : List Frame → Array Value → State → State → Prop} {pc : Nat} {ls : List (Option Value)} {st : List Value} {S : ovS} {o n j : Nat} {i : Int32} (ho : ocl o = 14) (hn : oln o = n) (hj : i.toNatClampNeg = j) (hi : vp_in i n) (hd : decode k.2.1 pc = .ok (.iaload, 1)) (kk : RW G k R cells slots Z (pc + 1) ls (.int (S.1 o j) :: st) S) : RW G k R cells slots Z (pc) ls (.int i :: .ref o :: st) S := by subst hj; exact r_iald ho hn hi hd kk
theorem x_bald {G : ovG} {k : ovM} {R : Room} {cells slots : Nat} {Z : List Frame → Array Value → State → State → Prop} {pc : Nat} {ls : List (Option Value)} {st : List Value} {S : ovS} {o n j : Nat} {i : Int32} (ho : ocl o = 13) (hn : oln o = n) (hj : i.toNatClampNeg = j) (hi : vp_in i n) (hd : decode k.2.1 pc = .ok (.baload, 1)) (kk : RW G k R cells slots Z (pc + 1) ls (.int (S.1 o j) :: st) S) : RW G k R cells slots Z (pc) ls (.int i :: .ref o :: st) S := by subst hj; exact r_bald ho hn hi hd kk
theorem x_zald {G : ovG} {k : ovM} {R : Room} {cells slots : Nat} {Z : List Frame → Array Value → State → State → Prop} {pc : Nat} {ls : List (Option Value)} {st : List Value} {S : ovS} {o n j : Nat} {i : Int32} (ho : ocl o = 16) (hn : oln o = n) (hj : i.toNatClampNeg = j) (hi : vp_in i n) (hd : decode k.2.1 pc = .ok (.baload, 1)) (kk : RW G k R cells slots Z (pc + 1) ls (.int (S.1 o j) :: st) S) : RW G k R cells slots Z (pc) ls (.int i :: .ref o :: st) S := by subst hj; exact r_zald ho hn hi hd kk
theorem x_lald {G : ovG} {k : ovM} {R : Room} {cells slots : Nat} {Z : List Frame → Array Value → State → State → Prop} {pc : Nat} {ls : List (Option Value)} {st : List Value} {S : ovS} {o n j : Nat} {i : Int32} (ho : ocl o = 15) (hn : oln o = n) (hj : i.toNatClampNeg = j) (hi : vp_in i n) (hd : decode k.2.1 pc = .ok (.laload, 1)) (kk : RW G k R cells slots Z (pc + 1) ls (.long (S.2 o j) :: st) S) : RW G k R cells slots Z (pc) ls (.int i :: .ref o :: st) S := by subst hj; exact r_lald ho hn hi hd kk
theorem x_aald {G : ovG} {k : ovM} {R : Room} {cells slots : Nat} {Z : List Frame → Array Value → State → State → Prop} {pc : Nat} {ls : List (Option Value)} {st : List Value} {S : ovS} {o n j : Nat} {i : Int32} (ho : ocl o = 17) (hn : oln o = n) (hj : i.toNatClampNeg = j) (hi : vp_in i n) (hd : decode k.2.1 pc = .ok (.aaload, 1)) (kk : RW G k R cells slots Z (pc + 1) ls (.ref (orow o j) :: st) S) : RW G k R cells slots Z (pc) ls (.int i :: .ref o :: st) S := by subst hj; exact r_aald ho hn hi hd kk
theorem x_iast {G : ovG} {k : ovM} {R : Room} {cells slots : Nat} {Z : List Frame → Array Value → State → State → Prop} {pc : Nat} {ls : List (Option Value)} {st : List Value} {S : ovS} {o n j : Nat} {i : Int32} {x : Int32} (ho : ocl o = 14) (hn : oln o = n) (hj : i.toNatClampNeg = j) (hi : vp_in i n) (hd : decode k.2.1 pc = .ok (.iastore, 1)) (kk : RW G k R cells slots Z (pc + 1) ls st (stI S o j x)) : RW G k R cells slots Z (pc) ls (.int x :: .int i :: .ref o :: st) S := by subst hj; exact r_iast ho hn hi hd kk
theorem x_bast {G : ovG} {k : ovM} {R : Room} {cells slots : Nat} {Z : List Frame → Array Value → State → State → Prop} {pc : Nat} {ls : List (Option Value)} {st : List Value} {S : ovS} {o n j : Nat} {i : Int32} {x : Int32} (ho : ocl o = 13) (hn : oln o = n) (hj : i.toNatClampNeg = j) (hi : vp_in i n) (hd : decode k.2.1 pc = .ok (.bastore, 1)) (kk : RW G k R cells slots Z (pc + 1) ls st (stI S o j (vp_nar .byte x))) : RW G k R cells slots Z (pc) ls (.int x :: .int i :: .ref o :: st) S := by subst hj; exact r_bast ho hn hi hd kk
theorem x_zast {G : ovG} {k : ovM} {R : Room} {cells slots : Nat} {Z : List Frame → Array Value → State → State → Prop} {pc : Nat} {ls : List (Option Value)} {st : List Value} {S : ovS} {o n j : Nat} {i : Int32} {x : Int32} (ho : ocl o = 16) (hn : oln o = n) (hj : i.toNatClampNeg = j) (hi : vp_in i n) (hd : decode k.2.1 pc = .ok (.bastore, 1)) (kk : RW G k R cells slots Z (pc + 1) ls st (stI S o j (vp_nar .boolean x))) : RW G k R cells slots Z (pc) ls (.int x :: .int i :: .ref o :: st) S := by subst hj; exact r_zast ho hn hi hd kk
theorem x_last {G : ovG} {k : ovM} {R : Room} {cells slots : Nat} {Z : List Frame → Array Value → State → State → Prop} {pc : Nat} {ls : List (Option Value)} {st : List Value} {S : ovS} {o n j : Nat} {i : Int32} {x : Int64} (ho : ocl o = 15) (hn : oln o = n) (hj : i.toNatClampNeg = j) (hi : vp_in i n) (hd : decode k.2.1 pc = .ok (.lastore, 1)) (kk : RW G k R cells slots Z (pc + 1) ls st (stJ S o j x)) : RW G k R cells slots Z (pc) ls (.long x :: .int i :: .ref o :: st) S := by subst hj; exact r_last ho hn hi hd kk
theorem x_copy {G : ovG} {k : ovM} {R : Room} {cells slots : Nat} {Z : List Frame → Array Value → State → State → Prop} {pc : Nat} {ls : List (Option Value)} {st : List Value} {S : ovS} {index o o2 n0 n1 a b d : Nat} {sp dp n : Int32} (hl : Cond.methodLink k.1.cls index arraycopyName ∈ tblG) (ho : ocl o = 14) (hn0 : oln o = n0) (ho2 : ocl o2 = 14) (hn1 : oln o2 = n1) (h1 : ¬ sp < 0) (h2 : ¬ dp < 0) (h3 : ¬ n < 0) (ea : sp.toNatClampNeg = a) (eb : dp.toNatClampNeg = b) (ed : n.toNatClampNeg = d) (h4 : a + d ≤ n0) (h5 : b + d ≤ n1)
    (hR : 1 ≤ R.frames) (hR2 : (st.map fun v => v.category).sum + (nativeFrameWords "java/lang/System" "arraycopy" 5 + 11) ≤ R.locals) (hd : decode k.2.1 pc = .ok (.invokestatic index, 3)) (kk : RW G k R cells slots Z (pc + 3) ls st (cpI S o o2 a b d)) : RW G k R cells slots Z (pc) ls (.int n :: .int dp :: .ref o2 :: .int sp :: .ref o :: st) S := by
  subst ea; subst eb; subst ed
  exact r_copyI hl ac_nat ac_sta ac_ini ho hn0 ho2 hn1 h1 h2 h3 h4 h5 hR hR2 hd kk
theorem oic_m1 : Int32.ofInt (-1) = -1 := by decide
theorem oic_0 : Int32.ofInt (0) = 0 := by decide
theorem oic_1 : Int32.ofInt (1) = 1 := by decide
theorem oic_2 : Int32.ofInt (2) = 2 := by decide
theorem oic_3 : Int32.ofInt (3) = 3 := by decide
theorem oic_4 : Int32.ofInt (4) = 4 := by decide
theorem oic_5 : Int32.ofInt (5) = 5 := by decide
theorem obp_m2 : (Int8.ofInt (-2)).toInt32 = -2 := by decide
theorem obp_6 : (Int8.ofInt (6)).toInt32 = 6 := by decide
theorem obp_7 : (Int8.ofInt (7)).toInt32 = 7 := by decide
theorem obp_8 : (Int8.ofInt (8)).toInt32 = 8 := by decide
theorem obp_9 : (Int8.ofInt (9)).toInt32 = 9 := by decide
theorem obp_10 : (Int8.ofInt (10)).toInt32 = 10 := by decide
theorem obp_11 : (Int8.ofInt (11)).toInt32 = 11 := by decide
theorem obp_12 : (Int8.ofInt (12)).toInt32 = 12 := by decide
theorem obp_13 : (Int8.ofInt (13)).toInt32 = 13 := by decide
theorem obp_14 : (Int8.ofInt (14)).toInt32 = 14 := by decide
theorem obp_15 : (Int8.ofInt (15)).toInt32 = 15 := by decide
theorem obp_16 : (Int8.ofInt (16)).toInt32 = 16 := by decide
theorem obp_17 : (Int8.ofInt (17)).toInt32 = 17 := by decide
theorem obp_20 : (Int8.ofInt (20)).toInt32 = 20 := by decide
theorem obp_21 : (Int8.ofInt (21)).toInt32 = 21 := by decide
theorem obp_24 : (Int8.ofInt (24)).toInt32 = 24 := by decide
theorem obp_25 : (Int8.ofInt (25)).toInt32 = 25 := by decide
theorem obp_30 : (Int8.ofInt (30)).toInt32 = 30 := by decide
theorem obp_31 : (Int8.ofInt (31)).toInt32 = 31 := by decide
theorem obp_32 : (Int8.ofInt (32)).toInt32 = 32 := by decide
theorem obp_35 : (Int8.ofInt (35)).toInt32 = 35 := by decide
theorem obp_36 : (Int8.ofInt (36)).toInt32 = 36 := by decide
theorem obp_37 : (Int8.ofInt (37)).toInt32 = 37 := by decide
theorem obp_38 : (Int8.ofInt (38)).toInt32 = 38 := by decide
theorem obp_40 : (Int8.ofInt (40)).toInt32 = 40 := by decide
theorem obp_41 : (Int8.ofInt (41)).toInt32 = 41 := by decide
theorem obp_42 : (Int8.ofInt (42)).toInt32 = 42 := by decide
theorem obp_43 : (Int8.ofInt (43)).toInt32 = 43 := by decide
theorem obp_45 : (Int8.ofInt (45)).toInt32 = 45 := by decide
theorem obp_47 : (Int8.ofInt (47)).toInt32 = 47 := by decide
theorem obp_48 : (Int8.ofInt (48)).toInt32 = 48 := by decide
theorem obp_50 : (Int8.ofInt (50)).toInt32 = 50 := by decide
theorem obp_57 : (Int8.ofInt (57)).toInt32 = 57 := by decide
theorem obp_59 : (Int8.ofInt (59)).toInt32 = 59 := by decide
theorem obp_60 : (Int8.ofInt (60)).toInt32 = 60 := by decide
theorem obp_61 : (Int8.ofInt (61)).toInt32 = 61 := by decide
theorem obp_62 : (Int8.ofInt (62)).toInt32 = 62 := by decide
theorem obp_63 : (Int8.ofInt (63)).toInt32 = 63 := by decide
theorem obp_64 : (Int8.ofInt (64)).toInt32 = 64 := by decide
theorem obp_71 : (Int8.ofInt (71)).toInt32 = 71 := by decide
theorem obp_97 : (Int8.ofInt (97)).toInt32 = 97 := by decide
theorem obp_99 : (Int8.ofInt (99)).toInt32 = 99 := by decide
theorem obp_100 : (Int8.ofInt (100)).toInt32 = 100 := by decide
theorem obp_120 : (Int8.ofInt (120)).toInt32 = 120 := by decide
theorem obp_122 : (Int8.ofInt (122)).toInt32 = 122 := by decide
theorem obp_124 : (Int8.ofInt (124)).toInt32 = 124 := by decide
theorem osp_137 : (Int16.ofInt (137)).toInt32 = 137 := by decide
theorem osp_160 : (Int16.ofInt (160)).toInt32 = 160 := by decide
theorem osp_255 : (Int16.ofInt (255)).toInt32 = 255 := by decide
theorem osp_256 : (Int16.ofInt (256)).toInt32 = 256 := by decide
theorem osp_258 : (Int16.ofInt (258)).toInt32 = 258 := by decide
theorem osp_259 : (Int16.ofInt (259)).toInt32 = 259 := by decide
theorem osp_261 : (Int16.ofInt (261)).toInt32 = 261 := by decide
theorem osp_267 : (Int16.ofInt (267)).toInt32 = 267 := by decide
theorem osp_300 : (Int16.ofInt (300)).toInt32 = 300 := by decide
theorem osp_320 : (Int16.ofInt (320)).toInt32 = 320 := by decide
theorem osp_999 : (Int16.ofInt (999)).toInt32 = 999 := by decide
theorem osp_1000 : (Int16.ofInt (1000)).toInt32 = 1000 := by decide
theorem osp_1023 : (Int16.ofInt (1023)).toInt32 = 1023 := by decide
theorem osp_1024 : (Int16.ofInt (1024)).toInt32 = 1024 := by decide
theorem osp_1560 : (Int16.ofInt (1560)).toInt32 = 1560 := by decide
theorem osp_1600 : (Int16.ofInt (1600)).toInt32 = 1600 := by decide
theorem olc_0 : Int64.ofNat ((0 : Fin 2) : Nat) = 0 := by decide
theorem onm {G : ovG} {k : ovM} {R : Room} {cells slots : Nat} {Z : List Frame → Array Value → State → State → Prop} {pc : Nat} {ls : List (Option Value)} {st : List Value} {X : ovS} (h : ∀ S1 : ovS, S1 = X → RW G k R cells slots Z pc ls st S1) : RW G k R cells slots Z pc ls st X := h _ rfl
def oushr (x y : Int32) : Int32 := (x.toUInt32 >>> (y.toUInt32 &&& Int32.toUInt32 31)).toInt32
def orem (x y : Int32) : Int32 := x - x / y * y
def omax (x y : Int32) : Int32 := if x < y then y else x
def omin (x y : Int32) : Int32 := if y < x then y else x
theorem mmax_code : Cond.code Lib.Math.max.name Lib.Math.max.code 2 (some .int) ∈ tblG := tblG_of 727 (by decide +kernel) (by decide +kernel)
theorem r_max {G : ovG} {k : ovM} {R : Room} {cells slots : Nat} {Z : List Frame → Array Value → State → State → Prop} {pc : Nat} {ls : List (Option Value)} {st : List Value} {S : ovS} {index : Nat} {x y : Int32} (hl : Cond.methodLink k.1.cls index yJ9_max_7cf53 ∈ tblG) (hR : 1 ≤ R.frames) (hR2 : (st.map fun v => v.category).sum + 13 ≤ R.locals) (hf : cells ≤ R.cells ∧ slots ≤ R.slots) (hd : decode k.2.1 pc = .ok (.invokestatic index, 3)) (kk : RW G k R cells slots Z (pc + 3) ls (.int (omax x y) :: st) S) : RW G k R cells slots Z (pc) ls (.int y :: .int x :: st) S := by
  intro p e s m args below meth c C0 H locs la hP hS hl2
  exact va_mmax C0.1 C0.2.1 (C0.2.2.2.1.trans hl2.1.symm) C0.2.2.2.2.1 (C0.2.2.2.2.2.1 _ hl) (C0.2.2.2.2.2.1 _ okJ9_max_7cf53.2.1) (C0.2.2.2.2.2.1 _ okJ9_max_7cf53.2.2.1) (C0.2.2.2.2.2.1 _ mmax_code) hR (by rw [o_sum]; exact hR2) hf.1 hf.2 hd (kk p e s m args below meth c C0 H locs la hP hS hl2)
theorem mmin_code : Cond.code Lib.Math.min.name Lib.Math.min.code 2 (some .int) ∈ tblG := tblG_of 673 (by decide +kernel) (by decide +kernel)
theorem r_min {G : ovG} {k : ovM} {R : Room} {cells slots : Nat} {Z : List Frame → Array Value → State → State → Prop} {pc : Nat} {ls : List (Option Value)} {st : List Value} {S : ovS} {index : Nat} {x y : Int32} (hl : Cond.methodLink k.1.cls index yJ9_min_7cf53 ∈ tblG) (hR : 1 ≤ R.frames) (hR2 : (st.map fun v => v.category).sum + 13 ≤ R.locals) (hf : cells ≤ R.cells ∧ slots ≤ R.slots) (hd : decode k.2.1 pc = .ok (.invokestatic index, 3)) (kk : RW G k R cells slots Z (pc + 3) ls (.int (omin x y) :: st) S) : RW G k R cells slots Z (pc) ls (.int y :: .int x :: st) S := by
  intro p e s m args below meth c C0 H locs la hP hS hl2
  exact va_mmin C0.1 C0.2.1 (C0.2.2.2.1.trans hl2.1.symm) C0.2.2.2.2.1 (C0.2.2.2.2.2.1 _ hl) (C0.2.2.2.2.2.1 _ okJ9_min_7cf53.2.1) (C0.2.2.2.2.2.1 _ okJ9_min_7cf53.2.2.1) (C0.2.2.2.2.2.1 _ mmin_code) hR (by rw [o_sum]; exact hR2) hf.1 hf.2 hd (kk p e s m args below meth c C0 H locs la hP hS hl2)
