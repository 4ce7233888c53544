/-! rows of the making -/
theorem nitX11 : Cond.initialized RX11 ∈ tblG := tblG_of 110 (by decide +kernel) (by decide +kernel)
theorem nitX5 : Cond.initialized RX5 ∈ tblG := tblG_of 111 (by decide +kernel) (by decide +kernel)
theorem nitX10 : Cond.initialized RX10 ∈ tblG := tblG_of 112 (by decide +kernel) (by decide +kernel)
theorem nitX1 : Cond.initialized RX1 ∈ tblG := tblG_of 113 (by decide +kernel) (by decide +kernel)
theorem nitX7 : Cond.initialized RX7 ∈ tblG := tblG_of 114 (by decide +kernel) (by decide +kernel)
theorem nitX2 : Cond.initialized RX2 ∈ tblG := tblG_of 115 (by decide +kernel) (by decide +kernel)
theorem nitX9 : Cond.initialized RX9 ∈ tblG := tblG_of 116 (by decide +kernel) (by decide +kernel)
theorem nitX3 : Cond.initialized RX3 ∈ tblG := tblG_of 117 (by decide +kernel) (by decide +kernel)
theorem nitX0 : Cond.initialized RX0 ∈ tblG := tblG_of 118 (by decide +kernel) (by decide +kernel)
theorem nitX8 : Cond.initialized RX8 ∈ tblG := tblG_of 119 (by decide +kernel) (by decide +kernel)
theorem nitX4 : Cond.initialized RX4 ∈ tblG := tblG_of 120 (by decide +kernel) (by decide +kernel)
theorem nitX6 : Cond.initialized RX6 ∈ tblG := tblG_of 121 (by decide +kernel) (by decide +kernel)
theorem nitX12 : Cond.initialized RX12 ∈ tblG := tblG_of 124 (by decide +kernel) (by decide +kernel)
theorem nclL_7 : Cond.classLink RL 7 RX11 ∈ tblG := tblG_of 132 (by decide +kernel) (by decide +kernel)
theorem ninX11 : Cond.instantiable RX11 14 ∈ tblG := tblG_of 133 (by decide +kernel) (by decide +kernel)
theorem nimX11 : Cond.instanceMethod yX11_init ∈ tblG := tblG_of 135 (by decide +kernel) (by decide +kernel)
theorem ncoX11 : Cond.code yX11_init cX11_init 2 none ∈ tblG := tblG_of 136 (by decide +kernel) (by decide +kernel)
theorem nolX11 : Cond.methodLink RX11 1 Lib.objectInit ∈ tblG := tblG_of 137 (by decide +kernel) (by decide +kernel)
theorem nwo1 : Cond.instanceMethod Lib.objectInit ∈ tblG := tblG_of 138 (by decide +kernel) (by decide +kernel)
theorem nwo2 : Cond.code Lib.objectInit ⟨#[0xb1]⟩ 1 none ∈ tblG := tblG_of 139 (by decide +kernel) (by decide +kernel)
theorem nclX11_13 : Cond.classLink RX11 13 RX5 ∈ tblG := tblG_of 140 (by decide +kernel) (by decide +kernel)
theorem ninX5 : Cond.instantiable RX5 11 ∈ tblG := tblG_of 141 (by decide +kernel) (by decide +kernel)
theorem nimX5 : Cond.instanceMethod yX5_init ∈ tblG := tblG_of 143 (by decide +kernel) (by decide +kernel)
theorem ncoX5 : Cond.code yX5_init cX5_init 2 none ∈ tblG := tblG_of 144 (by decide +kernel) (by decide +kernel)
theorem nolX5 : Cond.methodLink RX5 3 Lib.objectInit ∈ tblG := tblG_of 145 (by decide +kernel) (by decide +kernel)
theorem nclX5_9 : Cond.classLink RX5 9 RX10 ∈ tblG := tblG_of 146 (by decide +kernel) (by decide +kernel)
theorem ninX10 : Cond.instantiable RX10 8 ∈ tblG := tblG_of 147 (by decide +kernel) (by decide +kernel)
theorem nimX10 : Cond.instanceMethod yX10_init ∈ tblG := tblG_of 149 (by decide +kernel) (by decide +kernel)
theorem ncoX10 : Cond.code yX10_init cX10_init 1 none ∈ tblG := tblG_of 150 (by decide +kernel) (by decide +kernel)
theorem nolX10 : Cond.methodLink RX10 3 Lib.objectInit ∈ tblG := tblG_of 151 (by decide +kernel) (by decide +kernel)
theorem nclX10_21 : Cond.classLink RX10 21 RX1 ∈ tblG := tblG_of 152 (by decide +kernel) (by decide +kernel)
theorem ninX1 : Cond.instantiable RX1 5 ∈ tblG := tblG_of 153 (by decide +kernel) (by decide +kernel)
theorem nimX1 : Cond.instanceMethod yX1_init ∈ tblG := tblG_of 155 (by decide +kernel) (by decide +kernel)
theorem ncoX1 : Cond.code yX1_init cX1_init 1 none ∈ tblG := tblG_of 156 (by decide +kernel) (by decide +kernel)
theorem nolX1 : Cond.methodLink RX1 3 Lib.objectInit ∈ tblG := tblG_of 157 (by decide +kernel) (by decide +kernel)
theorem nac_byte : Cond.arrayClass .byte ∈ tblG := tblG_of 176 (by decide +kernel) (by decide +kernel)
theorem nac_int : Cond.arrayClass .int ∈ tblG := tblG_of 177 (by decide +kernel) (by decide +kernel)
theorem nclX5_25 : Cond.classLink RX5 25 RX7 ∈ tblG := tblG_of 228 (by decide +kernel) (by decide +kernel)
theorem ninX7 : Cond.instantiable RX7 7 ∈ tblG := tblG_of 229 (by decide +kernel) (by decide +kernel)
theorem nimX7 : Cond.instanceMethod yX7_init ∈ tblG := tblG_of 231 (by decide +kernel) (by decide +kernel)
theorem ncoX7 : Cond.code yX7_init cX7_init 2 none ∈ tblG := tblG_of 232 (by decide +kernel) (by decide +kernel)
theorem nolX7 : Cond.methodLink RX7 1 Lib.objectInit ∈ tblG := tblG_of 233 (by decide +kernel) (by decide +kernel)
theorem nac_long : Cond.arrayClass .long ∈ tblG := tblG_of 263 (by decide +kernel) (by decide +kernel)
theorem nclX5_34 : Cond.classLink RX5 34 RX2 ∈ tblG := tblG_of 264 (by decide +kernel) (by decide +kernel)
theorem ninX2 : Cond.instantiable RX2 9 ∈ tblG := tblG_of 265 (by decide +kernel) (by decide +kernel)
theorem nimX2 : Cond.instanceMethod yX2_init ∈ tblG := tblG_of 267 (by decide +kernel) (by decide +kernel)
theorem ncoX2 : Cond.code yX2_init cX2_init 4 none ∈ tblG := tblG_of 268 (by decide +kernel) (by decide +kernel)
theorem nolX2 : Cond.methodLink RX2 3 Lib.objectInit ∈ tblG := tblG_of 269 (by decide +kernel) (by decide +kernel)
theorem nclX11_26 : Cond.classLink RX11 26 RX10 ∈ tblG := tblG_of 335 (by decide +kernel) (by decide +kernel)
theorem nclX11_33 : Cond.classLink RX11 33 RX9 ∈ tblG := tblG_of 337 (by decide +kernel) (by decide +kernel)
theorem ninX9 : Cond.instantiable RX9 10 ∈ tblG := tblG_of 338 (by decide +kernel) (by decide +kernel)
theorem nimX9 : Cond.instanceMethod yX9_init ∈ tblG := tblG_of 340 (by decide +kernel) (by decide +kernel)
theorem ncoX9 : Cond.code yX9_init cX9_init 1 none ∈ tblG := tblG_of 341 (by decide +kernel) (by decide +kernel)
theorem nolX9 : Cond.methodLink RX9 3 Lib.objectInit ∈ tblG := tblG_of 342 (by decide +kernel) (by decide +kernel)
theorem nclX11_40 : Cond.classLink RX11 40 RX3 ∈ tblG := tblG_of 395 (by decide +kernel) (by decide +kernel)
theorem ninX3 : Cond.instantiable RX3 4 ∈ tblG := tblG_of 396 (by decide +kernel) (by decide +kernel)
theorem nimX3 : Cond.instanceMethod yX3_init ∈ tblG := tblG_of 398 (by decide +kernel) (by decide +kernel)
theorem ncoX3 : Cond.code yX3_init cX3_init 2 none ∈ tblG := tblG_of 399 (by decide +kernel) (by decide +kernel)
theorem nolX3 : Cond.methodLink RX3 3 Lib.objectInit ∈ tblG := tblG_of 400 (by decide +kernel) (by decide +kernel)
theorem nclX3_9 : Cond.classLink RX3 9 RX9 ∈ tblG := tblG_of 401 (by decide +kernel) (by decide +kernel)
theorem nclX11_55 : Cond.classLink RX11 55 RX0 ∈ tblG := tblG_of 419 (by decide +kernel) (by decide +kernel)
theorem ninX0 : Cond.instantiable RX0 7 ∈ tblG := tblG_of 420 (by decide +kernel) (by decide +kernel)
theorem nimX0 : Cond.instanceMethod yX0_init ∈ tblG := tblG_of 422 (by decide +kernel) (by decide +kernel)
theorem ncoX0 : Cond.code yX0_init cX0_init 3 none ∈ tblG := tblG_of 423 (by decide +kernel) (by decide +kernel)
theorem nolX0 : Cond.methodLink RX0 3 Lib.objectInit ∈ tblG := tblG_of 424 (by decide +kernel) (by decide +kernel)
theorem nac_boolean : Cond.arrayClass .boolean ∈ tblG := tblG_of 449 (by decide +kernel) (by decide +kernel)
theorem nclX11_64 : Cond.classLink RX11 64 RX8 ∈ tblG := tblG_of 450 (by decide +kernel) (by decide +kernel)
theorem ninX8 : Cond.instantiable RX8 8 ∈ tblG := tblG_of 451 (by decide +kernel) (by decide +kernel)
theorem nimX8 : Cond.instanceMethod yX8_init ∈ tblG := tblG_of 453 (by decide +kernel) (by decide +kernel)
theorem ncoX8 : Cond.code yX8_init cX8_init 4 none ∈ tblG := tblG_of 454 (by decide +kernel) (by decide +kernel)
theorem nolX8 : Cond.methodLink RX8 3 Lib.objectInit ∈ tblG := tblG_of 455 (by decide +kernel) (by decide +kernel)
theorem nclX11_73 : Cond.classLink RX11 73 RX4 ∈ tblG := tblG_of 483 (by decide +kernel) (by decide +kernel)
theorem ninX4 : Cond.instantiable RX4 7 ∈ tblG := tblG_of 484 (by decide +kernel) (by decide +kernel)
theorem nimX4 : Cond.instanceMethod yX4_init ∈ tblG := tblG_of 486 (by decide +kernel) (by decide +kernel)
theorem ncoX4 : Cond.code yX4_init cX4_init 3 none ∈ tblG := tblG_of 487 (by decide +kernel) (by decide +kernel)
theorem nolX4 : Cond.methodLink RX4 3 Lib.objectInit ∈ tblG := tblG_of 488 (by decide +kernel) (by decide +kernel)
theorem nclX11_80 : Cond.classLink RX11 80 RX6 ∈ tblG := tblG_of 511 (by decide +kernel) (by decide +kernel)
theorem ninX6 : Cond.instantiable RX6 15 ∈ tblG := tblG_of 512 (by decide +kernel) (by decide +kernel)
theorem nimX6 : Cond.instanceMethod yX6_init ∈ tblG := tblG_of 514 (by decide +kernel) (by decide +kernel)
theorem ncoX6 : Cond.code yX6_init cX6_init 2 none ∈ tblG := tblG_of 515 (by decide +kernel) (by decide +kernel)
theorem nolX6 : Cond.methodLink RX6 3 Lib.objectInit ∈ tblG := tblG_of 516 (by decide +kernel) (by decide +kernel)
theorem nclL_10 : Cond.classLink RL 10 RX12 ∈ tblG := tblG_of 1380 (by decide +kernel) (by decide +kernel)
theorem ninX12 : Cond.instantiable RX12 73 ∈ tblG := tblG_of 1381 (by decide +kernel) (by decide +kernel)
theorem nimX12 : Cond.instanceMethod yX12_init ∈ tblG := tblG_of 1383 (by decide +kernel) (by decide +kernel)
theorem ncoX12 : Cond.code yX12_init cX12_init 2 none ∈ tblG := tblG_of 1384 (by decide +kernel) (by decide +kernel)
theorem nolX12 : Cond.methodLink RX12 1 Lib.objectInit ∈ tblG := tblG_of 1385 (by decide +kernel) (by decide +kernel)
def nOk (y : ovM) (n : Nat) : Prop := Cond.code y.1 y.2.1 y.2.2.1 y.2.2.2 ∈ tblG ∧ Cond.instanceMethod y.1 ∈ tblG ∧ Cond.initialized y.1.cls ∈ tblG ∧ oMh y n ∧ y.1.name = "<init>" ∧ y.2.2.2 = none
theorem nokX0 : nOk mX0_init 2 := ⟨ncoX0, nimX0, nitX0, ⟨by decide, by decide, by decide +kernel⟩, rfl, rfl⟩
theorem nokX1 : nOk mX1_init 0 := ⟨ncoX1, nimX1, nitX1, ⟨by decide, by decide, by decide +kernel⟩, rfl, rfl⟩
theorem nokX2 : nOk mX2_init 3 := ⟨ncoX2, nimX2, nitX2, ⟨by decide, by decide, by decide +kernel⟩, rfl, rfl⟩
theorem nokX3 : nOk mX3_init 0 := ⟨ncoX3, nimX3, nitX3, ⟨by decide, by decide, by decide +kernel⟩, rfl, rfl⟩
theorem nokX4 : nOk mX4_init 2 := ⟨ncoX4, nimX4, nitX4, ⟨by decide, by decide, by decide +kernel⟩, rfl, rfl⟩
theorem nokX5 : nOk mX5_init 1 := ⟨ncoX5, nimX5, nitX5, ⟨by decide, by decide, by decide +kernel⟩, rfl, rfl⟩
theorem nokX6 : nOk mX6_init 1 := ⟨ncoX6, nimX6, nitX6, ⟨by decide, by decide, by decide +kernel⟩, rfl, rfl⟩
theorem nokX7 : nOk mX7_init 1 := ⟨ncoX7, nimX7, nitX7, ⟨by decide, by decide, by decide +kernel⟩, rfl, rfl⟩
theorem nokX8 : nOk mX8_init 3 := ⟨ncoX8, nimX8, nitX8, ⟨by decide, by decide, by decide +kernel⟩, rfl, rfl⟩
theorem nokX9 : nOk mX9_init 0 := ⟨ncoX9, nimX9, nitX9, ⟨by decide, by decide, by decide +kernel⟩, rfl, rfl⟩
theorem nokX10 : nOk mX10_init 0 := ⟨ncoX10, nimX10, nitX10, ⟨by decide, by decide, by decide +kernel⟩, rfl, rfl⟩
theorem nokX11 : nOk mX11_init 0 := ⟨ncoX11, nimX11, nitX11, ⟨by decide, by decide, by decide +kernel⟩, rfl, rfl⟩
theorem nokX12 : nOk mX12_init 0 := ⟨ncoX12, nimX12, nitX12, ⟨by decide, by decide, by decide +kernel⟩, rfl, rfl⟩
section
variable {G : ovG} {k : ovM} {R : Room} {u slots n0 : Nat} {Z : List Frame → Array Value → State → State → Prop} {pc : Nat} {ls : List (Option Value)} {st : List Value} {S : ovS} {xs : List (Nat × va_E)}
theorem n_aload_n {q : Fin 4} {i x : Nat} (hd : decode k.2.1 pc = .ok (.aload_n q, 1)) (hi : (q : Nat) = i) (hx : ls[i]? = some (some (.ref x))) (kk : RN G k R u slots n0 Z (pc + 1) ls (.ref x :: st) xs S) : RN G k R u slots n0 Z pc ls st xs S := by
  intro p e s m args below meth c C H locs la hP hS hl
  exact lv_aload_n C.1.1 C.1.2.1 hd hi (olv_at hl hx) (kk p e s m args below meth c C H locs la hP hS hl)
theorem n_istore_n {q : Fin 4} {i : Nat} {x : Int32} (hd : decode k.2.1 pc = .ok (.istore_n q, 1)) (hi : (q : Nat) = i) (hn : i < k.2.2.1) (ho : onl ls i) (kk : RN G k R u slots n0 Z (pc + 1) (ls.set i (some (.int x))) st xs S) : RN G k R u slots n0 Z pc ls (.int x :: st) xs S := by
  intro p e s m args below meth c C H locs la hP hS hl
  exact lv_istore_n C.1.1 C.1.2.1 hd hi hl hn rfl (fun la2 hl2 => kk p e s m args below meth c C H locs la2 hP hS (olv_set (v := .int x) hl2 ho))
theorem n_astore_n {q : Fin 4} {i x : Nat} (hd : decode k.2.1 pc = .ok (.astore_n q, 1)) (hi : (q : Nat) = i) (hn : i < k.2.2.1) (ho : onl ls i) (kk : RN G k R u slots n0 Z (pc + 1) (ls.set i (some (.ref x))) st xs S) : RN G k R u slots n0 Z pc ls (.ref x :: st) xs S := by
  intro p e s m args below meth c C H locs la hP hS hl
  exact lv_astore_n C.1.1 C.1.2.1 hd hi hl hn rfl (fun la2 hl2 => kk p e s m args below meth c C H locs la2 hP hS (olv_set (v := .ref x) hl2 ho))
theorem n_iinc {i : Nat} {n : Int} {x v : Int32} (hd : decode k.2.1 pc = .ok (.iinc i n, 3)) (hx : ls[i]? = some (some (.int x))) (hv : x + Int32.ofInt n = v) (hn : i < k.2.2.1) (ho : onl ls i) (kk : RN G k R u slots n0 Z (pc + 3) (ls.set i (some (.int v))) st xs S) : RN G k R u slots n0 Z pc ls st xs S := by
  intro p e s m args below meth c C H locs la hP hS hl
  obtain ⟨j, hj⟩ := List.getElem?_of_mem (List.mem_map.mpr ⟨(i, .int x), (mem_oll ls 0 i (.int x)).mpr ⟨Nat.zero_le _, hx⟩, rfl⟩ : otl G (i, .int x) ∈ (oll ls 0).map (otl G))
  exact lv_iinc C.1.1 C.1.2.1 hd hl hj hv hn rfl (fun la2 hl2 => kk p e s m args below meth c C H locs la2 hP hS (olv_set (v := .int v) hl2 ho))
theorem n_dup {a : Value} (hd : decode k.2.1 pc = .ok (.dup, 1)) (ha : a.category = 1) (kk : RN G k R u slots n0 Z (pc + 1) ls (a :: a :: st) xs S) : RN G k R u slots n0 Z pc ls (a :: st) xs S := by
  intro p e s m args below meth c C H locs la hP hS hl
  exact lv_dup C.1.1 C.1.2.1 hd ((otr_cat a).trans ha) (kk p e s m args below meth c C H locs la hP hS hl)
theorem n_icmp_ge {x y : Int32} {off : Int} {tgt : Nat} (hd : decode k.2.1 pc = .ok (.if_icmp .ge off, 3)) (ht : (pc : Int) + off = (tgt : Int)) (kt : y ≤ x → RN G k R u slots n0 Z tgt ls st xs S) (kf : ¬ y ≤ x → RN G k R u slots n0 Z (pc + 3) ls st xs S) : RN G k R u slots n0 Z pc ls (.int y :: .int x :: st) xs S := by
  intro p e s m args below meth c C H locs la hP hS hl
  exact lv_icmp_ge C.1.1 C.1.2.1 hd ht (fun q => kt q p e s m args below meth c C H locs la hP hS hl) (fun q => kf q p e s m args below meth c C H locs la hP hS hl)
theorem n_goto {off : Int} {tgt : Nat} (hd : decode k.2.1 pc = .ok (.goto off, 3)) (ht : (pc : Int) + off = (tgt : Int)) (kk : RN G k R u slots n0 Z tgt ls st xs S) : RN G k R u slots n0 Z pc ls st xs S := by
  intro p e s m args below meth c C H locs la hP hS hl
  exact lv_goto C.1.1 C.1.2.1 hd ht (kk p e s m args below meth c C H locs la hP hS hl)
theorem n_obj {idx o : Nat} (hw : Cond.methodLink k.1.cls idx Lib.objectInit ∈ tblG) (hd : decode k.2.1 pc = .ok (.invokespecial idx, 3)) (hR : 1 ≤ R.frames) (hR2 : (st.map fun v => v.category).sum + 12 ≤ R.locals) (kk : RN G k R u slots n0 Z (pc + 3) ls st xs S) : RN G k R u slots n0 Z pc ls (.ref o :: st) xs S := by
  intro p e s m args below meth c C H locs la hP hS hl
  exact W.objInit C.1.1 C.1.2.1 C.1.2.2.2.2.1 (C.1.2.2.2.2.2.1 _ hw) (C.1.2.2.2.2.2.1 _ nwo1) (C.1.2.2.2.2.2.1 _ nwo2) rfl (hl.1.trans C.1.2.2.2.1.symm) rfl hd hR (by show 2 * 0 + ((st.map (otr G)).map fun v => v.category).sum + 12 ≤ _; rw [o_sum]; omega) (kk p e s m args below meth c C H locs la hP hS hl)
end
