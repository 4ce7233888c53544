/-! ===== what holds between two calls ===== -/
/-- a State as the reference keeps it: 38 numbers -/
def srow (S : ovS) (o : Nat) : Nat → Int32 := fun k =>
  if k < 5 then S.1 (o + 1) k else if k < 10 then S.1 (o + 2) (k - 5) else if k < 15 then S.1 (o + 5) (k - 10) else if k < 20 then S.1 (o + 3) (k - 15)
  else if k < 25 then S.1 (o + 4) (k - 20) else if k < 30 then S.1 (o + 6) (k - 25) else if k < 35 then S.1 (o + 7) (k - 30) else S.1 o (k - 28)
section
variable {S S1 : ovS} {o n : Nat}
theorem sr_a {i : Nat} (h : i < 5) : srow S o i = S.1 (o + 1) i := by simp [srow, h]
theorem sr_b {i : Nat} (h : i < 5) : srow S o (5 + i) = S.1 (o + 2) i := by
  unfold srow
  rw [if_neg (by omega), if_pos (by omega), show 5 + i - 5 = i by omega]
theorem sr_c {i : Nat} (h : i < 5) : srow S o (10 + i) = S.1 (o + 5) i := by
  unfold srow
  rw [if_neg (by omega), if_neg (by omega), if_pos (by omega), show 10 + i - 10 = i by omega]
theorem sr_d {i : Nat} (h : i < 5) : srow S o (15 + i) = S.1 (o + 3) i := by
  unfold srow
  rw [if_neg (by omega), if_neg (by omega), if_neg (by omega), if_pos (by omega), show 15 + i - 15 = i by omega]
theorem sr_e {i : Nat} (h : i < 5) : srow S o (20 + i) = S.1 (o + 4) i := by
  unfold srow
  rw [if_neg (by omega), if_neg (by omega), if_neg (by omega), if_neg (by omega), if_pos (by omega), show 20 + i - 20 = i by omega]
theorem sr_f {i : Nat} (h : i < 5) : srow S o (25 + i) = S.1 (o + 6) i := by
  unfold srow
  rw [if_neg (by omega), if_neg (by omega), if_neg (by omega), if_neg (by omega), if_neg (by omega), if_pos (by omega), show 25 + i - 25 = i by omega]
theorem sr_g {i : Nat} (h : i < 5) : srow S o (30 + i) = S.1 (o + 7) i := by
  unfold srow
  rw [if_neg (by omega), if_neg (by omega), if_neg (by omega), if_neg (by omega), if_neg (by omega), if_neg (by omega), if_pos (by omega), show 30 + i - 30 = i by omega]
theorem sr_h {i : Nat} (h : 7 ≤ i) (h2 : i ≤ 9) : srow S o (28 + i) = S.1 o i := by
  unfold srow
  rw [if_neg (by omega), if_neg (by omega), if_neg (by omega), if_neg (by omega), if_neg (by omega), if_neg (by omega), if_neg (by omega), show 28 + i - 28 = i by omega]
/-- a place among the 38 is one of the eight kinds -/
theorem k38 {P : Nat → Prop} (ha : ∀ i, i < 5 → P i) (hb : ∀ i, i < 5 → P (5 + i)) (hc : ∀ i, i < 5 → P (10 + i)) (hd : ∀ i, i < 5 → P (15 + i)) (he : ∀ i, i < 5 → P (20 + i)) (hf : ∀ i, i < 5 → P (25 + i)) (hg : ∀ i, i < 5 → P (30 + i)) (hh : ∀ i, 7 ≤ i → i ≤ 9 → P (28 + i)) : ∀ k, k < 38 → P k := by
  intro k hk
  by_cases h1 : k < 5
  · exact ha k h1
  by_cases h2 : k < 10
  · have := hb (k - 5) (by omega)
    rwa [show 5 + (k - 5) = k by omega] at this
  by_cases h3 : k < 15
  · have := hc (k - 10) (by omega)
    rwa [show 10 + (k - 10) = k by omega] at this
  by_cases h4 : k < 20
  · have := hd (k - 15) (by omega)
    rwa [show 15 + (k - 15) = k by omega] at this
  by_cases h5 : k < 25
  · have := he (k - 20) (by omega)
    rwa [show 20 + (k - 20) = k by omega] at this
  by_cases h6 : k < 30
  · have := hf (k - 25) (by omega)
    rwa [show 25 + (k - 25) = k by omega] at this
  by_cases h7 : k < 35
  · have := hg (k - 30) (by omega)
    rwa [show 30 + (k - 30) = k by omega] at this
  · have := hh (k - 28) (by omega) (by omega)
    rwa [show 28 + (k - 28) = k by omega] at this
theorem NW_iff : NW S ↔ ∀ k, k < 38 → S.1 426 k = srow S 24 k := by
  constructor
  · rintro ⟨a1, a2, a3, a4, a5, a6, a7, a8, a9, a10⟩
    refine k38 (fun i h => ?_) (fun i h => ?_) (fun i h => ?_) (fun i h => ?_) (fun i h => ?_) (fun i h => ?_) (fun i h => ?_) (fun i h h2 => ?_)
    · rw [sr_a h]; exact a1 i h
    · rw [sr_b h]; exact a2 i h
    · rw [sr_c h]; exact a3 i h
    · rw [sr_d h]; exact a4 i h
    · rw [sr_e h]; exact a5 i h
    · rw [sr_f h]; exact a6 i h
    · rw [sr_g h]; exact a7 i h
    · rw [sr_h h h2]
      have : i = 7 ∨ i = 8 ∨ i = 9 := by omega
      rcases this with rfl | rfl | rfl
      · exact a8
      · exact a9
      · exact a10
  · intro h
    refine ⟨fun i hi => ?_, fun i hi => ?_, fun i hi => ?_, fun i hi => ?_, fun i hi => ?_, fun i hi => ?_, fun i hi => ?_, ?_, ?_, ?_⟩
    · rw [h i (by omega), sr_a hi]
    · rw [h (5 + i) (by omega), sr_b hi]
    · rw [h (10 + i) (by omega), sr_c hi]
    · rw [h (15 + i) (by omega), sr_d hi]
    · rw [h (20 + i) (by omega), sr_e hi]
    · rw [h (25 + i) (by omega), sr_f hi]
    · rw [h (30 + i) (by omega), sr_g hi]
    · rw [h 35 (by omega)]; exact sr_h (i := 7) (by omega) (by omega)
    · rw [h 36 (by omega)]; exact sr_h (i := 8) (by omega) (by omega)
    · rw [h 37 (by omega)]; exact sr_h (i := 9) (by omega) (by omega)
theorem stEq_sr {oa ob : Nat} (h : stEq S1 oa S ob) : ∀ k, k < 38 → srow S1 oa k = srow S ob k := by
  refine k38 (fun i hi => ?_) (fun i hi => ?_) (fun i hi => ?_) (fun i hi => ?_) (fun i hi => ?_) (fun i hi => ?_) (fun i hi => ?_) (fun i h1 h2 => ?_)
  · rw [sr_a hi, sr_a hi]; exact h.1 1 (by omega) (by omega) i hi
  · rw [sr_b hi, sr_b hi]; exact h.1 2 (by omega) (by omega) i hi
  · rw [sr_c hi, sr_c hi]; exact h.1 5 (by omega) (by omega) i hi
  · rw [sr_d hi, sr_d hi]; exact h.1 3 (by omega) (by omega) i hi
  · rw [sr_e hi, sr_e hi]; exact h.1 4 (by omega) (by omega) i hi
  · rw [sr_f hi, sr_f hi]; exact h.1 6 (by omega) (by omega) i hi
  · rw [sr_g hi, sr_g hi]; exact h.1 7 (by omega) (by omega) i hi
  · rw [sr_h h1 h2, sr_h h1 h2]; exact h.2 i h1 h2
theorem sr_cg (h : ∀ j, j < 8 → S1.1 (o + j) = S.1 (o + j)) : srow S1 o = srow S o := by
  funext k
  have h0 := h 0 (by decide)
  rw [Nat.add_zero] at h0
  unfold srow
  rw [h 1 (by decide), h 2 (by decide), h 3 (by decide), h 4 (by decide), h 5 (by decide), h 6 (by decide), h 7 (by decide), h0]
end
/-- a State that can be -/
def WS (n : Nat) (v : Nat → Int32) : Prop := VN n (fun i => v (5 + i)) ∧ FD n (fun i => v (10 + i)) ∧ (∀ i, i < 5 → ∃ j, j ≤ 99 ∧ v (15 + i) = nI j) ∧ (∃ w, w ≤ 999 ∧ v 37 = nI w) ∧ ∀ i, n ≤ i → i < 5 → v i = 0
theorem VN.cg {n : Nat} {f g : Nat → Int32} (h : VN n f) (e : ∀ i, i < 5 → g i = f i) : VN n g := by
  intro i hi
  rw [e i hi]
  exact h i hi
theorem FD.cg {n : Nat} {f g : Nat → Int32} (h : FD n f) (e : ∀ i, i < 5 → g i = f i) : FD n g := by
  obtain ⟨F, h1, h2, h3⟩ := h
  exact ⟨F, fun i hi => by rw [e i hi]; exact h1 i hi, h2, h3⟩
theorem WS.cg {n : Nat} {v w : Nat → Int32} (h : WS n v) (e : ∀ k, k < 38 → w k = v k) : WS n w := by
  obtain ⟨h1, h2, h3, h4, h5⟩ := h
  refine ⟨h1.cg (fun i hi => e _ (by omega)), h2.cg (fun i hi => e _ (by omega)), fun i hi => ?_, ?_, fun i hn hi => ?_⟩
  · rw [e _ (by omega)]
    exact h3 i hi
  · rw [e _ (by omega)]
    exact h4
  · rw [e _ (by omega)]
    exact h5 i hn hi
/-- the ring and the reference's row of states -/
def HR (S : ovS) (n : Nat) : Prop := ∃ a u r : Nat, a < 41 ∧ u + r ≤ 40 ∧ S.1 32 2 = nI a ∧ S.1 32 0 = nI u ∧ S.1 32 1 = nI r ∧ S.1 412 45 = nI u ∧ S.1 412 46 = nI r ∧ (∀ k, k < 38 → srow S (34 + 8 * a) k = srow S 24 k) ∧ (∀ j, j < u → ∀ k, k < 38 → srow S (34 + 8 * ((a + 41 - u + j) % 41)) k = S.1 430 (40 * j + k)) ∧ (∀ j, j < r → ∀ k, k < 38 → srow S (34 + 8 * ((a + 1 + j) % 41)) k = S.1 430 (40 * (u + j) + k)) ∧ (∀ j, j < u + r → WS n (fun k => S.1 430 (40 * j + k)))
/-- the boxes -/
def BR (S : ovS) (n : Nat) : Prop := ∀ b, b < 3 → S.1 445 b = S.1 363 b ∧ (S.1 363 b = 0 ∨ ((∀ k, k < 38 → srow S (388 + 8 * b) k = S.1 446 (40 * b + k)) ∧ WS n (fun k => S.1 446 (40 * b + k))))
def sby (b : Nat) : Int32 := if b < 128 then nI b else nI b - 256
/-- the tape -/
def TP (S : ovS) : Prop := ∃ t, t ≤ 1600 ∧ S.1 0 1 = nI t ∧ S.1 412 1 = nI t ∧ ∀ i, i < t → ∃ b, b < 256 ∧ S.1 413 i = nI b ∧ S.1 1 i = sby b
def IC (S : ovS) (n m : Nat) : Prop := MX S n ∧ CD S m ∧ S.1 412 34 = nI m ∧ S.1 20 0 = S.1 412 21 ∧ WS n (srow S 24) ∧ HR S n ∧ BR S n ∧ (∃ c, RR S c) ∧ TP S ∧ S.1 0 3 = S.1 412 2 ∧ S.1 0 4 = S.1 412 3
def Ly (S : ovS) (n : Nat) : Prop := ∃ c, c ≤ n ∧ S.1 369 4 = nI c ∧ S.1 412 48 = nI c ∧ ∀ i, i < c → S.1 370 i = S.1 431 i
def Inv (S : ovS) : Prop := ∃ n m, IC S n m ∧ Ly S n
abbrev SCr : List Nat := [2, 3, 4, 5, 6, 7, 8, 9, 10, 13, 14, 15, 23, 364, 365, 366, 367, 368, 369, 370, 371, 372, 373, 374, 375, 376, 383, 384, 385, 386, 387, 412, 414, 415, 416, 419, 420, 421, 422, 423, 424, 427, 428, 429, 431, 432, 433, 440, 441, 442, 443, 444]
abbrev JK : List Nat := [1, 2, 3, 18, 21, 34, 35, 39, 45, 46, 63, 64]
/-- all that the invariant speaks of, but what lies there, is as it was -/
def KP (S S1 : ovS) : Prop := (∀ k, SCr.contains k = false → S1.1 k = S.1 k) ∧ (∀ j, JK.contains j = true → S1.1 412 j = S.1 412 j) ∧ S1.1 376 1 = S.1 376 1 ∧ S1.1 376 2 = S.1 376 2
theorem KP.rf {S : ovS} : KP S S := ⟨fun _ _ => rfl, fun _ _ => rfl, rfl, rfl⟩
theorem KP.tr {S S1 S2 : ovS} (h : KP S S1) (h2 : KP S1 S2) : KP S S2 := ⟨fun k hk => (h2.1 k hk).trans (h.1 k hk), fun j hj => (h2.2.1 j hj).trans (h.2.1 j hj), h2.2.2.1.trans h.2.2.1, h2.2.2.2.trans h.2.2.2⟩
theorem KP.fr {L : List Nat} {S S1 : ovS} (h : Fr L S S1) (hL : (L.all fun k => SCr.contains k) = true) (h2 : (L.contains 412 || L.contains 376) = false) : KP S S1 := by
  rw [Bool.or_eq_false_iff] at h2
  have e1 := h.1 412 h2.1
  have e2 := h.1 376 h2.2
  refine ⟨fun k hk => h.1 k ?_, fun j _ => by rw [e1], by rw [e2], by rw [e2]⟩
  cases hc : L.contains k with
  | false => rfl
  | true =>
    have h3 : k ∈ L := by simpa using hc
    have h4 := List.all_eq_true.mp hL k h3
    rw [hk] at h4
    cases h4
theorem KP.fj {L J : List Nat} {S S1 : ovS} (h : FJ L J S S1) (hL : (L.all fun k => SCr.contains k) = true) (h2 : L.contains 376 = false) (hJ : (JK.all fun k => !(J.contains k)) = true) : KP S S1 := by
  have e2 := h.1 376 h2 (by decide)
  refine ⟨fun k hk => h.1 k ?_ (fun e => by subst e; revert hk; decide), fun j hj => h.2.1 j ?_, by rw [e2], by rw [e2]⟩
  · cases hc : L.contains k with
    | false => rfl
    | true =>
      have h3 : k ∈ L := by simpa using hc
      have h4 := List.all_eq_true.mp hL k h3
      rw [hk] at h4
      cases h4
  · have h3 : j ∈ JK := by simpa using hj
    have h4 := List.all_eq_true.mp hJ j h3
    simpa using h4
theorem M7_sc : ∀ k, k ∈ M7 → SCr.contains k = true := by decide +kernel
theorem KP.fm {S S1 : ovS} (h : FM S S1) : KP S S1 := by
  have e2 := h.1 376 rfl
  refine ⟨fun k hk => h.1 k ?_, fun j hj => h.2.1 j (fun e => by subst e; revert hj; decide), by rw [e2], by rw [e2]⟩
  cases hc : M7.contains k with
  | false => rfl
  | true =>
    have h3 : k ∈ M7 := by simpa using hc
    have h4 := M7_sc k h3
    rw [hk] at h4
    cases h4
theorem KP.at {S S1 : ovS} (h : KP S S1) (k : Nat) (hk : SCr.contains k = false) : S1.1 k = S.1 k := h.1 k hk
theorem ring_nsc : ∀ a, a < 41 → ∀ j, j < 8 → SCr.contains (34 + 8 * a + j) = false := by decide +kernel
theorem box_nsc : ∀ b, b < 3 → ∀ j, j < 8 → SCr.contains (388 + 8 * b + j) = false := by decide +kernel
theorem now_nsc : ∀ j, j < 8 → SCr.contains (24 + j) = false := by decide +kernel
theorem MXr_nsc : ∀ k, k ∈ MXr → SCr.contains k = false := by decide +kernel
theorem RRr_nsc : ∀ k, k ∈ RRr → SCr.contains k = false := by decide +kernel
theorem MX.kp {S S1 : ovS} {n : Nat} (hM : MX S n) (h : KP S S1) : MX S1 n := hM.cg (fun k hk => h.1 k (MXr_nsc k hk)) (h.2.1 35 rfl) (h.2.1 18 rfl) (h.2.1 39 rfl)
theorem IC.kp {S S1 : ovS} {n m : Nat} (hI : IC S n m) (h : KP S S1) : IC S1 n m := by
  obtain ⟨hM, hD, h34, hU, hW, hH, hB, ⟨c, hR⟩, hT, hf1, hf2⟩ := hI
  have srn : srow S1 24 = srow S 24 := sr_cg (fun j hj => h.1 _ (now_nsc j hj))
  have srr : ∀ a, a < 41 → srow S1 (34 + 8 * a) = srow S (34 + 8 * a) := fun a ha => sr_cg (fun j hj => h.1 _ (ring_nsc a ha j hj))
  have srb : ∀ b, b < 3 → srow S1 (388 + 8 * b) = srow S (388 + 8 * b) := fun b hb => sr_cg (fun j hj => h.1 _ (box_nsc b hb j hj))
  refine ⟨hM.kp h, ?_, ?_, ?_, ?_, ?_, ?_, ⟨c, ?_⟩, ?_, ?_, ?_⟩
  · unfold CD
    rw [h.at 16 rfl]
    exact hD
  · rw [h.2.1 34 rfl]; exact h34
  · rw [h.at 20 rfl, h.2.1 21 rfl]; exact hU
  · rw [srn]; exact hW
  · obtain ⟨a, u, r, g1, g2, g3, g4, g5, g6, g7, g8, g9, g10, g11⟩ := hH
    refine ⟨a, u, r, g1, g2, by rw [h.at 32 rfl]; exact g3, by rw [h.at 32 rfl]; exact g4, by rw [h.at 32 rfl]; exact g5, by rw [h.2.1 45 rfl]; exact g6, by rw [h.2.1 46 rfl]; exact g7, ?_, ?_, ?_, ?_⟩
    · rw [srr a g1, srn]; exact g8
    · intro j hj k hk
      rw [srr _ (Nat.mod_lt _ (by decide)), h.at 430 rfl]
      exact g9 j hj k hk
    · intro j hj k hk
      rw [srr _ (Nat.mod_lt _ (by decide)), h.at 430 rfl]
      exact g10 j hj k hk
    · rw [h.at 430 rfl]
      exact g11
  · intro b hb
    rw [h.at 445 rfl, h.at 363 rfl, h.at 446 rfl, srb b hb]
    exact hB b hb
  · exact hR.cg (fun k hk => h.1 k (RRr_nsc k hk)) h.2.2.1 h.2.2.2 (h.2.1 63 rfl) (h.2.1 64 rfl)
  · unfold TP
    rw [h.at 0 rfl, h.2.1 1 rfl, h.at 413 rfl, h.at 1 rfl]
    exact hT
  · rw [h.at 0 rfl, h.2.1 2 rfl]; exact hf1
  · rw [h.at 0 rfl, h.2.1 3 rfl]; exact hf2
theorem IC.cx {S : ovS} {n m : Nat} (h : IC S n m) : CX S n := h.1.1
theorem IC.vn {S : ovS} {n m : Nat} (h : IC S n m) : VN n (S.1 26) := h.1.2.2.2.2.2.1
theorem IC.n5 {S : ovS} {n m : Nat} (h : IC S n m) : n ≤ 5 := h.1.n5
theorem IC.m5 {S : ovS} {n m : Nat} (h : IC S n m) : m ≤ 5 := h.2.1.2
theorem IC.fok {S : ovS} {n m : Nat} (h : IC S n m) : FOk S := h.1.1.2.2
theorem IC.sty {S : ovS} {n m : Nat} (h : IC S n m) : ∀ s, s < n → ∃ j, j ≤ 99 ∧ S.1 27 s = nI j := by
  intro s hs
  have hn := h.n5
  have := h.2.2.2.2.1.2.2.1 s (by omega)
  rw [sr_d (by omega)] at this
  exact this
/-- the lies kept: four places -/
theorem Ly.cg {S S1 : ovS} {n : Nat} (h : Ly S n) (h1 : S1.1 369 4 = S.1 369 4) (h2 : S1.1 412 48 = S.1 412 48) (h3 : S1.1 370 = S.1 370) (h4 : S1.1 431 = S.1 431) : Ly S1 n := by
  unfold Ly
  rw [h1, h2, h3, h4]
  exact h
