/-! the script's loop -/
theorem swi_at {β : Type} {x : Int32} {k : Nat} {A : List (Option β)} {D M : Option β} (hx : x.toInt = k) (h : A[k]? = some M) : swi x 0 A D = M := by
  unfold swi
  rw [if_neg (by omega), hx, show ((k : Int) - 0).toNat = k by omega, h]
  rfl
theorem swi_no {β : Type} {x : Int32} {k : Nat} {A : List (Option β)} {D : Option β} (hx : x.toInt = k) (h : A.length ≤ k) : swi x 0 A D = D := by
  unfold swi
  rw [if_neg (by omega), hx, show ((k : Int) - 0).toNat = k by omega, List.getElem?_eq_none h]
  rfl
theorem lg_self (x : Int64) : lg_cmp x x = 0 := by
  unfold lg_cmp
  simp
theorem and63 (y : Int32) : 0 ≤ (y &&& 63).toInt := by
  have h1 : (y &&& 63).toBitVec.toNat = y.toBitVec.toNat % 64 := by
    rw [Int32.toBitVec_and, BitVec.toNat_and]
    exact Nat.and_two_pow_sub_one_eq_mod _ 6
  have h2 : (y &&& 63).toInt = (y &&& 63).toBitVec.toInt := rfl
  rw [h2, BitVec.toInt_eq_toNat_cond, h1]
  generalize y.toBitVec.toNat = n
  split <;> omega
theorem sld_at {L k : Nat} {xs : Nat → Int32} (hk : k < L) (hL : L ≤ 3072) : sld L xs (nI k) = some (xs k) := by
  unfold sld
  rw [nI_clamp (by omega), if_pos ⟨nI_pos (by omega), hk⟩]
section Lp
variable {w : Wd} {L j : Nat} {xs : Nat → Int32}
theorem law_go (hL : L ≤ 3072) (hj : 6 * j + 6 ≤ L) : ¬ (Int32.ofNat L - 6) < nI (6 * j) := by
  have t6 : (6 : Int32).toInt = 6 := rfl
  rw [ti_lt, show Int32.ofNat L = nI L from rfl, ti_sub (by rw [nI_toInt (by omega), t6]; omega) (by rw [nI_toInt (by omega), t6]; omega), nI_toInt (by omega), nI_toInt (by omega), t6]
  omega
theorem law_no (hL : L ≤ 3072) (hj : L < 6 * j + 6) (hj2 : j ≤ 600) : (Int32.ofNat L - 6) < nI (6 * j) := by
  have t6 : (6 : Int32).toInt = 6 := rfl
  rw [ti_lt, show Int32.ofNat L = nI L from rfl, ti_sub (by rw [nI_toInt (by omega), t6]; omega) (by rw [nI_toInt (by omega), t6]; omega), nI_toInt (by omega), nI_toInt (by omega), t6]
  omega
theorem law_c0 (hJ : lawI w) (hL : L ≤ 3072) (hj : 6 * j + 6 ≤ L) (hx : (xs (6 * j) &&& 63).toInt = (0 : Nat)) : ∃ w', L_law_b18 L xs 0 274 (nI (6 * j), hp w) = some (.inl (nI (6 * (j + 1)), hp w')) ∧ lawI w' := by
  obtain ⟨st, tm, x, hi, im, rf, ss, tp, ft, h⟩ := hJ
  obtain ⟨y, w1, w2, c1, c2, hI⟩ := call_terms h (xs (6 * j + 1)) (xs (6 * j + 2))
  have e0 := sld_at (xs := xs) (k := 6 * j) (L := L) (by omega) hL
  have e1 : sld L xs (nI (6 * j) + 1) = some (xs (6 * j + 1)) := by rw [show nI (6 * j) + 1 = nI (6 * j + 1) from nI_add _ 1]; exact sld_at (by omega) hL
  have e2 : sld L xs (nI (6 * j) + 2) = some (xs (6 * j + 2)) := by rw [show nI (6 * j) + 2 = nI (6 * j + 2) from nI_add _ 2]; exact sld_at (by omega) hL
  refine ⟨w2, ?_, hI⟩
  unfold L_law_b18
  dsimp only
  rw [if_neg (law_go hL hj), e0, Option.bind_some, swi_at (k := 0) hx rfl, e1, Option.bind_some, e2, Option.bind_some, k0, Option.bind_some, c1, bnd2_some, Option.bind_some, Option.bind_some, k274, Option.bind_some, c2, bnd2_some, if_pos rfl]
  unfold L_law_j1134
  rw [show nI (6 * j) + 6 = nI (6 * (j + 1)) from nI_add _ 6]
theorem law_c1 (hJ : lawI w) (hL : L ≤ 3072) (hj : 6 * j + 6 ≤ L) (hx : (xs (6 * j) &&& 63).toInt = (1 : Nat)) : ∃ w', L_law_b18 L xs 0 274 (nI (6 * j), hp w) = some (.inl (nI (6 * (j + 1)), hp w')) ∧ lawI w' := by
  obtain ⟨st, tm, x, hi, im, rf, ss, tp, ft, h⟩ := hJ
  obtain ⟨y, w1, w2, c1, c2, hI⟩ := call_feed h (xs (6 * j + 1)) (xs (6 * j + 2)) (xs (6 * j + 3)) (xs (6 * j + 4)) (xs (6 * j + 5))
  have e0 := sld_at (xs := xs) (k := 6 * j) (L := L) (by omega) hL
  have e1 : sld L xs (nI (6 * j) + 1) = some (xs (6 * j + 1)) := by rw [show nI (6 * j) + 1 = nI (6 * j + 1) from nI_add _ 1]; exact sld_at (by omega) hL
  have e2 : sld L xs (nI (6 * j) + 2) = some (xs (6 * j + 2)) := by rw [show nI (6 * j) + 2 = nI (6 * j + 2) from nI_add _ 2]; exact sld_at (by omega) hL
  have e3 : sld L xs (nI (6 * j) + 3) = some (xs (6 * j + 3)) := by rw [show nI (6 * j) + 3 = nI (6 * j + 3) from nI_add _ 3]; exact sld_at (by omega) hL
  have e4 : sld L xs (nI (6 * j) + 4) = some (xs (6 * j + 4)) := by rw [show nI (6 * j) + 4 = nI (6 * j + 4) from nI_add _ 4]; exact sld_at (by omega) hL
  have e5 : sld L xs (nI (6 * j) + 5) = some (xs (6 * j + 5)) := by rw [show nI (6 * j) + 5 = nI (6 * j + 5) from nI_add _ 5]; exact sld_at (by omega) hL
  refine ⟨w2, ?_, hI⟩
  unfold L_law_b18
  dsimp only
  rw [if_neg (law_go hL hj), e0, Option.bind_some, swi_at (k := 1) hx rfl, e1, Option.bind_some, e2, Option.bind_some, e3, Option.bind_some, e4, Option.bind_some, e5, Option.bind_some, k0, Option.bind_some, c1, bnd2_some, Option.bind_some, Option.bind_some, Option.bind_some, Option.bind_some, Option.bind_some, k274, Option.bind_some, c2, bnd2_some, if_pos rfl]
  unfold L_law_j1134
  rw [show nI (6 * j) + 6 = nI (6 * (j + 1)) from nI_add _ 6]
theorem law_c2 (hJ : lawI w) (hL : L ≤ 3072) (hj : 6 * j + 6 ≤ L) (hx : (xs (6 * j) &&& 63).toInt = (2 : Nat)) : ∃ w', L_law_b18 L xs 0 274 (nI (6 * j), hp w) = some (.inl (nI (6 * (j + 1)), hp w')) ∧ lawI w' := by
  obtain ⟨st, tm, x, hi, im, rf, ss, tp, ft, h⟩ := hJ
  obtain ⟨y, w1, w2, c1, c2, hI⟩ := call_end h (xs (6 * j + 1))
  have e0 := sld_at (xs := xs) (k := 6 * j) (L := L) (by omega) hL
  have e1 : sld L xs (nI (6 * j) + 1) = some (xs (6 * j + 1)) := by rw [show nI (6 * j) + 1 = nI (6 * j + 1) from nI_add _ 1]; exact sld_at (by omega) hL
  refine ⟨w2, ?_, hI⟩
  unfold L_law_b18
  dsimp only
  rw [if_neg (law_go hL hj), e0, Option.bind_some, swi_at (k := 2) hx rfl, e1, Option.bind_some, k0, Option.bind_some, c1, bnd2_some, Option.bind_some, k274, Option.bind_some, c2, bnd2_some, if_pos rfl]
  unfold L_law_j1134
  rw [show nI (6 * j) + 6 = nI (6 * (j + 1)) from nI_add _ 6]
theorem law_c3 (hJ : lawI w) (hL : L ≤ 3072) (hj : 6 * j + 6 ≤ L) (hx : (xs (6 * j) &&& 63).toInt = (3 : Nat)) : ∃ w', L_law_b18 L xs 0 274 (nI (6 * j), hp w) = some (.inl (nI (6 * (j + 1)), hp w')) ∧ lawI w' := by
  obtain ⟨st, tm, x, hi, im, rf, ss, tp, ft, h⟩ := hJ
  obtain ⟨y, w1, w2, c1, c2, hI⟩ := call_read h
  have e0 := sld_at (xs := xs) (k := 6 * j) (L := L) (by omega) hL
  refine ⟨w2, ?_, hI⟩
  unfold L_law_b18
  dsimp only
  rw [if_neg (law_go hL hj), e0, Option.bind_some, swi_at (k := 3) hx rfl, k0, Option.bind_some, c1, bnd2_some, k274, Option.bind_some, c2, bnd2_some, if_pos rfl]
  unfold L_law_j1134
  rw [show nI (6 * j) + 6 = nI (6 * (j + 1)) from nI_add _ 6]
theorem law_c4 (hJ : lawI w) (hL : L ≤ 3072) (hj : 6 * j + 6 ≤ L) (hx : (xs (6 * j) &&& 63).toInt = (4 : Nat)) : ∃ w', L_law_b18 L xs 0 274 (nI (6 * j), hp w) = some (.inl (nI (6 * (j + 1)), hp w')) ∧ lawI w' := by
  obtain ⟨st, tm, x, hi, im, rf, ss, tp, ft, h⟩ := hJ
  obtain ⟨y, w1, w2, c1, c2, hI⟩ := call_fault h
  have e0 := sld_at (xs := xs) (k := 6 * j) (L := L) (by omega) hL
  refine ⟨w2, ?_, hI⟩
  unfold L_law_b18
  dsimp only
  rw [if_neg (law_go hL hj), e0, Option.bind_some, swi_at (k := 4) hx rfl, k0, Option.bind_some, c1, bnd2_some, k274, Option.bind_some, c2, bnd2_some, if_pos rfl]
  unfold L_law_j1134
  rw [show nI (6 * j) + 6 = nI (6 * (j + 1)) from nI_add _ 6]
theorem law_c5 (hJ : lawI w) (hL : L ≤ 3072) (hj : 6 * j + 6 ≤ L) (hx : (xs (6 * j) &&& 63).toInt = (5 : Nat)) : ∃ w', L_law_b18 L xs 0 274 (nI (6 * j), hp w) = some (.inl (nI (6 * (j + 1)), hp w')) ∧ lawI w' := by
  obtain ⟨st, tm, x, hi, im, rf, ss, tp, ft, h⟩ := hJ
  obtain ⟨y, w1, w2, c1, c2, hI⟩ := call_plant h (xs (6 * j + 1)) (xs (6 * j + 2)) (xs (6 * j + 3))
  have e0 := sld_at (xs := xs) (k := 6 * j) (L := L) (by omega) hL
  have e1 : sld L xs (nI (6 * j) + 1) = some (xs (6 * j + 1)) := by rw [show nI (6 * j) + 1 = nI (6 * j + 1) from nI_add _ 1]; exact sld_at (by omega) hL
  have e2 : sld L xs (nI (6 * j) + 2) = some (xs (6 * j + 2)) := by rw [show nI (6 * j) + 2 = nI (6 * j + 2) from nI_add _ 2]; exact sld_at (by omega) hL
  have e3 : sld L xs (nI (6 * j) + 3) = some (xs (6 * j + 3)) := by rw [show nI (6 * j) + 3 = nI (6 * j + 3) from nI_add _ 3]; exact sld_at (by omega) hL
  refine ⟨w2, ?_, hI⟩
  unfold L_law_b18
  dsimp only
  rw [if_neg (law_go hL hj), e0, Option.bind_some, swi_at (k := 5) hx rfl, e1, Option.bind_some, e2, Option.bind_some, e3, Option.bind_some, k0, Option.bind_some, c1, bnd2_some, Option.bind_some, Option.bind_some, Option.bind_some, k274, Option.bind_some, c2, bnd2_some, if_pos rfl]
  unfold L_law_j1134
  rw [show nI (6 * j) + 6 = nI (6 * (j + 1)) from nI_add _ 6]
theorem law_c6 (hJ : lawI w) (hL : L ≤ 3072) (hj : 6 * j + 6 ≤ L) (hx : (xs (6 * j) &&& 63).toInt = (6 : Nat)) : ∃ w', L_law_b18 L xs 0 274 (nI (6 * j), hp w) = some (.inl (nI (6 * (j + 1)), hp w')) ∧ lawI w' := by
  obtain ⟨st, tm, x, hi, im, rf, ss, tp, ft, h⟩ := hJ
  obtain ⟨y, w1, w2, c1, c2, hI⟩ := call_site h
  have e0 := sld_at (xs := xs) (k := 6 * j) (L := L) (by omega) hL
  refine ⟨w2, ?_, hI⟩
  unfold L_law_b18
  dsimp only
  rw [if_neg (law_go hL hj), e0, Option.bind_some, swi_at (k := 6) hx rfl, k0, Option.bind_some, c1, bnd2_some, k274, Option.bind_some, c2, bnd2_some, if_pos rfl]
  unfold L_law_j1134
  rw [show nI (6 * j) + 6 = nI (6 * (j + 1)) from nI_add _ 6]
theorem law_c7 (hJ : lawI w) (hL : L ≤ 3072) (hj : 6 * j + 6 ≤ L) (hx : (xs (6 * j) &&& 63).toInt = (7 : Nat)) : ∃ w', L_law_b18 L xs 0 274 (nI (6 * j), hp w) = some (.inl (nI (6 * (j + 1)), hp w')) ∧ lawI w' := by
  obtain ⟨st, tm, x, hi, im, rf, ss, tp, ft, h⟩ := hJ
  obtain ⟨y, w1, w2, c1, c2, hI⟩ := call_road h (xs (6 * j + 1)) (xs (6 * j + 2)) (xs (6 * j + 3))
  have e0 := sld_at (xs := xs) (k := 6 * j) (L := L) (by omega) hL
  have e1 : sld L xs (nI (6 * j) + 1) = some (xs (6 * j + 1)) := by rw [show nI (6 * j) + 1 = nI (6 * j + 1) from nI_add _ 1]; exact sld_at (by omega) hL
  have e2 : sld L xs (nI (6 * j) + 2) = some (xs (6 * j + 2)) := by rw [show nI (6 * j) + 2 = nI (6 * j + 2) from nI_add _ 2]; exact sld_at (by omega) hL
  have e3 : sld L xs (nI (6 * j) + 3) = some (xs (6 * j + 3)) := by rw [show nI (6 * j) + 3 = nI (6 * j + 3) from nI_add _ 3]; exact sld_at (by omega) hL
  refine ⟨w2, ?_, hI⟩
  unfold L_law_b18
  dsimp only
  rw [if_neg (law_go hL hj), e0, Option.bind_some, swi_at (k := 7) hx rfl, e1, Option.bind_some, e2, Option.bind_some, e3, Option.bind_some, k0, Option.bind_some, c1, bnd2_some, Option.bind_some, Option.bind_some, Option.bind_some, k274, Option.bind_some, c2, bnd2_some, if_pos rfl]
  unfold L_law_j1134
  rw [show nI (6 * j) + 6 = nI (6 * (j + 1)) from nI_add _ 6]
theorem law_c8 (hJ : lawI w) (hL : L ≤ 3072) (hj : 6 * j + 6 ≤ L) (hx : (xs (6 * j) &&& 63).toInt = (8 : Nat)) : ∃ w', L_law_b18 L xs 0 274 (nI (6 * j), hp w) = some (.inl (nI (6 * (j + 1)), hp w')) ∧ lawI w' := by
  obtain ⟨st, tm, x, hi, im, rf, ss, tp, ft, h⟩ := hJ
  obtain ⟨y, w1, w2, c1, c2, hI⟩ := call_scene h (xs (6 * j + 1))
  have e0 := sld_at (xs := xs) (k := 6 * j) (L := L) (by omega) hL
  have e1 : sld L xs (nI (6 * j) + 1) = some (xs (6 * j + 1)) := by rw [show nI (6 * j) + 1 = nI (6 * j + 1) from nI_add _ 1]; exact sld_at (by omega) hL
  refine ⟨w2, ?_, hI⟩
  unfold L_law_b18
  dsimp only
  rw [if_neg (law_go hL hj), e0, Option.bind_some, swi_at (k := 8) hx rfl, e1, Option.bind_some, k0, Option.bind_some, c1, bnd2_some, Option.bind_some, k274, Option.bind_some, c2, bnd2_some, if_pos rfl]
  unfold L_law_j1134
  rw [show nI (6 * j) + 6 = nI (6 * (j + 1)) from nI_add _ 6]
theorem law_c9 (hJ : lawI w) (hL : L ≤ 3072) (hj : 6 * j + 6 ≤ L) (hx : (xs (6 * j) &&& 63).toInt = (9 : Nat)) : ∃ w', L_law_b18 L xs 0 274 (nI (6 * j), hp w) = some (.inl (nI (6 * (j + 1)), hp w')) ∧ lawI w' := by
  obtain ⟨st, tm, x, hi, im, rf, ss, tp, ft, h⟩ := hJ
  obtain ⟨y, w1, w2, c1, c2, hI⟩ := call_need h (xs (6 * j + 1)) (xs (6 * j + 2)) (xs (6 * j + 3))
  have e0 := sld_at (xs := xs) (k := 6 * j) (L := L) (by omega) hL
  have e1 : sld L xs (nI (6 * j) + 1) = some (xs (6 * j + 1)) := by rw [show nI (6 * j) + 1 = nI (6 * j + 1) from nI_add _ 1]; exact sld_at (by omega) hL
  have e2 : sld L xs (nI (6 * j) + 2) = some (xs (6 * j + 2)) := by rw [show nI (6 * j) + 2 = nI (6 * j + 2) from nI_add _ 2]; exact sld_at (by omega) hL
  have e3 : sld L xs (nI (6 * j) + 3) = some (xs (6 * j + 3)) := by rw [show nI (6 * j) + 3 = nI (6 * j + 3) from nI_add _ 3]; exact sld_at (by omega) hL
  refine ⟨w2, ?_, hI⟩
  unfold L_law_b18
  dsimp only
  rw [if_neg (law_go hL hj), e0, Option.bind_some, swi_at (k := 9) hx rfl, e1, Option.bind_some, e2, Option.bind_some, e3, Option.bind_some, k0, Option.bind_some, c1, bnd2_some, Option.bind_some, Option.bind_some, Option.bind_some, k274, Option.bind_some, c2, bnd2_some, if_pos rfl]
  unfold L_law_j1134
  rw [show nI (6 * j) + 6 = nI (6 * (j + 1)) from nI_add _ 6]
theorem law_c10 (hJ : lawI w) (hL : L ≤ 3072) (hj : 6 * j + 6 ≤ L) (hx : (xs (6 * j) &&& 63).toInt = (10 : Nat)) : ∃ w', L_law_b18 L xs 0 274 (nI (6 * j), hp w) = some (.inl (nI (6 * (j + 1)), hp w')) ∧ lawI w' := by
  obtain ⟨st, tm, x, hi, im, rf, ss, tp, ft, h⟩ := hJ
  obtain ⟨y, w1, w2, c1, c2, hI⟩ := call_change h (xs (6 * j + 1)) (xs (6 * j + 2)) (xs (6 * j + 3))
  have e0 := sld_at (xs := xs) (k := 6 * j) (L := L) (by omega) hL
  have e1 : sld L xs (nI (6 * j) + 1) = some (xs (6 * j + 1)) := by rw [show nI (6 * j) + 1 = nI (6 * j + 1) from nI_add _ 1]; exact sld_at (by omega) hL
  have e2 : sld L xs (nI (6 * j) + 2) = some (xs (6 * j + 2)) := by rw [show nI (6 * j) + 2 = nI (6 * j + 2) from nI_add _ 2]; exact sld_at (by omega) hL
  have e3 : sld L xs (nI (6 * j) + 3) = some (xs (6 * j + 3)) := by rw [show nI (6 * j) + 3 = nI (6 * j + 3) from nI_add _ 3]; exact sld_at (by omega) hL
  refine ⟨w2, ?_, hI⟩
  unfold L_law_b18
  dsimp only
  rw [if_neg (law_go hL hj), e0, Option.bind_some, swi_at (k := 10) hx rfl, e1, Option.bind_some, e2, Option.bind_some, e3, Option.bind_some, k0, Option.bind_some, c1, bnd2_some, Option.bind_some, Option.bind_some, Option.bind_some, k274, Option.bind_some, c2, bnd2_some, if_pos rfl]
  unfold L_law_j1134
  rw [show nI (6 * j) + 6 = nI (6 * (j + 1)) from nI_add _ 6]
theorem law_c11 (hJ : lawI w) (hL : L ≤ 3072) (hj : 6 * j + 6 ≤ L) (hx : (xs (6 * j) &&& 63).toInt = (11 : Nat)) : ∃ w', L_law_b18 L xs 0 274 (nI (6 * j), hp w) = some (.inl (nI (6 * (j + 1)), hp w')) ∧ lawI w' := by
  obtain ⟨st, tm, x, hi, im, rf, ss, tp, ft, h⟩ := hJ
  obtain ⟨y, w1, w2, c1, c2, hI⟩ := call_round h
  have e0 := sld_at (xs := xs) (k := 6 * j) (L := L) (by omega) hL
  refine ⟨w2, ?_, hI⟩
  unfold L_law_b18
  dsimp only
  rw [if_neg (law_go hL hj), e0, Option.bind_some, swi_at (k := 11) hx rfl, k0, Option.bind_some, c1, bnd2_some, k274, Option.bind_some, c2, bnd2_some, if_pos rfl]
  unfold L_law_j1134
  rw [show nI (6 * j) + 6 = nI (6 * (j + 1)) from nI_add _ 6]
theorem law_c12 (hJ : lawI w) (hL : L ≤ 3072) (hj : 6 * j + 6 ≤ L) (hx : (xs (6 * j) &&& 63).toInt = (12 : Nat)) : ∃ w', L_law_b18 L xs 0 274 (nI (6 * j), hp w) = some (.inl (nI (6 * (j + 1)), hp w')) ∧ lawI w' := by
  obtain ⟨st, tm, x, hi, im, rf, ss, tp, ft, h⟩ := hJ
  obtain ⟨y, w1, w2, c1, c2, hI⟩ := call_go h (xs (6 * j + 1))
  have e0 := sld_at (xs := xs) (k := 6 * j) (L := L) (by omega) hL
  have e1 : sld L xs (nI (6 * j) + 1) = some (xs (6 * j + 1)) := by rw [show nI (6 * j) + 1 = nI (6 * j + 1) from nI_add _ 1]; exact sld_at (by omega) hL
  refine ⟨w2, ?_, hI⟩
  unfold L_law_b18
  dsimp only
  rw [if_neg (law_go hL hj), e0, Option.bind_some, swi_at (k := 12) hx rfl, e1, Option.bind_some, k0, Option.bind_some, c1, bnd2_some, Option.bind_some, k274, Option.bind_some, c2, bnd2_some, if_pos rfl]
  unfold L_law_j1134
  rw [show nI (6 * j) + 6 = nI (6 * (j + 1)) from nI_add _ 6]
theorem law_c13 (hJ : lawI w) (hL : L ≤ 3072) (hj : 6 * j + 6 ≤ L) (hx : (xs (6 * j) &&& 63).toInt = (13 : Nat)) : ∃ w', L_law_b18 L xs 0 274 (nI (6 * j), hp w) = some (.inl (nI (6 * (j + 1)), hp w')) ∧ lawI w' := by
  obtain ⟨st, tm, x, hi, im, rf, ss, tp, ft, h⟩ := hJ
  obtain ⟨y, w1, w2, c1, c2, hI⟩ := call_clear h
  have e0 := sld_at (xs := xs) (k := 6 * j) (L := L) (by omega) hL
  refine ⟨w2, ?_, hI⟩
  unfold L_law_b18
  dsimp only
  rw [if_neg (law_go hL hj), e0, Option.bind_some, swi_at (k := 13) hx rfl, k0, Option.bind_some, c1, bnd2_some, k274, Option.bind_some, c2, bnd2_some, if_pos rfl]
  unfold L_law_j1134
  rw [show nI (6 * j) + 6 = nI (6 * (j + 1)) from nI_add _ 6]
theorem law_c14 (hJ : lawI w) (hL : L ≤ 3072) (hj : 6 * j + 6 ≤ L) (hx : (xs (6 * j) &&& 63).toInt = (14 : Nat)) : ∃ w', L_law_b18 L xs 0 274 (nI (6 * j), hp w) = some (.inl (nI (6 * (j + 1)), hp w')) ∧ lawI w' := by
  obtain ⟨st, tm, x, hi, im, rf, ss, tp, ft, h⟩ := hJ
  obtain ⟨y, w1, w2, c1, c2, hI⟩ := call_undo h
  have e0 := sld_at (xs := xs) (k := 6 * j) (L := L) (by omega) hL
  refine ⟨w2, ?_, hI⟩
  unfold L_law_b18
  dsimp only
  rw [if_neg (law_go hL hj), e0, Option.bind_some, swi_at (k := 14) hx rfl, k0, Option.bind_some, c1, bnd2_some, k274, Option.bind_some, c2, bnd2_some, if_pos rfl]
  unfold L_law_j1134
  rw [show nI (6 * j) + 6 = nI (6 * (j + 1)) from nI_add _ 6]
theorem law_c15 (hJ : lawI w) (hL : L ≤ 3072) (hj : 6 * j + 6 ≤ L) (hx : (xs (6 * j) &&& 63).toInt = (15 : Nat)) : ∃ w', L_law_b18 L xs 0 274 (nI (6 * j), hp w) = some (.inl (nI (6 * (j + 1)), hp w')) ∧ lawI w' := by
  obtain ⟨st, tm, x, hi, im, rf, ss, tp, ft, h⟩ := hJ
  obtain ⟨y, w1, w2, c1, c2, hI⟩ := call_of h (xs (6 * j + 1)) (xs (6 * j + 2))
  have e0 := sld_at (xs := xs) (k := 6 * j) (L := L) (by omega) hL
  have e1 : sld L xs (nI (6 * j) + 1) = some (xs (6 * j + 1)) := by rw [show nI (6 * j) + 1 = nI (6 * j + 1) from nI_add _ 1]; exact sld_at (by omega) hL
  have e2 : sld L xs (nI (6 * j) + 2) = some (xs (6 * j + 2)) := by rw [show nI (6 * j) + 2 = nI (6 * j + 2) from nI_add _ 2]; exact sld_at (by omega) hL
  refine ⟨w2, ?_, hI⟩
  unfold L_law_b18
  dsimp only
  rw [if_neg (law_go hL hj), e0, Option.bind_some, swi_at (k := 15) hx rfl, e1, Option.bind_some, e2, Option.bind_some, k0, Option.bind_some, c1, bnd2_some, Option.bind_some, Option.bind_some, k274, Option.bind_some, c2, bnd2_some, if_pos rfl]
  unfold L_law_j1134
  rw [show nI (6 * j) + 6 = nI (6 * (j + 1)) from nI_add _ 6]
theorem law_c16 (hJ : lawI w) (hL : L ≤ 3072) (hj : 6 * j + 6 ≤ L) (hx : (xs (6 * j) &&& 63).toInt = (16 : Nat)) : ∃ w', L_law_b18 L xs 0 274 (nI (6 * j), hp w) = some (.inl (nI (6 * (j + 1)), hp w')) ∧ lawI w' := by
  obtain ⟨st, tm, x, hi, im, rf, ss, tp, ft, h⟩ := hJ
  obtain ⟨y, w1, w2, c1, c2, hI⟩ := call_told h (xs (6 * j + 1)) (xs (6 * j + 2))
  have e0 := sld_at (xs := xs) (k := 6 * j) (L := L) (by omega) hL
  have e1 : sld L xs (nI (6 * j) + 1) = some (xs (6 * j + 1)) := by rw [show nI (6 * j) + 1 = nI (6 * j + 1) from nI_add _ 1]; exact sld_at (by omega) hL
  have e2 : sld L xs (nI (6 * j) + 2) = some (xs (6 * j + 2)) := by rw [show nI (6 * j) + 2 = nI (6 * j + 2) from nI_add _ 2]; exact sld_at (by omega) hL
  refine ⟨w2, ?_, hI⟩
  unfold L_law_b18
  dsimp only
  rw [if_neg (law_go hL hj), e0, Option.bind_some, swi_at (k := 16) hx rfl, e1, Option.bind_some, e2, Option.bind_some, k0, Option.bind_some, c1, bnd2_some, Option.bind_some, Option.bind_some, k274, Option.bind_some, c2, bnd2_some, if_pos rfl]
  unfold L_law_j1134
  rw [show nI (6 * j) + 6 = nI (6 * (j + 1)) from nI_add _ 6]
theorem law_c17 (hJ : lawI w) (hL : L ≤ 3072) (hj : 6 * j + 6 ≤ L) (hx : (xs (6 * j) &&& 63).toInt = (17 : Nat)) : ∃ w', L_law_b18 L xs 0 274 (nI (6 * j), hp w) = some (.inl (nI (6 * (j + 1)), hp w')) ∧ lawI w' := by
  obtain ⟨st, tm, x, hi, im, rf, ss, tp, ft, h⟩ := hJ
  obtain ⟨y, w1, w2, c1, c2, hI⟩ := call_now h (xs (6 * j + 1))
  have e0 := sld_at (xs := xs) (k := 6 * j) (L := L) (by omega) hL
  have e1 : sld L xs (nI (6 * j) + 1) = some (xs (6 * j + 1)) := by rw [show nI (6 * j) + 1 = nI (6 * j + 1) from nI_add _ 1]; exact sld_at (by omega) hL
  refine ⟨w2, ?_, hI⟩
  unfold L_law_b18
  dsimp only
  rw [if_neg (law_go hL hj), e0, Option.bind_some, swi_at (k := 17) hx rfl, e1, Option.bind_some, k0, Option.bind_some, c1, bnd2_some, Option.bind_some, k274, Option.bind_some, c2, bnd2_some, if_pos rfl]
  unfold L_law_j1134
  rw [show nI (6 * j) + 6 = nI (6 * (j + 1)) from nI_add _ 6]
theorem law_c18 (hJ : lawI w) (hL : L ≤ 3072) (hj : 6 * j + 6 ≤ L) (hx : (xs (6 * j) &&& 63).toInt = (18 : Nat)) : ∃ w', L_law_b18 L xs 0 274 (nI (6 * j), hp w) = some (.inl (nI (6 * (j + 1)), hp w')) ∧ lawI w' := by
  obtain ⟨st, tm, x, hi, im, rf, ss, tp, ft, h⟩ := hJ
  obtain ⟨y, w1, w2, c1, c2, hI⟩ := call_gap h
  have e0 := sld_at (xs := xs) (k := 6 * j) (L := L) (by omega) hL
  refine ⟨w2, ?_, hI⟩
  unfold L_law_b18
  dsimp only
  rw [if_neg (law_go hL hj), e0, Option.bind_some, swi_at (k := 18) hx rfl, k0, Option.bind_some, c1, bnd2_some, k274, Option.bind_some, c2, bnd2_some, if_pos rfl]
  unfold L_law_j1134
  rw [show nI (6 * j) + 6 = nI (6 * (j + 1)) from nI_add _ 6]
theorem law_c19 (hJ : lawI w) (hL : L ≤ 3072) (hj : 6 * j + 6 ≤ L) (hx : (xs (6 * j) &&& 63).toInt = (19 : Nat)) : ∃ w', L_law_b18 L xs 0 274 (nI (6 * j), hp w) = some (.inl (nI (6 * (j + 1)), hp w')) ∧ lawI w' := by
  obtain ⟨st, tm, x, hi, im, rf, ss, tp, ft, h⟩ := hJ
  obtain ⟨y, w1, w2, c1, c2, hI⟩ := call_cut h (xs (6 * j + 1)) (xs (6 * j + 2))
  have e0 := sld_at (xs := xs) (k := 6 * j) (L := L) (by omega) hL
  have e1 : sld L xs (nI (6 * j) + 1) = some (xs (6 * j + 1)) := by rw [show nI (6 * j) + 1 = nI (6 * j + 1) from nI_add _ 1]; exact sld_at (by omega) hL
  have e2 : sld L xs (nI (6 * j) + 2) = some (xs (6 * j + 2)) := by rw [show nI (6 * j) + 2 = nI (6 * j + 2) from nI_add _ 2]; exact sld_at (by omega) hL
  refine ⟨w2, ?_, hI⟩
  unfold L_law_b18
  dsimp only
  rw [if_neg (law_go hL hj), e0, Option.bind_some, swi_at (k := 19) hx rfl, e1, Option.bind_some, e2, Option.bind_some, k0, Option.bind_some, c1, bnd2_some, Option.bind_some, Option.bind_some, k274, Option.bind_some, c2, bnd2_some, if_pos rfl]
  unfold L_law_j1134
  rw [show nI (6 * j) + 6 = nI (6 * (j + 1)) from nI_add _ 6]
theorem law_c20 (hJ : lawI w) (hL : L ≤ 3072) (hj : 6 * j + 6 ≤ L) (hx : (xs (6 * j) &&& 63).toInt = (20 : Nat)) : ∃ w', L_law_b18 L xs 0 274 (nI (6 * j), hp w) = some (.inl (nI (6 * (j + 1)), hp w')) ∧ lawI w' := by
  obtain ⟨st, tm, x, hi, im, rf, ss, tp, ft, h⟩ := hJ
  obtain ⟨y, w1, w2, c1, c2, hI⟩ := call_tells h (xs (6 * j + 1)) (xs (6 * j + 2))
  have e0 := sld_at (xs := xs) (k := 6 * j) (L := L) (by omega) hL
  have e1 : sld L xs (nI (6 * j) + 1) = some (xs (6 * j + 1)) := by rw [show nI (6 * j) + 1 = nI (6 * j + 1) from nI_add _ 1]; exact sld_at (by omega) hL
  have e2 : sld L xs (nI (6 * j) + 2) = some (xs (6 * j + 2)) := by rw [show nI (6 * j) + 2 = nI (6 * j + 2) from nI_add _ 2]; exact sld_at (by omega) hL
  refine ⟨w2, ?_, hI⟩
  unfold L_law_b18
  dsimp only
  rw [if_neg (law_go hL hj), e0, Option.bind_some, swi_at (k := 20) hx rfl, e1, Option.bind_some, e2, Option.bind_some, k0, Option.bind_some, c1, bnd2_some, Option.bind_some, Option.bind_some, k274, Option.bind_some, c2, bnd2_some, if_pos rfl]
  unfold L_law_j1134
  rw [show nI (6 * j) + 6 = nI (6 * (j + 1)) from nI_add _ 6]
theorem law_c21 (hJ : lawI w) (hL : L ≤ 3072) (hj : 6 * j + 6 ≤ L) (hx : (xs (6 * j) &&& 63).toInt = (21 : Nat)) : ∃ w', L_law_b18 L xs 0 274 (nI (6 * j), hp w) = some (.inl (nI (6 * (j + 1)), hp w')) ∧ lawI w' := by
  obtain ⟨st, tm, x, hi, im, rf, ss, tp, ft, h⟩ := hJ
  obtain ⟨y, w1, w2, c1, c2, hI⟩ := call_exact h (xs (6 * j + 1))
  have e0 := sld_at (xs := xs) (k := 6 * j) (L := L) (by omega) hL
  have e1 : sld L xs (nI (6 * j) + 1) = some (xs (6 * j + 1)) := by rw [show nI (6 * j) + 1 = nI (6 * j + 1) from nI_add _ 1]; exact sld_at (by omega) hL
  refine ⟨w2, ?_, hI⟩
  unfold L_law_b18
  dsimp only
  rw [if_neg (law_go hL hj), e0, Option.bind_some, swi_at (k := 21) hx rfl, e1, Option.bind_some, k0, Option.bind_some, c1, bnd2_some, Option.bind_some, k274, Option.bind_some, c2, bnd2_some, if_pos rfl]
  unfold L_law_j1134
  rw [show nI (6 * j) + 6 = nI (6 * (j + 1)) from nI_add _ 6]
theorem law_c22 (hJ : lawI w) (hL : L ≤ 3072) (hj : 6 * j + 6 ≤ L) (hx : (xs (6 * j) &&& 63).toInt = (22 : Nat)) : ∃ w', L_law_b18 L xs 0 274 (nI (6 * j), hp w) = some (.inl (nI (6 * (j + 1)), hp w')) ∧ lawI w' := by
  obtain ⟨st, tm, x, hi, im, rf, ss, tp, ft, h⟩ := hJ
  obtain ⟨y, w1, w2, c1, c2, hI⟩ := call_price h (xs (6 * j + 1)) (xs (6 * j + 2))
  have e0 := sld_at (xs := xs) (k := 6 * j) (L := L) (by omega) hL
  have e1 : sld L xs (nI (6 * j) + 1) = some (xs (6 * j + 1)) := by rw [show nI (6 * j) + 1 = nI (6 * j + 1) from nI_add _ 1]; exact sld_at (by omega) hL
  have e2 : sld L xs (nI (6 * j) + 2) = some (xs (6 * j + 2)) := by rw [show nI (6 * j) + 2 = nI (6 * j + 2) from nI_add _ 2]; exact sld_at (by omega) hL
  refine ⟨w2, ?_, hI⟩
  unfold L_law_b18
  dsimp only
  rw [if_neg (law_go hL hj), e0, Option.bind_some, swi_at (k := 22) hx rfl, e1, Option.bind_some, e2, Option.bind_some, k0, Option.bind_some, c1, bnd2_some, Option.bind_some, Option.bind_some, k274, Option.bind_some, c2, bnd2_some, if_pos rfl]
  unfold L_law_j1134
  rw [show nI (6 * j) + 6 = nI (6 * (j + 1)) from nI_add _ 6]
theorem law_c23 (hJ : lawI w) (hL : L ≤ 3072) (hj : 6 * j + 6 ≤ L) (hx : (xs (6 * j) &&& 63).toInt = (23 : Nat)) : ∃ w', L_law_b18 L xs 0 274 (nI (6 * j), hp w) = some (.inl (nI (6 * (j + 1)), hp w')) ∧ lawI w' := by
  obtain ⟨st, tm, x, hi, im, rf, ss, tp, ft, h⟩ := hJ
  obtain ⟨y, w1, w2, c1, c2, hI⟩ := call_lack h (xs (6 * j + 1)) (xs (6 * j + 2))
  have e0 := sld_at (xs := xs) (k := 6 * j) (L := L) (by omega) hL
  have e1 : sld L xs (nI (6 * j) + 1) = some (xs (6 * j + 1)) := by rw [show nI (6 * j) + 1 = nI (6 * j + 1) from nI_add _ 1]; exact sld_at (by omega) hL
  have e2 : sld L xs (nI (6 * j) + 2) = some (xs (6 * j + 2)) := by rw [show nI (6 * j) + 2 = nI (6 * j + 2) from nI_add _ 2]; exact sld_at (by omega) hL
  refine ⟨w2, ?_, hI⟩
  unfold L_law_b18
  dsimp only
  rw [if_neg (law_go hL hj), e0, Option.bind_some, swi_at (k := 23) hx rfl, e1, Option.bind_some, e2, Option.bind_some, k0, Option.bind_some, c1, bnd2_some, Option.bind_some, Option.bind_some, k274, Option.bind_some, c2, bnd2_some, if_pos rfl]
  unfold L_law_j1134
  rw [show nI (6 * j) + 6 = nI (6 * (j + 1)) from nI_add _ 6]
theorem law_c24 (hJ : lawI w) (hL : L ≤ 3072) (hj : 6 * j + 6 ≤ L) (hx : (xs (6 * j) &&& 63).toInt = (24 : Nat)) : ∃ w', L_law_b18 L xs 0 274 (nI (6 * j), hp w) = some (.inl (nI (6 * (j + 1)), hp w')) ∧ lawI w' := by
  obtain ⟨st, tm, x, hi, im, rf, ss, tp, ft, h⟩ := hJ
  obtain ⟨y, w1, w2, c1, c2, hI⟩ := call_rate h (xs (6 * j + 1)) (xs (6 * j + 2)) (xs (6 * j + 3))
  have e0 := sld_at (xs := xs) (k := 6 * j) (L := L) (by omega) hL
  have e1 : sld L xs (nI (6 * j) + 1) = some (xs (6 * j + 1)) := by rw [show nI (6 * j) + 1 = nI (6 * j + 1) from nI_add _ 1]; exact sld_at (by omega) hL
  have e2 : sld L xs (nI (6 * j) + 2) = some (xs (6 * j + 2)) := by rw [show nI (6 * j) + 2 = nI (6 * j + 2) from nI_add _ 2]; exact sld_at (by omega) hL
  have e3 : sld L xs (nI (6 * j) + 3) = some (xs (6 * j + 3)) := by rw [show nI (6 * j) + 3 = nI (6 * j + 3) from nI_add _ 3]; exact sld_at (by omega) hL
  refine ⟨w2, ?_, hI⟩
  unfold L_law_b18
  dsimp only
  rw [if_neg (law_go hL hj), e0, Option.bind_some, swi_at (k := 24) hx rfl, e1, Option.bind_some, e2, Option.bind_some, e3, Option.bind_some, k0, Option.bind_some, c1, bnd2_some, Option.bind_some, Option.bind_some, Option.bind_some, k274, Option.bind_some, c2, bnd2_some, if_pos rfl]
  unfold L_law_j1134
  rw [show nI (6 * j) + 6 = nI (6 * (j + 1)) from nI_add _ 6]
theorem law_c25 (hJ : lawI w) (hL : L ≤ 3072) (hj : 6 * j + 6 ≤ L) (hx : (xs (6 * j) &&& 63).toInt = (25 : Nat)) : ∃ w', L_law_b18 L xs 0 274 (nI (6 * j), hp w) = some (.inl (nI (6 * (j + 1)), hp w')) ∧ lawI w' := by
  obtain ⟨st, tm, x, hi, im, rf, ss, tp, ft, h⟩ := hJ
  obtain ⟨y, w1, w2, c1, c2, hI⟩ := call_floor h (xs (6 * j + 1))
  have e0 := sld_at (xs := xs) (k := 6 * j) (L := L) (by omega) hL
  have e1 : sld L xs (nI (6 * j) + 1) = some (xs (6 * j + 1)) := by rw [show nI (6 * j) + 1 = nI (6 * j + 1) from nI_add _ 1]; exact sld_at (by omega) hL
  refine ⟨w2, ?_, hI⟩
  unfold L_law_b18
  dsimp only
  rw [if_neg (law_go hL hj), e0, Option.bind_some, swi_at (k := 25) hx rfl, e1, Option.bind_some, k0, Option.bind_some, c1, bnd2_some, Option.bind_some, k274, Option.bind_some, c2, bnd2_some, if_pos rfl]
  unfold L_law_j1134
  rw [show nI (6 * j) + 6 = nI (6 * (j + 1)) from nI_add _ 6]
theorem law_c26 (hJ : lawI w) (hL : L ≤ 3072) (hj : 6 * j + 6 ≤ L) (hx : (xs (6 * j) &&& 63).toInt = (26 : Nat)) : ∃ w', L_law_b18 L xs 0 274 (nI (6 * j), hp w) = some (.inl (nI (6 * (j + 1)), hp w')) ∧ lawI w' := by
  obtain ⟨st, tm, x, hi, im, rf, ss, tp, ft, h⟩ := hJ
  obtain ⟨y, w1, w2, c1, c2, hI⟩ := call_total h (xs (6 * j + 1))
  have e0 := sld_at (xs := xs) (k := 6 * j) (L := L) (by omega) hL
  have e1 : sld L xs (nI (6 * j) + 1) = some (xs (6 * j + 1)) := by rw [show nI (6 * j) + 1 = nI (6 * j + 1) from nI_add _ 1]; exact sld_at (by omega) hL
  refine ⟨w2, ?_, hI⟩
  unfold L_law_b18
  dsimp only
  rw [if_neg (law_go hL hj), e0, Option.bind_some, swi_at (k := 26) hx rfl, e1, Option.bind_some, k0, Option.bind_some, c1, bnd2_some, Option.bind_some, k274, Option.bind_some, c2, bnd2_some, if_pos rfl]
  unfold L_law_j1134
  rw [show nI (6 * j) + 6 = nI (6 * (j + 1)) from nI_add _ 6]
theorem law_c27 (hJ : lawI w) (hL : L ≤ 3072) (hj : 6 * j + 6 ≤ L) (hx : (xs (6 * j) &&& 63).toInt = (27 : Nat)) : ∃ w', L_law_b18 L xs 0 274 (nI (6 * j), hp w) = some (.inl (nI (6 * (j + 1)), hp w')) ∧ lawI w' := by
  obtain ⟨st, tm, x, hi, im, rf, ss, tp, ft, h⟩ := hJ
  obtain ⟨y, w1, w2, c1, c2, hI⟩ := call_least h (xs (6 * j + 1))
  have e0 := sld_at (xs := xs) (k := 6 * j) (L := L) (by omega) hL
  have e1 : sld L xs (nI (6 * j) + 1) = some (xs (6 * j + 1)) := by rw [show nI (6 * j) + 1 = nI (6 * j + 1) from nI_add _ 1]; exact sld_at (by omega) hL
  refine ⟨w2, ?_, hI⟩
  unfold L_law_b18
  dsimp only
  rw [if_neg (law_go hL hj), e0, Option.bind_some, swi_at (k := 27) hx rfl, e1, Option.bind_some, k0, Option.bind_some, c1, bnd2_some, Option.bind_some, k274, Option.bind_some, c2, bnd2_some, if_pos rfl]
  unfold L_law_j1134
  rw [show nI (6 * j) + 6 = nI (6 * (j + 1)) from nI_add _ 6]
theorem law_c28 (hJ : lawI w) (hL : L ≤ 3072) (hj : 6 * j + 6 ≤ L) (hx : (xs (6 * j) &&& 63).toInt = (28 : Nat)) : ∃ w', L_law_b18 L xs 0 274 (nI (6 * j), hp w) = some (.inl (nI (6 * (j + 1)), hp w')) ∧ lawI w' := by
  obtain ⟨st, tm, x, hi, im, rf, ss, tp, ft, h⟩ := hJ
  obtain ⟨y, w1, w2, c1, c2, hI⟩ := call_regret h (xs (6 * j + 1))
  have e0 := sld_at (xs := xs) (k := 6 * j) (L := L) (by omega) hL
  have e1 : sld L xs (nI (6 * j) + 1) = some (xs (6 * j + 1)) := by rw [show nI (6 * j) + 1 = nI (6 * j + 1) from nI_add _ 1]; exact sld_at (by omega) hL
  refine ⟨w2, ?_, hI⟩
  unfold L_law_b18
  dsimp only
  rw [if_neg (law_go hL hj), e0, Option.bind_some, swi_at (k := 28) hx rfl, e1, Option.bind_some, k0, Option.bind_some, c1, bnd2_some, Option.bind_some, k274, Option.bind_some, c2, bnd2_some, if_pos rfl]
  unfold L_law_j1134
  rw [show nI (6 * j) + 6 = nI (6 * (j + 1)) from nI_add _ 6]
theorem law_c29 (hJ : lawI w) (hL : L ≤ 3072) (hj : 6 * j + 6 ≤ L) (hx : (xs (6 * j) &&& 63).toInt = (29 : Nat)) : ∃ w', L_law_b18 L xs 0 274 (nI (6 * j), hp w) = some (.inl (nI (6 * (j + 1)), hp w')) ∧ lawI w' := by
  obtain ⟨st, tm, x, hi, im, rf, ss, tp, ft, h⟩ := hJ
  obtain ⟨y, w1, w2, c1, c2, hI⟩ := call_mean h (xs (6 * j + 1))
  have e0 := sld_at (xs := xs) (k := 6 * j) (L := L) (by omega) hL
  have e1 : sld L xs (nI (6 * j) + 1) = some (xs (6 * j + 1)) := by rw [show nI (6 * j) + 1 = nI (6 * j + 1) from nI_add _ 1]; exact sld_at (by omega) hL
  refine ⟨w2, ?_, hI⟩
  unfold L_law_b18
  dsimp only
  rw [if_neg (law_go hL hj), e0, Option.bind_some, swi_at (k := 29) hx rfl, e1, Option.bind_some, k0, Option.bind_some, c1, bnd2_some, Option.bind_some, k274, Option.bind_some, c2, bnd2_some, if_pos (lg_self y)]
  unfold L_law_j1134
  rw [show nI (6 * j) + 6 = nI (6 * (j + 1)) from nI_add _ 6]
theorem law_c30 (hJ : lawI w) (hL : L ≤ 3072) (hj : 6 * j + 6 ≤ L) (hx : (xs (6 * j) &&& 63).toInt = (30 : Nat)) : ∃ w', L_law_b18 L xs 0 274 (nI (6 * j), hp w) = some (.inl (nI (6 * (j + 1)), hp w')) ∧ lawI w' := by
  obtain ⟨st, tm, x, hi, im, rf, ss, tp, ft, h⟩ := hJ
  obtain ⟨y, w1, w2, c1, c2, hI⟩ := call_would h (xs (6 * j + 1)) (xs (6 * j + 2))
  have e0 := sld_at (xs := xs) (k := 6 * j) (L := L) (by omega) hL
  have e1 : sld L xs (nI (6 * j) + 1) = some (xs (6 * j + 1)) := by rw [show nI (6 * j) + 1 = nI (6 * j + 1) from nI_add _ 1]; exact sld_at (by omega) hL
  have e2 : sld L xs (nI (6 * j) + 2) = some (xs (6 * j + 2)) := by rw [show nI (6 * j) + 2 = nI (6 * j + 2) from nI_add _ 2]; exact sld_at (by omega) hL
  refine ⟨w2, ?_, hI⟩
  unfold L_law_b18
  dsimp only
  rw [if_neg (law_go hL hj), e0, Option.bind_some, swi_at (k := 30) hx rfl, e1, Option.bind_some, e2, Option.bind_some, k0, Option.bind_some, c1, bnd2_some, Option.bind_some, Option.bind_some, k274, Option.bind_some, c2, bnd2_some, if_pos rfl]
  unfold L_law_j1134
  rw [show nI (6 * j) + 6 = nI (6 * (j + 1)) from nI_add _ 6]
theorem law_c31 (hJ : lawI w) (hL : L ≤ 3072) (hj : 6 * j + 6 ≤ L) (hx : (xs (6 * j) &&& 63).toInt = (31 : Nat)) : ∃ w', L_law_b18 L xs 0 274 (nI (6 * j), hp w) = some (.inl (nI (6 * (j + 1)), hp w')) ∧ lawI w' := by
  obtain ⟨st, tm, x, hi, im, rf, ss, tp, ft, h⟩ := hJ
  obtain ⟨y, w1, w2, c1, c2, hI⟩ := call_image h (xs (6 * j + 1))
  have e0 := sld_at (xs := xs) (k := 6 * j) (L := L) (by omega) hL
  have e1 : sld L xs (nI (6 * j) + 1) = some (xs (6 * j + 1)) := by rw [show nI (6 * j) + 1 = nI (6 * j + 1) from nI_add _ 1]; exact sld_at (by omega) hL
  refine ⟨w2, ?_, hI⟩
  unfold L_law_b18
  dsimp only
  rw [if_neg (law_go hL hj), e0, Option.bind_some, swi_at (k := 31) hx rfl, e1, Option.bind_some, k0, Option.bind_some, c1, bnd2_some, Option.bind_some, k274, Option.bind_some, c2, bnd2_some, if_pos rfl]
  unfold L_law_j1134
  rw [show nI (6 * j) + 6 = nI (6 * (j + 1)) from nI_add _ 6]
theorem law_c32 (hJ : lawI w) (hL : L ≤ 3072) (hj : 6 * j + 6 ≤ L) (hx : (xs (6 * j) &&& 63).toInt = (32 : Nat)) : ∃ w', L_law_b18 L xs 0 274 (nI (6 * j), hp w) = some (.inl (nI (6 * (j + 1)), hp w')) ∧ lawI w' := by
  obtain ⟨st, tm, x, hi, im, rf, ss, tp, ft, h⟩ := hJ
  obtain ⟨y, w1, w2, c1, c2, hI⟩ := call_back h (xs (6 * j + 1))
  have e0 := sld_at (xs := xs) (k := 6 * j) (L := L) (by omega) hL
  have e1 : sld L xs (nI (6 * j) + 1) = some (xs (6 * j + 1)) := by rw [show nI (6 * j) + 1 = nI (6 * j + 1) from nI_add _ 1]; exact sld_at (by omega) hL
  refine ⟨w2, ?_, hI⟩
  unfold L_law_b18
  dsimp only
  rw [if_neg (law_go hL hj), e0, Option.bind_some, swi_at (k := 32) hx rfl, e1, Option.bind_some, k0, Option.bind_some, c1, bnd2_some, Option.bind_some, k274, Option.bind_some, c2, bnd2_some, if_pos rfl]
  unfold L_law_j1134
  rw [show nI (6 * j) + 6 = nI (6 * (j + 1)) from nI_add _ 6]
theorem law_c33 (hJ : lawI w) (hL : L ≤ 3072) (hj : 6 * j + 6 ≤ L) (hx : (xs (6 * j) &&& 63).toInt = (33 : Nat)) : ∃ w', L_law_b18 L xs 0 274 (nI (6 * j), hp w) = some (.inl (nI (6 * (j + 1)), hp w')) ∧ lawI w' := by
  obtain ⟨st, tm, x, hi, im, rf, ss, tp, ft, h⟩ := hJ
  obtain ⟨y, w1, w2, c1, c2, hI⟩ := call_count h (xs (6 * j + 1))
  have e0 := sld_at (xs := xs) (k := 6 * j) (L := L) (by omega) hL
  have e1 : sld L xs (nI (6 * j) + 1) = some (xs (6 * j + 1)) := by rw [show nI (6 * j) + 1 = nI (6 * j + 1) from nI_add _ 1]; exact sld_at (by omega) hL
  refine ⟨w2, ?_, hI⟩
  unfold L_law_b18
  dsimp only
  rw [if_neg (law_go hL hj), e0, Option.bind_some, swi_at (k := 33) hx rfl, e1, Option.bind_some, k0, Option.bind_some, c1, bnd2_some, Option.bind_some, k274, Option.bind_some, c2, bnd2_some, if_pos rfl]
  unfold L_law_j1134
  rw [show nI (6 * j) + 6 = nI (6 * (j + 1)) from nI_add _ 6]
theorem law_c34 (hJ : lawI w) (hL : L ≤ 3072) (hj : 6 * j + 6 ≤ L) (hx : (xs (6 * j) &&& 63).toInt = (34 : Nat)) : ∃ w', L_law_b18 L xs 0 274 (nI (6 * j), hp w) = some (.inl (nI (6 * (j + 1)), hp w')) ∧ lawI w' := by
  obtain ⟨st, tm, x, hi, im, rf, ss, tp, ft, h⟩ := hJ
  obtain ⟨y, w1, w2, c1, c2, hI⟩ := call_status h
  have e0 := sld_at (xs := xs) (k := 6 * j) (L := L) (by omega) hL
  refine ⟨w2, ?_, hI⟩
  unfold L_law_b18
  dsimp only
  rw [if_neg (law_go hL hj), e0, Option.bind_some, swi_at (k := 34) hx rfl, k0, Option.bind_some, c1, bnd2_some, k274, Option.bind_some, c2, bnd2_some, if_pos rfl]
  unfold L_law_j1134
  rw [show nI (6 * j) + 6 = nI (6 * (j + 1)) from nI_add _ 6]
theorem law_d (hJ : lawI w) (hL : L ≤ 3072) (hj : 6 * j + 6 ≤ L) {k : Nat} (hk : 35 ≤ k) (hx : (xs (6 * j) &&& 63).toInt = k) : ∃ w', L_law_b18 L xs 0 274 (nI (6 * j), hp w) = some (.inl (nI (6 * (j + 1)), hp w')) ∧ lawI w' := by
  have e0 := sld_at (xs := xs) (k := 6 * j) (L := L) (by omega) hL
  refine ⟨w, ?_, hJ⟩
  unfold L_law_b18
  dsimp only
  rw [if_neg (law_go hL hj), e0, Option.bind_some]
  refine (swi_no hx ?_).trans ?_
  · show 35 ≤ k
    exact hk
  unfold L_law_j1134
  rw [show nI (6 * j) + 6 = nI (6 * (j + 1)) from nI_add _ 6]
theorem law_body (hJ : lawI w) (hL : L ≤ 3072) (hj : 6 * j + 6 ≤ L) : ∃ w', L_law_b18 L xs 0 274 (nI (6 * j), hp w) = some (.inl (nI (6 * (j + 1)), hp w')) ∧ lawI w' := by
  obtain ⟨k, hx⟩ : ∃ k : Nat, (xs (6 * j) &&& 63).toInt = k := ⟨(xs (6 * j) &&& 63).toInt.toNat, by have := and63 (xs (6 * j)); omega⟩
  by_cases hk : 35 ≤ k
  · exact law_d hJ hL hj hk hx
  · have : k = 0 ∨ k = 1 ∨ k = 2 ∨ k = 3 ∨ k = 4 ∨ k = 5 ∨ k = 6 ∨ k = 7 ∨ k = 8 ∨ k = 9 ∨ k = 10 ∨ k = 11 ∨ k = 12 ∨ k = 13 ∨ k = 14 ∨ k = 15 ∨ k = 16 ∨ k = 17 ∨ k = 18 ∨ k = 19 ∨ k = 20 ∨ k = 21 ∨ k = 22 ∨ k = 23 ∨ k = 24 ∨ k = 25 ∨ k = 26 ∨ k = 27 ∨ k = 28 ∨ k = 29 ∨ k = 30 ∨ k = 31 ∨ k = 32 ∨ k = 33 ∨ k = 34 := by omega
    rcases this with rfl | rfl | rfl | rfl | rfl | rfl | rfl | rfl | rfl | rfl | rfl | rfl | rfl | rfl | rfl | rfl | rfl | rfl | rfl | rfl | rfl | rfl | rfl | rfl | rfl | rfl | rfl | rfl | rfl | rfl | rfl | rfl | rfl | rfl | rfl
    · exact law_c0 hJ hL hj hx
    · exact law_c1 hJ hL hj hx
    · exact law_c2 hJ hL hj hx
    · exact law_c3 hJ hL hj hx
    · exact law_c4 hJ hL hj hx
    · exact law_c5 hJ hL hj hx
    · exact law_c6 hJ hL hj hx
    · exact law_c7 hJ hL hj hx
    · exact law_c8 hJ hL hj hx
    · exact law_c9 hJ hL hj hx
    · exact law_c10 hJ hL hj hx
    · exact law_c11 hJ hL hj hx
    · exact law_c12 hJ hL hj hx
    · exact law_c13 hJ hL hj hx
    · exact law_c14 hJ hL hj hx
    · exact law_c15 hJ hL hj hx
    · exact law_c16 hJ hL hj hx
    · exact law_c17 hJ hL hj hx
    · exact law_c18 hJ hL hj hx
    · exact law_c19 hJ hL hj hx
    · exact law_c20 hJ hL hj hx
    · exact law_c21 hJ hL hj hx
    · exact law_c22 hJ hL hj hx
    · exact law_c23 hJ hL hj hx
    · exact law_c24 hJ hL hj hx
    · exact law_c25 hJ hL hj hx
    · exact law_c26 hJ hL hj hx
    · exact law_c27 hJ hL hj hx
    · exact law_c28 hJ hL hj hx
    · exact law_c29 hJ hL hj hx
    · exact law_c30 hJ hL hj hx
    · exact law_c31 hJ hL hj hx
    · exact law_c32 hJ hL hj hx
    · exact law_c33 hJ hL hj hx
    · exact law_c34 hJ hL hj hx
theorem law_loop (hJ : lawI w) (hL : L ≤ 3072) : ∃ i w', iter (L_law_b18 L xs 0 274) Lmax (0, hp w) = some (i, hp w') := by
  obtain ⟨q, i1, i, w', rfl⟩ := iter_I (body := L_law_b18 L xs 0 274) (fun j s => ∃ W, s = (nI (6 * j), hp W) ∧ lawI W) (fun r => ∃ i W, r = (i, hp W)) (L / 6) (s0 := (0, hp w)) (by omega) ⟨w, rfl, hJ⟩ (by
    rintro j s hj ⟨W, rfl, hW⟩
    left
    obtain ⟨V, v1, v2⟩ := law_body (xs := xs) hW hL (j := j) (by omega)
    exact ⟨_, v1, V, rfl, v2⟩) (by
    rintro s ⟨W, rfl, hW⟩
    refine ⟨(nI (6 * (L / 6)), hp W), ?_, _, W, rfl⟩
    unfold L_law_b18
    dsimp only
    rw [if_pos (law_no hL (by omega) (by omega))])
  exact ⟨i, w', i1⟩
end Lp
