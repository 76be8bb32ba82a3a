/-! the reference: new cuts -/
def nwM (w : Wd) : Nat := (w.2 274 27).toNatClampNeg
def nwC (w : Wd) : List (List Int32) := (List.range (nwM w)).map (fun i => slc (w.1 290) (13 * i) 13)
def frN (w w' : Wd) : Prop := (∀ i, i ≠ 274 → i ≠ 290 → w'.1 i = w.1 i ∧ w'.2 i = w.2 i) ∧ w'.1 274 = w.1 274 ∧ (∀ k, k ≠ 27 → w'.2 274 k = w.2 274 k)
theorem Mod_laysNew_w {w : Wd} {x y : Int32} {M : Nat} (hw : WL w) (hM : w.2 274 27 = nI M) (hM4 : M < 4) : ∃ w', Mod_laysNew 274 x y (hp w) = some ((), hp w') ∧ WL w' ∧ frN w w' ∧ w'.2 274 27 = nI (M + 1) ∧ nwC w' = nwC w ++ [ctOf x y 0 (w.1 287) (w.1 288)] := by
  have L := l290 hw
  have e13 : (13 : Int32) * nI M = nI (13 * M) := nI_mul 13 M
  obtain ⟨W0, hW0⟩ : ∃ W, W = wA (wA (wA w 290 ((w.1 290).set (13 * M) x)) 290 (((w.1 290).set (13 * M) x).set (13 * M + 1) y)) 290 ((((w.1 290).set (13 * M) x).set (13 * M + 1) y).set (13 * M + 2) 0) := ⟨_, rfl⟩
  have w0 : WL W0 := by
    rw [hW0]
    refine WL.A (WL.A (WL.A hw ?_) ?_) ?_ <;> simp [L] <;> rfl
  have f0 : ∀ i, i ≠ 290 → W0.1 i = w.1 i := fun i hi => by rw [hW0, wA_n hi, wA_n hi, wA_n hi]
  have F0 : W0.2 = w.2 := by rw [hW0]; rfl
  have A0 : W0.1 290 = (((w.1 290).set (13 * M) x).set (13 * M + 1) y).set (13 * M + 2) 0 := by rw [hW0, wA_s]
  obtain ⟨q, i1, W1, rfl, h1, g1, k1, o1, b1⟩ := iter_I (body := Mod_laysNew_b36 274 x y (nI (13 * M))) (fun j st => ∃ W, st = (nI j, hp W) ∧ WL W ∧ (∀ i, i ≠ 290 → W.1 i = w.1 i) ∧ W.2 = w.2 ∧ (∀ k, (k < 13 * M + 3 ∨ 13 * M + 7 ≤ k) → (W.1 290).getD k 0 = (W0.1 290).getD k 0) ∧ ∀ p, p < j → (W.1 290).getD (13 * M + 3 + p) 0 = (w.1 287).getD p 0) (fun q => ∃ W, q = (nI 4, hp W) ∧ WL W ∧ (∀ i, i ≠ 290 → W.1 i = w.1 i) ∧ W.2 = w.2 ∧ (∀ k, (k < 13 * M + 3 ∨ 13 * M + 7 ≤ k) → (W.1 290).getD k 0 = (W0.1 290).getD k 0) ∧ ∀ p, p < 4 → (W.1 290).getD (13 * M + 3 + p) 0 = (w.1 287).getD p 0) 4 (s0 := (0, hp W0)) (by omega) ⟨W0, rfl, w0, f0, F0, fun _ _ => rfl, fun _ h => absurd h (by omega)⟩ (by
    rintro j st hj ⟨W, rfl, hW, hA, hF, ho, hb⟩
    left
    have hcn : ¬ (4 : Int32) ≤ nI j := nI_ge (b := 4) hj (by omega)
    have LW := l290 hW
    have L7 := l287 hW
    have a : ald 0 (hp W) 287 (nI j) = some ((w.1 287).getD j 0) := by rw [ald_w (j := j) s287 rfl (by omega) (by omega), hA 287 (by omega)]
    have e : nI (13 * M) + 3 + nI j = nI (13 * M + 3 + j) := by rw [show nI (13 * M) + 3 = nI (13 * M + 3) from nI_add _ 3, nI_add]
    simp only [Mod_laysNew_b36, if_neg hcn, c274_26, c274_23, a, Option.bind_some, e]
    rw [ast_w (j := 13 * M + 3 + j) s290 rfl (by omega) (by omega)]
    simp only [Option.bind_some, nI_1]
    refine ⟨_, rfl, _, rfl, hW.S, fun i hi => by rw [wA_n hi]; exact hA i hi, hF, fun k hk => ?_, fun p hp' => ?_⟩
    · rw [wA_s, gD_set, if_neg (by omega)]; exact ho k hk
    · rw [wA_s, gD_set]
      by_cases h : j = p
      · subst h; rw [if_pos ⟨rfl, by omega⟩]; rfl
      · rw [if_neg (by omega)]; exact hb p (by omega)) (by
    rintro st ⟨W, rfl, h⟩
    exact ⟨(nI 4, hp W), by simp only [Mod_laysNew_b36, if_pos (show (4 : Int32) ≤ nI 4 by decide)], W, rfl, h⟩)
  obtain ⟨q, i2, W2, rfl, h2, g2, k2, o2, b2⟩ := iter_I (body := Mod_laysNew_b69 274 x y (nI (13 * M))) (fun j st => ∃ W, st = (nI j, hp W) ∧ WL W ∧ (∀ i, i ≠ 290 → W.1 i = w.1 i) ∧ W.2 = w.2 ∧ (∀ k, (k < 13 * M + 7 ∨ 13 * M + 13 ≤ k) → (W.1 290).getD k 0 = (W1.1 290).getD k 0) ∧ ∀ s, s < j → (W.1 290).getD (13 * M + 7 + s) 0 = (w.1 288).getD s 0) (fun q => ∃ W, q = (nI 6, hp W) ∧ WL W ∧ (∀ i, i ≠ 290 → W.1 i = w.1 i) ∧ W.2 = w.2 ∧ (∀ k, (k < 13 * M + 7 ∨ 13 * M + 13 ≤ k) → (W.1 290).getD k 0 = (W1.1 290).getD k 0) ∧ ∀ s, s < 6 → (W.1 290).getD (13 * M + 7 + s) 0 = (w.1 288).getD s 0) 6 (s0 := (0, hp W1)) (by omega) ⟨W1, rfl, h1, g1, k1, fun _ _ => rfl, fun _ h => absurd h (by omega)⟩ (by
    rintro j st hj ⟨W, rfl, hW, hA, hF, ho, hb⟩
    left
    have hcn : ¬ (6 : Int32) ≤ nI j := nI_ge (b := 6) hj (by omega)
    have LW := l290 hW
    have L8 := l288 hW
    have a : ald 0 (hp W) 288 (nI j) = some ((w.1 288).getD j 0) := by rw [ald_w (j := j) s288 rfl (by omega) (by omega), hA 288 (by omega)]
    have e : nI (13 * M) + 7 + nI j = nI (13 * M + 7 + j) := by rw [show nI (13 * M) + 7 = nI (13 * M + 7) from nI_add _ 7, nI_add]
    simp only [Mod_laysNew_b69, if_neg hcn, c274_26, c274_24, a, Option.bind_some, e]
    rw [ast_w (j := 13 * M + 7 + j) s290 rfl (by omega) (by omega)]
    simp only [Option.bind_some, nI_1]
    refine ⟨_, rfl, _, rfl, hW.S, fun i hi => by rw [wA_n hi]; exact hA i hi, hF, fun k hk => ?_, fun p hp' => ?_⟩
    · rw [wA_s, gD_set, if_neg (by omega)]; exact ho k hk
    · rw [wA_s, gD_set]
      by_cases h : j = p
      · subst h; rw [if_pos ⟨rfl, by omega⟩]; rfl
      · rw [if_neg (by omega)]; exact hb p (by omega)) (by
    rintro st ⟨W, rfl, h⟩
    exact ⟨(nI 6, hp W), by simp only [Mod_laysNew_b69, if_pos (show (6 : Int32) ≤ nI 6 by decide)], W, rfl, h⟩)
  have e27 : W2.2 274 27 = nI M := by rw [k2]; exact hM
  have nM : nwM w = M := by unfold nwM; rw [hM, nI_clamp (by omega)]
  have nM' : nwM (wF W2 274 27 (nI (M + 1))) = M + 1 := by unfold nwM; rw [wF_s, nI_clamp (by omega)]
  refine ⟨wF W2 274 27 (nI (M + 1)), ?_, WL.F h2, ⟨fun i hi hi2 => ⟨g2 i hi2, ?_⟩, g2 274 (by omega), fun k hk => by rw [wF_n (by omega), k2]⟩, wF_s, ?_⟩
  · simp only [Mod_laysNew, c274_27, hM, c274_26, Option.bind_some, e13]
    rw [ast_w (j := 13 * M) s290 rfl (by omega) (by omega)]
    simp only [Option.bind_some, c274_26]
    rw [ast_w (i := nI (13 * M) + 1) (j := 13 * M + 1) s290 (nI_add _ 1) (by rw [wA_s, List.length_set]; omega) (by omega)]
    simp only [Option.bind_some, c274_26, wA_s]
    rw [ast_w (i := nI (13 * M) + 2) (j := 13 * M + 2) s290 (nI_add _ 2) (by rw [wA_s, List.length_set, List.length_set]; omega) (by omega)]
    simp only [Option.bind_some, wA_s]
    have eW : wA (wA (wA w 290 ((w.1 290).set (13 * M) (nar 0 x))) 290 (((w.1 290).set (13 * M) (nar 0 x)).set (13 * M + 1) (nar 0 y))) 290 ((((w.1 290).set (13 * M) (nar 0 x)).set (13 * M + 1) (nar 0 y)).set (13 * M + 2) (nar 0 0)) = W0 := by rw [hW0]; rfl
    rw [eW, i1]
    simp only [Option.bind_some, Mod_laysNew_j66, i2, Mod_laysNew_j101, c274_27, e27, nI_1, p274_27]
  · rw [← k2]; funext k; exact wF_n (by omega)
  · unfold nwC
    rw [nM', nM, List.range_succ, List.map_append]
    have old : (List.range M).map (fun i => slc ((wF W2 274 27 (nI (M + 1))).1 290) (13 * i) 13) = (List.range M).map (fun i => slc (w.1 290) (13 * i) 13) := by
      apply List.map_congr_left
      intro i hi
      have hi' := List.mem_range.mp hi
      refine slc_cg (fun k q1 q2 => ?_)
      show (W2.1 290).getD k 0 = _
      rw [o2 k (by omega), o1 k (by omega), A0, gD_set, if_neg (by omega), gD_set, if_neg (by omega), gD_set, if_neg (by omega)]
    rw [old]
    have new : slc ((wF W2 274 27 (nI (M + 1))).1 290) (13 * M) 13 = ctOf x y 0 (w.1 287) (w.1 288) := by
      unfold slc ctOf
      apply List.map_congr_left
      intro k hk
      have hk' := List.mem_range.mp hk
      show (W2.1 290).getD (13 * M + k) 0 = _
      by_cases k7 : k < 7
      · rw [o2 _ (by omega)]
        by_cases k3 : k < 3
        · rw [o1 _ (by omega), A0, gD_set, gD_set, gD_set]
          have : k = 0 ∨ k = 1 ∨ k = 2 := by omega
          rcases this with rfl | rfl | rfl
          · rw [if_neg (by omega), if_neg (by omega), if_pos ⟨by omega, by omega⟩]; rfl
          · rw [if_neg (by omega), if_pos ⟨by omega, by rw [List.length_set]; omega⟩]; rfl
          · rw [if_pos ⟨by omega, by rw [List.length_set, List.length_set]; omega⟩]; rfl
        · rw [if_neg (by omega), if_neg (by omega), if_neg (by omega), if_pos k7, show 13 * M + k = 13 * M + 3 + (k - 3) by omega, b1 _ (by omega)]
      · rw [if_neg (by omega), if_neg (by omega), if_neg (by omega), if_neg k7, show 13 * M + k = 13 * M + 7 + (k - 7) by omega, b2 _ (by omega)]
    show _ ++ [slc ((wF W2 274 27 (nI (M + 1))).1 290) (13 * M) 13] = _
    rw [new]
