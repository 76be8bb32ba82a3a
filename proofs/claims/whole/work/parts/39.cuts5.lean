def age0 (c : List Int32) : List Int32 := (List.range 13).map (fun k => if k = 2 then 0 else cK c k)
theorem age0_W {w : Wd} {a i : Nat} (hi : i < (w.1 (a + 3)).length) : ctW (wA w (a + 3) ((w.1 (a + 3)).set i 0)) a i = age0 (ctW w a i) := by
  unfold ctW age0
  apply List.map_congr_left
  intro k hk
  have hk' : k < 13 := List.mem_range.mp hk
  have e := cK_W (w := w) (a := a) (i := i) hk'
  unfold ctW at e
  rw [e]
  unfold ctF
  by_cases h2 : k = 2
  · subst h2
    simp [wA, gD_set, hi, -List.getD_eq_getElem?_getD]
  · simp only [h2, ↓reduceIte]
    simp [wA, -List.getD_eq_getElem?_getD]
theorem pd_fr {w w' : Wd} {b lo hi : Nat} (h : Fr w w' lo hi) (hb : b + 7 ≤ lo ∨ hi ≤ b) : pdW w' b = pdW w b := by
  have e : ∀ j, j ≤ 6 → w'.1 (b + j) = w.1 (b + j) := fun j hj => (h (b + j) (by omega)).1
  have e2 : w'.2 b = w.2 b := (h b (by omega)).2
  unfold pdW
  rw [e 1 (by omega), e 2 (by omega), e 3 (by omega), e 4 (by omega), e 5 (by omega), e 6 (by omega), e2]
theorem cN_F {w : Wd} {a n : Nat} (hn : n < 2 ^ 31) : cN (wF w a 1 (nI n)) a = n := by unfold cN; rw [wF_s, nI_clamp hn]
theorem Cuts_keepHolding_w {w : Wd} {a m b : Nat} (ha : isCt a m) (hb : isPg b) (hd : a + 6 ≤ b ∨ b + 7 ≤ a) (hw : WL w) (hg : wfP (pdW w b)) (hz : cSz w a m) : ∃ w', Cuts_keepHolding a b (hp w) = some ((), hp w') ∧ WL w' ∧ cutsW w' a = ((cutsW w a).filter (holdsP (pdW w b))).map age0 ∧ cSz w' a m ∧ w'.2 a 0 = w.2 a 0 ∧ Fr w w' a (a + 6) := by
  have hm := ha.2.2.2
  obtain ⟨e1, hz⟩ := hz
  have hit := iter_I (body := Cuts_keepHolding_b4 a b) (fun j s => ∃ k W, s = (nI k, nI j, hp W) ∧ k ≤ j ∧ WL W ∧ Fr w W (a + 1) (a + 6) ∧ (∀ x, j ≤ x → ctW W a x = ctW w a x) ∧ (List.range k).map (ctW W a) = (((List.range j).map (ctW w a)).filter (holdsP (pdW w b))).map age0) (fun q => ∃ k W, q = (nI k, nI (cN w a), hp W) ∧ k ≤ cN w a ∧ WL W ∧ Fr w W (a + 1) (a + 6) ∧ (List.range k).map (ctW W a) = ((cutsW w a).filter (holdsP (pdW w b))).map age0) (cN w a) (s0 := (0, 0, hp w)) (by omega) ⟨0, w, rfl, Nat.le_refl _, hw, Fr.rfl', fun _ _ => rfl, rfl⟩ ?_ ?_
  · obtain ⟨q, hq, k, W, rfl, hk, hW, hF, hL⟩ := hit
    refine ⟨wF W a 1 (nI k), ?_, hW.F, ?_, ?_, ?_, ?_⟩
    · simp only [Cuts_keepHolding, hq, Option.bind_some, Cuts_keepHolding_j43, ctP1 ha]
    · rw [← hL]
      unfold cutsW
      rw [cN_F (by omega)]
      rfl
    · exact ⟨by rw [cN_F (by omega), wF_s], by rw [cN_F (by omega)]; omega⟩
    · rw [wF_n (by omega)]
      rw [(hF a (by omega)).2]
    · exact Fr.cF (hF.mono (by omega) (by omega)) (by omega) (by omega)
  · rintro j s hj ⟨k, W, rfl, hk, hW, hF, hx, hL⟩
    left
    have hcn : ¬ nI (cN w a) ≤ nI j := nI_ge hj (by omega)
    have eW : W.2 a 1 = nI (cN w a) := by rw [(hF a (by omega)).2]; exact e1
    have eg : pdW W b = pdW w b := pd_fr hF (by omega)
    have hgW : wfP (pdW W b) := by rw [eg]; exact hg
    have eh := Cuts_holds_w ha hb hW hgW (show j < m by omega)
    rw [eg, hx j (Nat.le_refl _)] at eh
    simp only [Cuts_keepHolding_b4, ctI1 ha, Option.bind_some, eW, if_neg hcn, ctK ha, eh, bnd2_some]
    rw [List.range_succ (n := j), List.map_append, List.filter_append, List.map_append]
    by_cases hh : holdsP (pdW w b) (ctW w a j) = true
    · rw [hh]
      simp only [show ¬ b2i true = 0 by decide, ↓reduceIte]
      obtain ⟨W1, m1, m2, m3, m4, m5⟩ := Cuts_move_w ha hW (show j < m by omega) (show k < m by omega)
      have L3 := ctL3 ha m2
      simp only [m1, bnd2_some, ctR4 ha, Option.bind_some]
      rw [ast_w (j := k) ha.2.1.2.2.1 rfl (by omega) (by omega)]
      simp only [Option.bind_some, Cuts_keepHolding_j37, nI_1]
      refine ⟨_, rfl, k + 1, _, rfl, by omega, m2.S, ?_, ?_, ?_⟩
      · exact Fr.cA (hF.tr m5) (by omega) (by omega)
      · intro x hx'
        have e : ctW (wA W1 (a + 3) ((W1.1 (a + 3)).set k (nar 0 0))) a x = ctW W1 a x := by
          refine ct_ext ?_ ?_ ?_ ?_ ?_
          · simp [wA]
          · simp [wA]
          · have : ¬ k = x := by omega
            simp [wA, gD_set, this, -List.getD_eq_getElem?_getD]
          · intro p _; simp [wA]
          · intro p _; simp [wA]
        rw [e, m4 x (by omega), hx x (by omega)]
      · rw [← hL, List.range_succ, List.map_append]
        congr 1
        · apply List.map_congr_left
          intro x hx'
          have hx2 : x < k := List.mem_range.mp hx'
          have e : ctW (wA W1 (a + 3) ((W1.1 (a + 3)).set k (nar 0 0))) a x = ctW W1 a x := by
            refine ct_ext ?_ ?_ ?_ ?_ ?_
            · simp [wA]
            · simp [wA]
            · have : ¬ k = x := by omega
              simp [wA, gD_set, this, -List.getD_eq_getElem?_getD]
            · intro p _; simp [wA]
            · intro p _; simp [wA]
          rw [e, m4 x (by omega)]
        · have e0 : nar 0 0 = 0 := rfl
          rw [e0, List.map_singleton, age0_W (by omega), m3, hx j (Nat.le_refl _)]
          simp [hh]
    · have hh' : holdsP (pdW w b) (ctW w a j) = false := by simpa using hh
      rw [hh']
      simp only [show b2i false = 0 by decide, ↓reduceIte, Cuts_keepHolding_j37, nI_1]
      refine ⟨_, rfl, k, W, rfl, by omega, hW, hF, fun x hx' => hx x (by omega), ?_⟩
      rw [hL]
      simp [hh']
  · rintro s ⟨k, W, rfl, hk, hW, hF, hx, hL⟩
    have hcn : nI (cN w a) ≤ nI (cN w a) := nI_le (Nat.le_refl _) (by omega)
    have eW : W.2 a 1 = nI (cN w a) := by rw [(hF a (by omega)).2]; exact e1
    refine ⟨_, ?_, k, W, rfl, hk, hW, hF, hL⟩
    simp only [Cuts_keepHolding_b4, ctI1 ha, Option.bind_some, eW, if_pos hcn]
theorem Cuts_dropAged_w {w : Wd} {a m : Nat} {keep : Int32} (ha : isCt a m) (hw : WL w) (hz : cSz w a m) : ∃ w', Cuts_dropAged a keep (hp w) = some (nI (cN w a) - nI ((cutsW w a).filter (fun c => decide (¬ keep ≤ cK c 2))).length, hp w') ∧ WL w' ∧ cutsW w' a = (cutsW w a).filter (fun c => decide (¬ keep ≤ cK c 2)) ∧ cSz w' a m ∧ w'.2 a 0 = w.2 a 0 ∧ Fr w w' a (a + 6) := by
  have hm := ha.2.2.2
  obtain ⟨e1, hz⟩ := hz
  have hit := iter_I (body := Cuts_dropAged_b4 a keep) (fun j s => ∃ k W, s = (nI k, nI j, hp W) ∧ k ≤ j ∧ WL W ∧ Fr w W (a + 1) (a + 6) ∧ (∀ x, j ≤ x → ctW W a x = ctW w a x) ∧ (List.range k).map (ctW W a) = (((List.range j).map (ctW w a)).filter (fun c => decide (¬ keep ≤ cK c 2)))) (fun q => ∃ k W, q = (nI k, nI (cN w a), hp W) ∧ k ≤ cN w a ∧ WL W ∧ Fr w W (a + 1) (a + 6) ∧ (List.range k).map (ctW W a) = ((cutsW w a).filter (fun c => decide (¬ keep ≤ cK c 2)))) (cN w a) (s0 := (0, 0, hp w)) (by omega) ⟨0, w, rfl, Nat.le_refl _, hw, Fr.rfl', fun _ _ => rfl, rfl⟩ ?_ ?_
  · obtain ⟨q, hq, k, W, rfl, hk, hW, hF, hL⟩ := hit
    have eW : W.2 a 1 = nI (cN w a) := by rw [(hF a (by omega)).2]; exact e1
    refine ⟨wF W a 1 (nI k), ?_, hW.F, ?_, ?_, ?_, ?_⟩
    · simp only [Cuts_dropAged, hq, Option.bind_some, Cuts_dropAged_j37, ctI1 ha, ctP1 ha, eW, ← hL, List.length_map, List.length_range]
    · rw [← hL]
      unfold cutsW
      rw [cN_F (by omega)]
      rfl
    · exact ⟨by rw [cN_F (by omega), wF_s], by rw [cN_F (by omega)]; omega⟩
    · rw [wF_n (by omega)]
      rw [(hF a (by omega)).2]
    · exact Fr.cF (hF.mono (by omega) (by omega)) (by omega) (by omega)
  · rintro j s hj ⟨k, W, rfl, hk, hW, hF, hx, hL⟩
    left
    have hcn : ¬ nI (cN w a) ≤ nI j := nI_ge hj (by omega)
    have eW : W.2 a 1 = nI (cN w a) := by rw [(hF a (by omega)).2]; exact e1
    have L3 := ctL3 ha hW
    simp only [Cuts_dropAged_b4, ctI1 ha, Option.bind_some, eW, if_neg hcn, ctR4 ha]
    rw [ald_w (j := j) ha.2.1.2.2.1 rfl (by omega) (by omega)]
    simp only [Option.bind_some]
    rw [← cK_2, hx j (Nat.le_refl _), List.range_succ (n := j), List.map_append, List.filter_append]
    by_cases hh : keep ≤ cK (ctW w a j) 2
    · rw [if_pos hh]
      simp only [Cuts_dropAged_j31, nI_1]
      refine ⟨_, rfl, k, W, rfl, by omega, hW, hF, fun x hx' => hx x (by omega), ?_⟩
      rw [hL]
      simp [hh]
    · rw [if_neg hh]
      obtain ⟨W1, m1, m2, m3, m4, m5⟩ := Cuts_move_w ha hW (show j < m by omega) (show k < m by omega)
      simp only [ctK ha, Option.bind_some, m1, bnd2_some, Cuts_dropAged_j31, nI_1]
      refine ⟨_, rfl, k + 1, W1, rfl, by omega, m2, hF.tr m5, ?_, ?_⟩
      · intro x hx'
        rw [m4 x (by omega), hx x (by omega)]
      · rw [← hL, List.range_succ, List.map_append]
        congr 1
        · apply List.map_congr_left
          intro x hx'
          have hx2 : x < k := List.mem_range.mp hx'
          rw [m4 x (by omega)]
        · rw [List.map_singleton, m3, hx j (Nat.le_refl _)]
          simp only [List.map_cons, List.map_nil, List.filter_cons, hh, not_false_eq_true, decide_true, ↓reduceIte, List.filter_nil]
  · rintro s ⟨k, W, rfl, hk, hW, hF, hx, hL⟩
    have hcn : nI (cN w a) ≤ nI (cN w a) := nI_le (Nat.le_refl _) (by omega)
    have eW : W.2 a 1 = nI (cN w a) := by rw [(hF a (by omega)).2]; exact e1
    refine ⟨_, ?_, k, W, rfl, hk, hW, hF, hL⟩
    simp only [Cuts_dropAged_b4, ctI1 ha, Option.bind_some, eW, if_pos hcn]
