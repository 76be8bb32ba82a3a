theorem b2i_nar (b : Bool) : nar 1 (b2i b) = b2i b := by cases b <;> decide
theorem b2i_eq {b c : Bool} (h : b = c) : b2i b = b2i c := by rw [h]
theorem Eng_pick_w {w : Wd} {n : Nat} {cs : List (List Int32)} {way : Int32} (hw : WL w) (hg : wfP (pdW w 2)) (hk : ldOk w (pdW w 2)) (h6 : w.2 17 6 = nI n) (hpr : ∀ c, c < pNc (pdW w 2) → priceR (pdW w 2) c (nI n) ((w.1 36).getD c 0)) (hrc : ∀ c, c < pNc (pdW w 2) → (w.1 37).getD c 0 = rchP (pdW w 2) cs c (nI n)) (hrb : ∀ c, c < pNc (pdW w 2) → 0 ≤ (rchP (pdW w 2) cs c (nI n)).toInt ∧ (rchP (pdW w 2) cs c (nI n)).toInt ≤ 100000) : ∃ w', Eng_pick 17 2 way (hp w) = some (nI (cntB (pkB (keyZ (pdW w 2) cs (nI n)) (pNc (pdW w 2)) way) (pNc (pdW w 2))), hp w') ∧ WL w' ∧ (∀ i, (i < 20 ∨ 24 ≤ i) → i ≠ 38 → w'.1 i = w.1 i ∧ w'.2 i = w.2 i) ∧ ldOk w' (pdW w 2) ∧ ∀ c, c < pNc (pdW w 2) → (w'.1 38).getD c 0 = b2i (pkB (keyZ (pdW w 2) cs (nI n)) (pNc (pdW w 2)) way c) := by
  have hnc := hg.1.2.2
  generalize hP : (fun c => decide (0 < keyZ (pdW w 2) cs (nI n) c)) = P
  have hPc : ∀ c, P c = true ↔ 0 < keyZ (pdW w 2) cs (nI n) c := by
    intro c; rw [← hP]; exact decide_eq_true_iff
  obtain ⟨q, i1, W, rfl, hW, hF, h38⟩ := iter_I (body := Eng_pick_b5 17 2 way) (fun j st => ∃ W, st = (nI (cntB P j), nI j, hp W) ∧ WL W ∧ Fr w W 38 39 ∧ ∀ c, c < j → (W.1 38).getD c 0 = b2i (P c)) (fun q => ∃ W, q = (nI (cntB P (pNc (pdW w 2))), nI (pNc (pdW w 2)), hp W) ∧ WL W ∧ Fr w W 38 39 ∧ ∀ c, c < pNc (pdW w 2) → (W.1 38).getD c 0 = b2i (P c)) (pNc (pdW w 2)) (s0 := (0, 0, hp w)) (by omega) ⟨w, rfl, hw, Fr.rfl', fun _ h => absurd h (by omega)⟩ (by
    rintro j st hj ⟨W, rfl, hW, hF, h38⟩
    left
    have hcn : ¬ nI (pNc (pdW w 2)) ≤ nI j := nI_ge hj (by omega)
    have e2 : W.2 2 2 = nI (pNc (pdW w 2)) := by rw [(hF 2 (by omega)).2]; exact hnc.1
    have L36 := l36 hW
    have L37 := l37 hW
    have L38 := l38 hW
    have a36 : ald 0 (hp W) 36 (nI j) = some ((w.1 36).getD j 0) := by rw [ald_w (j := j) s36 rfl (by omega) (by omega), (hF 36 (by omega)).1]
    have a37 : ald 0 (hp W) 37 (nI j) = some ((w.1 37).getD j 0) := by rw [ald_w (j := j) s37 rfl (by omega) (by omega), (hF 37 (by omega)).1]
    have fin : ∀ b : Bool, P j = b → ∃ s', Eng_pick_j53 17 2 way (nI (cntB P j)) (nI j) 38 (nI j) (b2i b) (hp W) = some (.inl s') ∧ ∃ W', s' = (nI (cntB P (j + 1)), nI (j + 1), hp W') ∧ WL W' ∧ Fr w W' 38 39 ∧ ∀ c, c < j + 1 → (W'.1 38).getD c 0 = b2i (P c) := by
      intro b hb
      unfold Eng_pick_j53
      have ev : ((wA W 38 ((W.1 38).set j (nar 1 (b2i b)))).1 38).getD j 0 = b2i b := by
        rw [wA_s, gD_set, if_pos ⟨rfl, by omega⟩, b2i_nar]
      rw [ast_w (j := j) s38 rfl (by omega) (by omega)]
      simp only [Option.bind_some, c17_4]
      rw [ald_w (j := j) s38 rfl (by rw [wA_s, List.length_set]; omega) (by omega), ev]
      simp only [Option.bind_some, Eng_pick_j70, nI_1]
      have h38' : ∀ c, c < j + 1 → ((wA W 38 ((W.1 38).set j (nar 1 (b2i b)))).1 38).getD c 0 = b2i (P c) := by
        intro c hc
        by_cases h : j = c
        · subst h; rw [ev, hb]
        · rw [wA_s, gD_set, if_neg (fun h' => h h'.1)]; exact h38 c (by omega)
      cases b
      · rw [if_pos (by decide)]
        have e0 : nI (cntB P j) + 0 = nI (cntB P (j + 1)) := by
          rw [show cntB P (j + 1) = cntB P j + 0 by rw [cntB, if_neg (by rw [hb]; decide)]]
          exact nI_add _ 0
        exact ⟨_, rfl, _, by rw [e0], hW.S, Fr.cA hF (by omega) (by omega), h38'⟩
      · rw [if_neg (by decide)]
        have e0 : nI (cntB P j) + 1 = nI (cntB P (j + 1)) := by
          rw [show cntB P (j + 1) = cntB P j + 1 by rw [cntB, if_pos hb]]
          exact nI_add _ 1
        exact ⟨_, rfl, _, by rw [← e0, nI_1], hW.S, Fr.cA hF (by omega) (by omega), h38'⟩
    simp only [Eng_pick_b5, c2_2, Option.bind_some, e2, if_neg hcn, c17_4, c17_2, c17_3, a36, a37, Eng_pick_j48]
    have p2 := hpr j hj
    by_cases hx : (w.1 36).getD j 0 = -1
    · rw [if_pos hx]
      have hl := (priceR_m1 p2).mp hx
      have kj := key_ray (cs := cs) hl
      exact fin true ((hPc j).mpr (by omega))
    · rw [if_neg hx]
      have hl : lackP (pdW w 2) j (nI n) ≤ 0 := by
        apply Decidable.byContradiction
        intro h
        exact hx ((priceR_m1 p2).mpr h)
      have kj := key_pt (cs := cs) hg hj p2 hl (hrc j hj) (by rw [hrc j hj]; exact hrb j hj)
      by_cases hy : (w.1 36).getD j 0 ≤ (w.1 37).getD j 0
      · rw [if_pos hy]
        refine fin false ?_
        cases hb : P j
        · rfl
        · exact absurd hy (kj.2.2.mp ((hPc j).mp hb))
      · rw [if_neg hy]
        exact fin true ((hPc j).mpr (kj.2.2.mpr hy))) (by
    rintro st ⟨W, rfl, h⟩
    have hF : Fr w W 38 39 := h.2.1
    have e2 : W.2 2 2 = nI (pNc (pdW w 2)) := by rw [(hF 2 (by omega)).2]; exact hnc.1
    exact ⟨(nI (cntB P (pNc (pdW w 2))), nI (pNc (pdW w 2)), hp W), by simp only [Eng_pick_b5, c2_2, Option.bind_some, e2, if_pos (nI_le (Nat.le_refl _) (show pNc (pdW w 2) < 2 ^ 31 by omega))], W, rfl, h⟩)
  simp only [Eng_pick, i1, Option.bind_some, Eng_pick_j78]
  have hcl := cntB_le (P := P) (pNc (pdW w 2))
  have ldW : ldOk W (pdW w 2) := by
    intro c hc
    rw [(hF 23 (by omega)).1, (hF 22 (by omega)).1]; exact hk c hc
  have eq1 : (∀ c, c < pNc (pdW w 2) → P c = pkB (keyZ (pdW w 2) cs (nI n)) (pNc (pdW w 2)) way c) → ∃ w', Eng_pick_j87 17 2 way (nI (cntB P (pNc (pdW w 2)))) (nI (pNc (pdW w 2))) (hp W) = some (nI (cntB (pkB (keyZ (pdW w 2) cs (nI n)) (pNc (pdW w 2)) way) (pNc (pdW w 2))), hp w') ∧ WL w' ∧ (∀ i, (i < 20 ∨ 24 ≤ i) → i ≠ 38 → w'.1 i = w.1 i ∧ w'.2 i = w.2 i) ∧ ldOk w' (pdW w 2) ∧ ∀ c, c < pNc (pdW w 2) → (w'.1 38).getD c 0 = b2i (pkB (keyZ (pdW w 2) cs (nI n)) (pNc (pdW w 2)) way c) := by
    intro h
    refine ⟨W, by rw [Eng_pick_j87, cntB_congr _ h], hW, fun i hi hi2 => hF i (by omega), ldW, fun c hc => by rw [h38 c hc, h c hc]⟩
  by_cases hway : way = 0
  · rw [if_pos hway]
    refine eq1 (fun c hc => ?_)
    rw [Bool.eq_iff_iff, hPc, pkB_iff]
    exact ⟨fun h => ⟨h, Or.inl hway⟩, fun h => h.1⟩
  · rw [if_neg hway]
    by_cases hc1 : 1 < cntB P (pNc (pdW w 2))
    · rw [if_pos (show (1 : Int32) < nI (cntB P (pNc (pdW w 2))) from nI_lt (a := 1) hc1 (by omega))]
      have eg : pdW W 2 = pdW w 2 := pd_fr hF (by omega)
      obtain ⟨V, r, v1, v2, v3, v4, v5⟩ := Eng_worstCase_w (w := W) (n := n) (cs := cs) hW (by rw [eg]; exact hg) (by rw [eg]; exact ldW) (by rw [(hF 17 (by omega)).2]; exact h6) (by rw [eg, (hF 36 (by omega)).1]; exact hpr) (by rw [eg, (hF 37 (by omega)).1]; exact hrc) (by rw [eg]; exact hrb)
      rw [eg] at v2 v5
      cases r with
      | none =>
        exfalso
        have := cntB_all0 (P := P) (pNc (pdW w 2)) (fun c hc => by
          cases hb : P c
          · rfl
          · have h1 := (hPc c).mp hb; have h2 := v2 c hc; omega)
        omega
      | some b =>
        have hb4 : b < pNc (pdW w 2) := v2.1
        have hpk : ∀ c, c < pNc (pdW w 2) → (pkB (keyZ (pdW w 2) cs (nI n)) (pNc (pdW w 2)) way c = true ↔ c = b) := by
          intro c hc
          rw [pkB_iff]
          constructor
          · rintro ⟨_, h | h⟩
            · exact absurd h hway
            · have := isAm_uni h v2; cases this; rfl
          · intro h
            subst h
            exact ⟨v2.2.1, Or.inr v2⟩
        obtain ⟨q, i2, U, rfl, hU, hFU, hU38⟩ := iter_I (body := Eng_pick_b99 17 2 way (nI (cntB P (pNc (pdW w 2)))) (nI b)) (fun j st => ∃ U, st = (nI j, hp U) ∧ WL U ∧ Fr V U 38 39 ∧ ∀ c, c < j → (U.1 38).getD c 0 = b2i (decide (c = b))) (fun q => ∃ U, q = (nI (pNc (pdW w 2)), hp U) ∧ WL U ∧ Fr V U 38 39 ∧ ∀ c, c < pNc (pdW w 2) → (U.1 38).getD c 0 = b2i (decide (c = b))) (pNc (pdW w 2)) (s0 := (0, hp V)) (by omega) ⟨V, rfl, v3, Fr.rfl', fun _ h => absurd h (by omega)⟩ (by
          rintro j st hj ⟨U, rfl, hU, hFU, hU38⟩
          left
          have hcn : ¬ nI (pNc (pdW w 2)) ≤ nI j := nI_ge hj (by omega)
          have e2 : U.2 2 2 = nI (pNc (pdW w 2)) := by rw [(hFU 2 (by omega)).2, (v4 2 (by omega)).2, (hF 2 (by omega)).2]; exact hnc.1
          have L38 := l38 hU
          have fin : ∀ bb : Bool, decide (j = b) = bb → ∃ s', Eng_pick_j126 17 2 way (nI (cntB P (pNc (pdW w 2)))) (nI b) (nI j) 38 (nI j) (b2i bb) (hp U) = some (.inl s') ∧ ∃ U', s' = (nI (j + 1), hp U') ∧ WL U' ∧ Fr V U' 38 39 ∧ ∀ c, c < j + 1 → (U'.1 38).getD c 0 = b2i (decide (c = b)) := by
            intro bb hbb
            unfold Eng_pick_j126
            rw [ast_w (j := j) s38 rfl (by omega) (by omega)]
            simp only [Option.bind_some, nI_1]
            refine ⟨_, rfl, _, rfl, hU.S, Fr.cA hFU (by omega) (by omega), ?_⟩
            intro c hc
            rw [wA_s, gD_set]
            by_cases h : j = c
            · subst h; rw [if_pos ⟨rfl, by omega⟩, b2i_nar, hbb]
            · rw [if_neg (fun h' => h h'.1)]; exact hU38 c (by omega)
          simp only [Eng_pick_b99, c2_2, Option.bind_some, e2, if_neg hcn, c17_4]
          by_cases hjb : j = b
          · rw [if_neg (fun h => h (by rw [hjb]))]
            exact fin true (by simp [hjb])
          · rw [if_pos (fun h => hjb ((nI_eq (by omega) (by omega)).mp h))]
            exact fin false (by simp [hjb])) (by
          rintro st ⟨U, rfl, h⟩
          have hFU : Fr V U 38 39 := h.2.1
          have e2 : U.2 2 2 = nI (pNc (pdW w 2)) := by rw [(hFU 2 (by omega)).2, (v4 2 (by omega)).2, (hF 2 (by omega)).2]; exact hnc.1
          exact ⟨(nI (pNc (pdW w 2)), hp U), by simp only [Eng_pick_b99, c2_2, Option.bind_some, e2, if_pos (nI_le (Nat.le_refl _) (show pNc (pdW w 2) < 2 ^ 31 by omega))], U, rfl, h⟩)
        have v1' : Eng_worstCase 17 2 (hp W) = some (nI b, hp V) := v1
        simp only [k17, Option.bind_some, v1', bnd2_some, i2, Eng_pick_j133]
        refine ⟨U, by rw [cntB_one (b := b) _ hb4 hpk]; rfl, hU, fun i hi hi2 => ⟨?_, ?_⟩, ?_, fun c hc => ?_⟩
        · rw [(hFU i (by omega)).1, (v4 i (by omega)).1, (hF i (by omega)).1]
        · rw [(hFU i (by omega)).2, (v4 i (by omega)).2, (hF i (by omega)).2]
        · intro c hc
          rw [(hFU 23 (by omega)).1, (hFU 22 (by omega)).1]; exact v5 c hc
        · rw [hU38 c hc]
          refine b2i_eq ?_
          rw [Bool.eq_iff_iff, hpk c hc]
          exact decide_eq_true_iff
    · rw [if_neg (show ¬ (1 : Int32) < nI (cntB P (pNc (pdW w 2))) from nI_nlt (a := 1) (by omega) (by omega))]
      refine eq1 (fun c hc => ?_)
      rw [Bool.eq_iff_iff, hPc, pkB_iff]
      refine ⟨fun h => ⟨h, Or.inr ⟨hc, h, fun c' hc' => ?_⟩⟩, fun h => h.1⟩
      by_cases hcc : c' = c
      · subst hcc; exact ⟨Int.le_refl _, fun h' => absurd h' (by omega)⟩
      · have : ¬ 0 < keyZ (pdW w 2) cs (nI n) c' := by
          intro h'
          have := cntB_two (P := P) (pNc (pdW w 2)) hc hc' ((hPc c).mpr h) ((hPc c').mpr h') (fun e => hcc e.symm)
          omega
        exact ⟨by omega, fun _ => by omega⟩
