noncomputable def priceP (g : PD) (c : Nat) (plan : Int32) : Int32 := Classical.epsilon (priceR g c plan)
theorem priceP_eq {g : PD} {c : Nat} {plan x : Int32} (h : priceR g c plan x) : priceP g c plan = x := priceR_uni (Classical.epsilon_spec (p := priceR g c plan) ⟨x, h⟩) h
theorem Book_forgetAll_w {w : Wd} {g : PD} (hw : WL w) : ∃ w', Book_forgetAll 18 (hp w) = some ((), hp w') ∧ WL w' ∧ Fr w w' 20 33 ∧ bkOk w' g := by
  have L32 := l32 hw
  have hW0 : WL (wA w 32 (List.replicate (w.1 32).length (-2))) := WL.A hw (by rw [List.length_replicate]; exact hw 32)
  obtain ⟨q, i1, W, rfl, hW, hF, h23, h32⟩ := iter_I (body := Book_forgetAll_b11 18) (fun j st => ∃ W, st = (nI j, hp W) ∧ WL W ∧ Fr w W 20 33 ∧ (∀ c, c < j → (W.1 23).getD c 0 = 0) ∧ W.1 32 = List.replicate (w.1 32).length (-2)) (fun r => ∃ W, r = (nI 4, hp W) ∧ WL W ∧ Fr w W 20 33 ∧ (∀ c, c < 4 → (W.1 23).getD c 0 = 0) ∧ W.1 32 = List.replicate (w.1 32).length (-2)) 4 (s0 := (0, hp (wA w 32 (List.replicate (w.1 32).length (-2))))) (by omega) ⟨_, rfl, hW0, Fr.A (by omega) (by omega), fun _ h => absurd h (by omega), wA_s⟩ (by
    rintro j st hj ⟨W, rfl, hW, hF, h23, h32⟩
    left
    have hcn : ¬ (4 : Int32) ≤ nI j := nI_ge (b := 4) hj (by omega)
    have L23 := l23 hW
    simp only [Book_forgetAll_b11, if_neg hcn, c18_0, c19_3, Option.bind_some]
    rw [ast_w (j := j) s23 rfl (by omega) (by omega)]
    simp only [Option.bind_some, nI_1]
    refine ⟨_, rfl, _, rfl, hW.S, Fr.cA hF (by omega) (by omega), ?_, by rw [wA_n (by omega)]; exact h32⟩
    intro c hc
    rw [wA_s, gD_set]
    by_cases h : j = c
    · subst h; rw [if_pos ⟨rfl, by omega⟩]; rfl
    · rw [if_neg (fun h' => h h'.1)]; exact h23 c (by omega)) (by
    rintro st ⟨W, rfl, hW, hF, h23, h32⟩
    exact ⟨(nI 4, hp W), by simp only [Book_forgetAll_b11, if_pos (show (4 : Int32) ≤ nI 4 by decide)], W, rfl, hW, hF, h23, h32⟩)
  refine ⟨W, ?_, hW, hF, fun c hc => Or.inl (h23 c hc), fun c plan hc hp' => Or.inl ?_⟩
  · simp only [Book_forgetAll, c18_1, Option.bind_some]
    rw [fill_w s32 (by omega), bnd2_some, i1]
    simp only [Option.bind_some, Book_forgetAll_j32]
  · rw [h32, List.getD_eq_getElem?_getD, List.getElem?_replicate, if_pos (by omega)]
    rfl
/-- fees and weighed prices; -1 if a case fails -/
noncomputable def totN (g : PD) (plan : Int32) : Nat → Int32
  | 0 => feesP g plan
  | n + 1 => totN g plan n + pWt g n * priceP g n plan
noncomputable def totalP (g : PD) (plan : Int32) : Int32 := if (List.range (pNc g)).all (fun c => decide (lackP g c plan ≤ 0)) = true then totN g plan (pNc g) else -1
theorem priceR_m1 {g : PD} {c : Nat} {plan x : Int32} (h : priceR g c plan x) : (x = -1 ↔ ¬ lackP g c plan ≤ 0) := by
  rcases h with ⟨h1, h2⟩ | ⟨h1, u, _, _, _, h2, _⟩
  · exact ⟨fun _ => h1, fun _ => h2⟩
  · refine ⟨fun h => ?_, fun h => absurd h1 h⟩
    rw [h] at h2
    exact absurd h2 (by decide)
theorem Book_totalAt_w {w : Wd} {plan : Nat} (hw : WL w) (hg : wfP (pdW w 2)) (hp' : plan < 256) (hk : bkOk w (pdW w 2)) : ∃ w', Book_totalAt 18 2 (nI plan) (hp w) = some (totalP (pdW w 2) (nI plan), hp w') ∧ WL w' ∧ Fr w w' 20 33 ∧ bkOk w' (pdW w 2) := by
  have hnc := hg.1.2.2
  obtain ⟨q, i1, W, hq, hW, hF, hb⟩ := iter_I (body := Book_totalAt_b9 18 2 (nI plan)) (fun j st => ∃ W, st = (totN (pdW w 2) (nI plan) j, nI j, hp W) ∧ WL W ∧ Fr w W 20 33 ∧ bkOk W (pdW w 2) ∧ (List.range j).all (fun c => decide (lackP (pdW w 2) c (nI plan) ≤ 0)) = true) (fun r => ∃ W, (r = Sum.inr (totalP (pdW w 2) (nI plan), nI (pNc (pdW w 2)), hp W) ∨ (totalP (pdW w 2) (nI plan) = -1 ∧ ∃ a b c, r = Sum.inl (a, b, c, hp W))) ∧ WL W ∧ Fr w W 20 33 ∧ bkOk W (pdW w 2)) (pNc (pdW w 2)) (s0 := (feesP (pdW w 2) (nI plan), 0, hp w)) (by omega) ⟨w, rfl, hw, Fr.rfl', hk, rfl⟩ (by
    rintro j st hj ⟨W, rfl, hW, hF, hb, hall⟩
    have hcn : ¬ nI (pNc (pdW w 2)) ≤ nI j := nI_ge hj (by omega)
    have egW : pdW W 2 = pdW w 2 := pd_fr hF (by omega)
    have e2 : W.2 2 2 = nI (pNc (pdW w 2)) := by rw [(hF 2 (by omega)).2]; exact hnc.1
    have L7 := l7 hW
    obtain ⟨V, x, p1, p2, p3, p4, p5⟩ := Book_priceAt_w (c := j) hW (by rw [egW]; exact hg) (by omega) hp' (by rw [egW]; exact hb)
    rw [egW] at p2 p5
    have egV : pdW V 2 = pdW w 2 := by rw [pd_fr p4 (by omega), egW]
    simp only [Book_totalAt_b9, c2_2, Option.bind_some, e2, if_neg hcn, k18, p1, bnd2_some]
    by_cases hx : x = -1
    · right
      rw [if_neg (fun h => h hx)]
      refine ⟨_, rfl, V, Or.inr ⟨?_, _, _, _, rfl⟩, p3, hF.tr p4, p5⟩
      have hl := (priceR_m1 p2).mp hx
      unfold totalP
      rw [if_neg]
      intro h
      rw [List.all_eq_true] at h
      exact hl (by simpa using h j (List.mem_range.mpr hj))
    · left
      rw [if_pos hx]
      have L7V := l7 p3
      simp only [c2_7, Option.bind_some]
      rw [ald_w (j := j) s7 rfl (by omega) (by omega)]
      simp only [Option.bind_some, nI_1]
      have ew : (V.1 7).getD j 0 = pWt (pdW w 2) j := by rw [← egV]; rfl
      have hl : lackP (pdW w 2) j (nI plan) ≤ 0 := by
        apply Decidable.byContradiction
        intro h
        exact hx ((priceR_m1 p2).mpr h)
      refine ⟨_, rfl, V, ?_, p3, hF.tr p4, p5, ?_⟩
      · rw [ew]
        show _ = (totN (pdW w 2) (nI plan) j + pWt (pdW w 2) j * priceP (pdW w 2) j (nI plan), _, _)
        rw [priceP_eq p2]
      · rw [range_all_succ, hall]
        simp [hl]) (by
    rintro st ⟨W, rfl, hW, hF, hb, hall⟩
    have e2 : W.2 2 2 = nI (pNc (pdW w 2)) := by rw [(hF 2 (by omega)).2]; exact hnc.1
    refine ⟨Sum.inr (totN (pdW w 2) (nI plan) (pNc (pdW w 2)), nI (pNc (pdW w 2)), hp W), by simp only [Book_totalAt_b9, c2_2, Option.bind_some, e2, if_pos (nI_le (Nat.le_refl _) (show pNc (pdW w 2) < 2 ^ 31 by omega))], W, Or.inl ?_, hW, hF, hb⟩
    unfold totalP
    rw [if_pos hall])
  refine ⟨W, ?_, hW, hF, hb⟩
  simp only [Book_totalAt, k2, Option.bind_some, Prog_feesOf_w isPg_2 hg, bnd2_some, i1]
  rcases hq with rfl | ⟨h1, a, b, c, rfl⟩
  · simp only [Sum.elim_inr, Book_totalAt_j55]
  · simp only [Sum.elim_inl, Book_totalAt_j34, h1]
