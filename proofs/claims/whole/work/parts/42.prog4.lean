def plantVal (g : PD) (p : Nat) (what : Int32) : Int32 := if what = 0 then pFee g p else if what = 1 then pSize g p else pMost g p
theorem Prog_plantValue_w {w : Wd} {a p : Nat} {what : Int32} (hs : isPg a) (hg : wfP (pdW w a)) (hp' : p < 4) : Prog_plantValue a (nI p) what (hp w) = some (plantVal (pdW w a) p what, hp w) := by
  have l1 : (w.1 (a + 1)).length = 4 := hg.2.1.1
  have l2 : (w.1 (a + 2)).length = 4 := hg.2.1.2.1
  have l3 : (w.1 (a + 3)).length = 4 := hg.2.1.2.2.1
  unfold Prog_plantValue plantVal
  by_cases h0 : what = 0
  · subst h0
    simp only [not_true_eq_false, ↓reduceIte, pgR3 hs, Option.bind_some]
    rw [ald_w (j := p) hs.2.1 rfl (by omega) (by omega)]
    rfl
  · by_cases h1 : what = 1
    · subst h1
      simp only [h0, not_true_eq_false, not_false_eq_true, ↓reduceIte, pgR4 hs, Option.bind_some]
      rw [ald_w (j := p) hs.2.2.1 rfl (by omega) (by omega)]
      rfl
    · simp only [h0, h1, not_false_eq_true, ↓reduceIte, pgR5 hs, Option.bind_some]
      rw [ald_w (j := p) hs.2.2.2.1 rfl (by omega) (by omega)]
      rfl
def pdSetPlant (g : PD) (p : Nat) (what v : Int32) : PD := if what = 0 then (g.1, g.2.1, g.2.2.1, g.2.2.2.1.set p v, g.2.2.2.2) else if what = 1 then (g.1, g.2.1, g.2.2.1, g.2.2.2.1, g.2.2.2.2.1.set p v, g.2.2.2.2.2) else (g.1, g.2.1, g.2.2.1, g.2.2.2.1, g.2.2.2.2.1, g.2.2.2.2.2.1.set p v, g.2.2.2.2.2.2)
theorem Prog_setPlantValue_w {w : Wd} {a p : Nat} {what v : Int32} (hs : isPg a) (hw : WL w) (hg : wfP (pdW w a)) (hp' : p < 4) : ∃ w', Prog_setPlantValue a (nI p) what v (hp w) = some ((), hp w') ∧ WL w' ∧ pdW w' a = pdSetPlant (pdW w a) p what v ∧ Fr w w' a (a + 7) := by
  have l1 : (w.1 (a + 1)).length = 4 := hg.2.1.1
  have l2 : (w.1 (a + 2)).length = 4 := hg.2.1.2.1
  have l3 : (w.1 (a + 3)).length = 4 := hg.2.1.2.2.1
  unfold Prog_setPlantValue pdSetPlant
  by_cases h0 : what = 0
  · subst h0
    simp only [not_true_eq_false, ↓reduceIte, pgR3 hs, Option.bind_some]
    rw [ast_w (j := p) hs.2.1 rfl (by omega) (by omega)]
    exact ⟨_, rfl, hw.S, by simp [pdW, wA, nar], Fr.A (by omega) (by omega)⟩
  · by_cases h1 : what = 1
    · subst h1
      simp only [h0, not_true_eq_false, not_false_eq_true, ↓reduceIte, pgR4 hs, Option.bind_some]
      rw [ast_w (j := p) hs.2.2.1 rfl (by omega) (by omega)]
      exact ⟨_, rfl, hw.S, by simp [pdW, wA, nar], Fr.A (by omega) (by omega)⟩
    · simp only [h0, h1, not_false_eq_true, ↓reduceIte, pgR5 hs, Option.bind_some]
      rw [ast_w (j := p) hs.2.2.2.1 rfl (by omega) (by omega)]
      exact ⟨_, rfl, hw.S, by simp [pdW, wA, nar], Fr.A (by omega) (by omega)⟩
def pdAddPlant (g : PD) (f s m : Int32) : PD := (g.1 + 1, g.2.1, g.2.2.1, g.2.2.2.1.set (pNp g) f, g.2.2.2.2.1.set (pNp g) s, g.2.2.2.2.2.1.set (pNp g) m, g.2.2.2.2.2.2)
theorem Prog_addPlant_w {w : Wd} {a : Nat} {f s m : Int32} (hs : isPg a) (hw : WL w) (hg : wfP (pdW w a)) (hp' : pNp (pdW w a) < 4) : ∃ w', Prog_addPlant a f s m (hp w) = some ((), hp w') ∧ WL w' ∧ pdW w' a = pdAddPlant (pdW w a) f s m ∧ Fr w w' a (a + 7) := by
  have l1 : (w.1 (a + 1)).length = 4 := hg.2.1.1
  have l2 : (w.1 (a + 2)).length = 4 := hg.2.1.2.1
  have l3 : (w.1 (a + 3)).length = 4 := hg.2.1.2.2.1
  have e0 : w.2 a 0 = nI (pNp (pdW w a)) := hg.1.1.1
  have hg1 : (pdW w a).1 = nI (pNp (pdW w a)) := e0
  refine ⟨?w, ?h1, ?h2, ?h3, ?h4⟩
  case h1 =>
    unfold Prog_addPlant
    simp only [pgI0 hs, Option.bind_some, e0]
    rw [if_neg (show ¬ (4 : Int32) ≤ nI (pNp (pdW w a)) from nI_ge (b := 4) hp' (by omega))]
    simp only [pgR3 hs, Option.bind_some]
    rw [ast_w (j := pNp (pdW w a)) hs.2.1 rfl (by omega) (by omega)]
    simp only [pgR4 hs, pgI0 hs, wA_F, e0, Option.bind_some]
    rw [ast_w (j := pNp (pdW w a)) hs.2.2.1 rfl (by simp [wA]; omega) (by omega)]
    simp only [pgR5 hs, pgI0 hs, wA_F, e0, Option.bind_some]
    rw [ast_w (j := pNp (pdW w a)) hs.2.2.2.1 rfl (by simp [wA]; omega) (by omega)]
    simp only [pgI0 hs, pgP0 hs, wA_F, e0, Option.bind_some, Prog_addPlant_j48]
    rfl
  case h2 => exact hw.S.S.S.F
  case h3 =>
    unfold pdAddPlant
    rw [hg1]
    simp [pdW, wA, wF, nar]
  case h4 =>
    repeat (first | exact Fr.rfl' | refine Fr.cA ?_ ?_ ?_ | refine Fr.cF ?_ ?_ ?_)
    all_goals omega
def pdAddCase (g : PD) (x : Int32) : PD := (g.1, g.2.1, g.2.2.1 + 1, g.2.2.2.1, g.2.2.2.2.1, g.2.2.2.2.2.1, g.2.2.2.2.2.2.1, g.2.2.2.2.2.2.2.1.set (pNc g) x, g.2.2.2.2.2.2.2.2)
theorem Prog_addCase_w {w : Wd} {a : Nat} {x : Int32} (hs : isPg a) (hw : WL w) (hg : wfP (pdW w a)) (hp' : pNc (pdW w a) < 4) : ∃ w', Prog_addCase a x (hp w) = some ((), hp w') ∧ WL w' ∧ pdW w' a = pdAddCase (pdW w a) x ∧ Fr w w' a (a + 7) := by
  have l1 : (w.1 (a + 5)).length = 4 := hg.2.1.2.2.2.2.1
  have e0 : w.2 a 2 = nI (pNc (pdW w a)) := hg.1.2.2.1
  have hg1 : (pdW w a).2.2.1 = nI (pNc (pdW w a)) := e0
  refine ⟨?w, ?h1, ?h2, ?h3, ?h4⟩
  case h1 =>
    unfold Prog_addCase
    simp only [pgI2 hs, Option.bind_some, e0]
    rw [if_neg (show ¬ (4 : Int32) ≤ nI (pNc (pdW w a)) from nI_ge (b := 4) hp' (by omega))]
    simp only [pgR7 hs, Option.bind_some]
    rw [ast_w (j := pNc (pdW w a)) hs.2.2.2.2.2.1 rfl (by omega) (by omega)]
    simp only [pgI2 hs, pgP2 hs, wA_F, e0, Option.bind_some, Prog_addCase_j28]
    rfl
  case h2 => exact hw.S.F
  case h3 =>
    unfold pdAddCase
    rw [hg1]
    simp [pdW, wA, wF, nar]
  case h4 =>
    repeat (first | exact Fr.rfl' | refine Fr.cA ?_ ?_ ?_ | refine Fr.cF ?_ ?_ ?_)
    all_goals omega
def pd0 : PD := (0, 0, 0, List.replicate 4 0, List.replicate 4 0, List.replicate 4 0, List.replicate 24 (-1), List.replicate 4 0, List.replicate 24 0)
theorem Prog_wipe_w {w : Wd} {a : Nat} (hs : isPg a) (hl : pgLen a) (hw : WL w) : ∃ w', Prog_wipe a (hp w) = some ((), hp w') ∧ WL w' ∧ pdW w' a = pd0 ∧ Fr w w' a (a + 7) := by
  obtain ⟨l1, l2, l3, l4, l5, l6⟩ := hl.w hw
  refine ⟨?w, ?h1, ?h2, ?h3, ?h4⟩
  case h1 =>
    unfold Prog_wipe
    simp only [pgP0 hs, pgP1 hs, pgP2 hs, Option.bind_some, pgR3 hs]
    rw [fill_w hs.2.1 (by simp [wF]; omega)]
    simp only [bnd2_some, Option.bind_some, pgR4 hs]
    rw [fill_w hs.2.2.1 (by simp [wF, wA]; omega)]
    simp only [bnd2_some, Option.bind_some, pgR5 hs]
    rw [fill_w hs.2.2.2.1 (by simp [wF, wA]; omega)]
    simp only [bnd2_some, Option.bind_some, pgR6 hs]
    rw [fill_w hs.2.2.2.2.1 (by simp [wF, wA]; omega)]
    simp only [bnd2_some, Option.bind_some, pgR7 hs]
    rw [fill_w hs.2.2.2.2.2.1 (by simp [wF, wA]; omega)]
    simp only [bnd2_some, Option.bind_some, pgR8 hs]
    rw [fill_w hs.2.2.2.2.2.2 (by simp [wF, wA]; omega), bnd2_some]
  case h2 =>
    repeat (first | exact hw | refine WL.A ?_ ?_ | refine WL.F ?_)
    all_goals (simp [wA, wF]; exact hw _)
  case h3 => simp [pdW, wA, wF, pd0, l1, l2, l3, l4, l5, l6]
  case h4 =>
    repeat (first | exact Fr.rfl' | refine Fr.cA ?_ ?_ ?_ | refine Fr.cF ?_ ?_ ?_)
    all_goals omega
def roadsP (g : PD) : Int32 := sumN (fun k => if g.2.2.2.2.2.2.1.getD k 0 = -1 then 0 else 1) 24
theorem Prog_countRoads_w {w : Wd} {a : Nat} (hs : isPg a) (hg : wfP (pdW w a)) : Prog_countRoads a (hp w) = some (roadsP (pdW w a), hp w) := by
  have hl : (w.1 (a + 4)).length = 24 := hg.2.1.2.2.2.1
  have hit : iter (Prog_countRoads_b4 a (hp w)) Lmax (0, 0) = some (roadsP (pdW w a), nI 24) := by
    refine iter_L (fun j => (sumN (fun k => if (w.1 (a + 4)).getD k 0 = -1 then 0 else 1) j, nI j)) 24 (by omega) ?_ ?_
    · intro j hj
      have hc : ¬ (24 : Int32) ≤ nI j := nI_ge (b := 24) hj (by omega)
      simp only [Prog_countRoads_b4, if_neg hc, pgR6 hs, Option.bind_some, ald_w hs.2.2.2.2.1 rfl (show j < (w.1 (a + 4)).length by omega) (by omega), Prog_countRoads_j23, nI_1, sumN]
      by_cases h : (w.1 (a + 4)).getD j 0 = -1
      · rw [if_pos h, if_pos h, Int32.add_zero]
      · rw [if_neg h, if_neg h]
    · have hc : (24 : Int32) ≤ nI 24 := by decide
      simp only [Prog_countRoads_b4, if_pos hc]
      rfl
  simp only [Prog_countRoads, hit, Option.bind_some, Prog_countRoads_j29]
def prodN (f : Nat → Int32) : Nat → Int32
  | 0 => 1
  | n + 1 => prodN f n * f n
def plansP (g : PD) : Int32 := prodN (fun p => pMost g p + 1) (pNp g)
theorem Prog_countPlans_w {w : Wd} {a : Nat} (hs : isPg a) (hg : wfP (pdW w a)) : Prog_countPlans a (hp w) = some (plansP (pdW w a), hp w) := by
  have hl : (w.1 (a + 3)).length = 4 := hg.2.1.2.2.1
  have hnp := hg.1.1
  have e0 : w.2 a 0 = nI (pNp (pdW w a)) := hnp.1
  have hit : iter (Prog_countPlans_b4 a (hp w)) Lmax (1, 0) = some (plansP (pdW w a), nI (pNp (pdW w a))) := by
    refine iter_L (fun j => (prodN (fun p => pMost (pdW w a) p + 1) j, nI j)) (pNp (pdW w a)) (by omega) ?_ ?_
    · intro j hj
      have hc : ¬ nI (pNp (pdW w a)) ≤ nI j := nI_ge hj (by omega)
      simp only [Prog_countPlans_b4, pgI0 hs, Option.bind_some, e0, if_neg hc, pgR5 hs, ald_w hs.2.2.2.1 rfl (show j < (w.1 (a + 3)).length by omega) (by omega), nI_1, prodN]
      rfl
    · have hc : nI (pNp (pdW w a)) ≤ nI (pNp (pdW w a)) := nI_le (Nat.le_refl _) (by omega)
      simp only [Prog_countPlans_b4, pgI0 hs, Option.bind_some, e0, if_pos hc]
      rfl
  simp only [Prog_countPlans, hit, Option.bind_some, Prog_countPlans_j29]
def sumWP (g : PD) : Int32 := sumN (pWt g) (pNc g)
theorem Prog_sumOfWeights_w {w : Wd} {a : Nat} (hs : isPg a) (hg : wfP (pdW w a)) : Prog_sumOfWeights a (hp w) = some (sumWP (pdW w a), hp w) := by
  have hl : (w.1 (a + 5)).length = 4 := hg.2.1.2.2.2.2.1
  have hnp := hg.1.2.2
  have e0 : w.2 a 2 = nI (pNc (pdW w a)) := hnp.1
  have hit : iter (Prog_sumOfWeights_b4 a (hp w)) Lmax (0, 0) = some (sumWP (pdW w a), nI (pNc (pdW w a))) := by
    refine iter_L (fun j => (sumN (pWt (pdW w a)) j, nI j)) (pNc (pdW w a)) (by omega) ?_ ?_
    · intro j hj
      have hc : ¬ nI (pNc (pdW w a)) ≤ nI j := nI_ge hj (by omega)
      simp only [Prog_sumOfWeights_b4, pgI2 hs, Option.bind_some, e0, if_neg hc, pgR7 hs, ald_w hs.2.2.2.2.2.1 rfl (show j < (w.1 (a + 5)).length by omega) (by omega), nI_1, sumN]
      rfl
    · have hc : nI (pNc (pdW w a)) ≤ nI (pNc (pdW w a)) := nI_le (Nat.le_refl _) (by omega)
      simp only [Prog_sumOfWeights_b4, pgI2 hs, Option.bind_some, e0, if_pos hc]
      rfl
  simp only [Prog_sumOfWeights, hit, Option.bind_some, Prog_sumOfWeights_j27]
def orN (f : Nat → Int32) : Nat → Int32
  | 0 => 0
  | n + 1 => orN f n ||| f n
def maskP (g : PD) (s : Nat) : Int32 := orN (fun p => if pToll g p s = -1 then 0 else (1 : Int32) <<< (nI p &&& 31)) (pNp g)
theorem Prog_plantsOf_w {w : Wd} {a s : Nat} (hs : isPg a) (hg : wfP (pdW w a)) (hs' : s < 6) : Prog_plantsOf a (nI s) (hp w) = some (maskP (pdW w a) s, hp w) := by
  have hl : (w.1 (a + 4)).length = 24 := hg.2.1.2.2.2.1
  have hnp := hg.1.1
  have e0 : w.2 a 0 = nI (pNp (pdW w a)) := hnp.1
  have hit : iter (Prog_plantsOf_b4 a (nI s) (hp w)) Lmax (0, 0) = some (maskP (pdW w a) s, nI (pNp (pdW w a))) := by
    refine iter_L (fun j => (orN (fun p => if pToll (pdW w a) p s = -1 then 0 else (1 : Int32) <<< (nI p &&& 31)) j, nI j)) (pNp (pdW w a)) (by omega) ?_ ?_
    · intro j hj
      have hc : ¬ nI (pNp (pdW w a)) ≤ nI j := nI_ge hj (by omega)
      simp only [Prog_plantsOf_b4, pgI0 hs, Option.bind_some, e0, if_neg hc, pgR6 hs, nI_m6, ald_w hs.2.2.2.2.1 rfl (show j * 6 + s < (w.1 (a + 4)).length by omega) (by omega), Prog_plantsOf_j33, nI_1, orN]
      have e : (w.1 (a + 4)).getD (j * 6 + s) 0 = pToll (pdW w a) j s := rfl
      rw [e]
      by_cases h : pToll (pdW w a) j s = -1
      · rw [if_pos h, if_pos h, Int32.or_zero]
      · rw [if_neg h, if_neg h]
    · have hc : nI (pNp (pdW w a)) ≤ nI (pNp (pdW w a)) := nI_le (Nat.le_refl _) (by omega)
      simp only [Prog_plantsOf_b4, pgI0 hs, Option.bind_some, e0, if_pos hc]
      rfl
  simp only [Prog_plantsOf, hit, Option.bind_some, Prog_plantsOf_j39]
