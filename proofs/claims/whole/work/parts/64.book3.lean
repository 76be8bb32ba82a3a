noncomputable def totT (g : PD) (n : Nat) : Int32 := if isPlanP g (nI n) = true then totalP g (nI n) else -1
noncomputable def chP (g : PD) : Nat → Int32 × Int32
  | 0 => (-1, -1)
  | n + 1 => if totT g n = -1 then chP g n else if (chP g n).1 = -1 then (nI n, totT g n) else if (chP g n).2 ≤ totT g n then chP g n else (nI n, totT g n)
theorem Book_cheapestPlan_w {w : Wd} (hw : WL w) (hg : wfP (pdW w 2)) (hk : bkOk w (pdW w 2)) : ∃ w', Book_cheapestPlan 18 2 (hp w) = some ((chP (pdW w 2) 256).1, hp w') ∧ WL w' ∧ Fr w w' 20 33 ∧ bkOk w' (pdW w 2) := by
  obtain ⟨q, i1, W, rfl, hW, hF, hb⟩ := iter_I (body := Book_cheapestPlan_b7 18 2) (fun j st => ∃ W, st = ((chP (pdW w 2) j).1, (chP (pdW w 2) j).2, nI j, hp W) ∧ WL W ∧ Fr w W 20 33 ∧ bkOk W (pdW w 2)) (fun r => ∃ W, r = ((chP (pdW w 2) 256).1, (chP (pdW w 2) 256).2, nI 256, hp W) ∧ WL W ∧ Fr w W 20 33 ∧ bkOk W (pdW w 2)) 256 (s0 := ((-1), (-1), 0, hp w)) (by omega) ⟨w, rfl, hw, Fr.rfl', hk⟩ (by
    rintro j st hj ⟨W, rfl, hW, hF, hb⟩
    left
    have hcn : ¬ (256 : Int32) ≤ nI j := nI_ge (b := 256) hj (by omega)
    have egW : pdW W 2 = pdW w 2 := pd_fr hF (by omega)
    have hgW : wfP (pdW W 2) := by rw [egW]; exact hg
    have ep := Prog_isPlan_w (plan := nI j) isPg_2 hgW
    rw [egW] at ep
    simp only [Book_cheapestPlan_b7, if_neg hcn, k2, Option.bind_some, ep, bnd2_some]
    have fin : ∀ V : Wd, WL V → Fr w V 20 33 → bkOk V (pdW w 2) → ∃ s', Book_cheapestPlan_j35 18 2 (chP (pdW w 2) j).1 (chP (pdW w 2) j).2 (nI j) (totT (pdW w 2) j) (hp V) = some (Sum.inl s') ∧ ∃ W, s' = ((chP (pdW w 2) (j + 1)).1, (chP (pdW w 2) (j + 1)).2, nI (j + 1), hp W) ∧ WL W ∧ Fr w W 20 33 ∧ bkOk W (pdW w 2) := by
      intro V h1 h2 h3
      have e : chP (pdW w 2) (j + 1) = if totT (pdW w 2) j = -1 then chP (pdW w 2) j else if (chP (pdW w 2) j).1 = -1 then (nI j, totT (pdW w 2) j) else if (chP (pdW w 2) j).2 ≤ totT (pdW w 2) j then chP (pdW w 2) j else (nI j, totT (pdW w 2) j) := rfl
      unfold Book_cheapestPlan_j35
      by_cases t1 : totT (pdW w 2) j = -1
      · rw [if_pos t1] at e ⊢
        simp only [Book_cheapestPlan_j60, nI_1]
        exact ⟨_, rfl, V, by rw [e], h1, h2, h3⟩
      · rw [if_neg t1] at e ⊢
        by_cases t2 : (chP (pdW w 2) j).1 = -1
        · rw [if_pos t2] at e ⊢
          simp only [Book_cheapestPlan_j54, Book_cheapestPlan_j60, nI_1]
          exact ⟨_, rfl, V, by rw [e], h1, h2, h3⟩
        · rw [if_neg t2] at e ⊢
          by_cases t3 : (chP (pdW w 2) j).2 ≤ totT (pdW w 2) j
          · rw [if_pos t3] at e ⊢
            simp only [Book_cheapestPlan_j60, nI_1]
            exact ⟨_, rfl, V, by rw [e], h1, h2, h3⟩
          · rw [if_neg t3] at e ⊢
            simp only [Book_cheapestPlan_j54, Book_cheapestPlan_j60, nI_1]
            exact ⟨_, rfl, V, by rw [e], h1, h2, h3⟩
    by_cases hpl : isPlanP (pdW w 2) (nI j) = true
    · rw [hpl, if_neg (by decide)]
      obtain ⟨V, t1, t2, t3, t4⟩ := Book_totalAt_w (plan := j) hW hgW hj (by rw [egW]; exact hb)
      rw [egW] at t1 t4
      simp only [k18, Option.bind_some, t1, bnd2_some]
      have e : totalP (pdW w 2) (nI j) = totT (pdW w 2) j := by unfold totT; rw [if_pos hpl]
      rw [e]
      exact fin V t2 (hF.tr t3) t4
    · have hpl' : isPlanP (pdW w 2) (nI j) = false := by simpa using hpl
      rw [hpl', if_pos (by decide)]
      have e : (-1 : Int32) = totT (pdW w 2) j := by unfold totT; rw [if_neg hpl]
      rw [e]
      exact fin W hW hF hb) (by
    rintro st ⟨W, rfl, hW, hF, hb⟩
    exact ⟨((chP (pdW w 2) 256).1, (chP (pdW w 2) 256).2, nI 256, hp W), by simp only [Book_cheapestPlan_b7, if_pos (show (256 : Int32) ≤ nI 256 by decide)], W, rfl, hW, hF, hb⟩)
  exact ⟨W, by simp only [Book_cheapestPlan, i1, Option.bind_some, Book_cheapestPlan_j66], hW, hF, hb⟩
noncomputable def prcT (g : PD) (c n : Nat) : Int32 := if isPlanP g (nI n) = true then priceP g c (nI n) else -1
noncomputable def leP (g : PD) (c : Nat) : Nat → Int32
  | 0 => -1
  | n + 1 => if prcT g c n = -1 then leP g c n else if leP g c n = -1 then feesP g (nI n) + prcT g c n else if feesP g (nI n) + prcT g c n < leP g c n then feesP g (nI n) + prcT g c n else leP g c n
theorem Book_leastOfCase_w {w : Wd} {c : Nat} (hw : WL w) (hg : wfP (pdW w 2)) (hc : c < 4) (hk : bkOk w (pdW w 2)) : ∃ w', Book_leastOfCase 18 2 (nI c) (hp w) = some (leP (pdW w 2) c 256, hp w') ∧ WL w' ∧ Fr w w' 20 33 ∧ bkOk w' (pdW w 2) := by
  obtain ⟨q, i1, W, rfl, hW, hF, hb⟩ := iter_I (body := Book_leastOfCase_b5 18 2 (nI c)) (fun j st => ∃ W, st = (leP (pdW w 2) c j, nI j, hp W) ∧ WL W ∧ Fr w W 20 33 ∧ bkOk W (pdW w 2)) (fun r => ∃ W, r = (leP (pdW w 2) c 256, nI 256, hp W) ∧ WL W ∧ Fr w W 20 33 ∧ bkOk W (pdW w 2)) 256 (s0 := ((-1), 0, hp w)) (by omega) ⟨w, rfl, hw, Fr.rfl', hk⟩ (by
    rintro j st hj ⟨W, rfl, hW, hF, hb⟩
    left
    have hcn : ¬ (256 : Int32) ≤ nI j := nI_ge (b := 256) hj (by omega)
    have egW : pdW W 2 = pdW w 2 := pd_fr hF (by omega)
    have hgW : wfP (pdW W 2) := by rw [egW]; exact hg
    have ep := Prog_isPlan_w (plan := nI j) isPg_2 hgW
    rw [egW] at ep
    simp only [Book_leastOfCase_b5, if_neg hcn, k2, Option.bind_some, ep, bnd2_some]
    have fin : ∀ V : Wd, WL V → Fr w V 20 33 → bkOk V (pdW w 2) → ∃ s', Book_leastOfCase_j34 18 2 (nI c) (leP (pdW w 2) c j) (nI j) (prcT (pdW w 2) c j) (hp V) = some (Sum.inl s') ∧ ∃ W, s' = (leP (pdW w 2) c (j + 1), nI (j + 1), hp W) ∧ WL W ∧ Fr w W 20 33 ∧ bkOk W (pdW w 2) := by
      intro V h1 h2 h3
      have egV : pdW V 2 = pdW w 2 := pd_fr h2 (by omega)
      have ef := Prog_feesOf_w (plan := nI j) isPg_2 (show wfP (pdW V 2) by rw [egV]; exact hg)
      rw [egV] at ef
      have e : leP (pdW w 2) c (j + 1) = if prcT (pdW w 2) c j = -1 then leP (pdW w 2) c j else if leP (pdW w 2) c j = -1 then feesP (pdW w 2) (nI j) + prcT (pdW w 2) c j else if feesP (pdW w 2) (nI j) + prcT (pdW w 2) c j < leP (pdW w 2) c j then feesP (pdW w 2) (nI j) + prcT (pdW w 2) c j else leP (pdW w 2) c j := rfl
      unfold Book_leastOfCase_j34
      by_cases t1 : prcT (pdW w 2) c j = -1
      · rw [if_pos t1] at e ⊢
        simp only [Book_leastOfCase_j70, nI_1]
        exact ⟨_, rfl, V, by rw [e], h1, h2, h3⟩
      · rw [if_neg t1] at e ⊢
        simp only [k2, Option.bind_some, ef, bnd2_some]
        by_cases t2 : leP (pdW w 2) c j = -1
        · rw [if_pos t2] at e
          rw [if_neg (fun h => h t2)]
          simp only [Book_leastOfCase_j69, Book_leastOfCase_j70, nI_1]
          exact ⟨_, rfl, V, by rw [e], h1, h2, h3⟩
        · rw [if_neg t2] at e
          rw [if_pos t2]
          simp only [Book_leastOfCase_j69, Book_leastOfCase_j70, nI_1]
          exact ⟨_, rfl, V, by rw [e], h1, h2, h3⟩
    by_cases hpl : isPlanP (pdW w 2) (nI j) = true
    · rw [hpl, if_neg (by decide)]
      obtain ⟨V, x, t1, t2, t3, t4, t5⟩ := Book_priceAt_w (c := c) (plan := j) hW hgW hc hj (by rw [egW]; exact hb)
      rw [egW] at t2 t5
      simp only [k18, Option.bind_some, t1, bnd2_some]
      have e : x = prcT (pdW w 2) c j := by unfold prcT; rw [if_pos hpl, priceP_eq t2]
      rw [e]
      exact fin V t3 (hF.tr t4) t5
    · have hpl' : isPlanP (pdW w 2) (nI j) = false := by simpa using hpl
      rw [hpl', if_pos (by decide)]
      have e : (-1 : Int32) = prcT (pdW w 2) c j := by unfold prcT; rw [if_neg hpl]
      rw [e]
      exact fin W hW hF hb) (by
    rintro st ⟨W, rfl, hW, hF, hb⟩
    exact ⟨(leP (pdW w 2) c 256, nI 256, hp W), by simp only [Book_leastOfCase_b5, if_pos (show (256 : Int32) ≤ nI 256 by decide)], W, rfl, hW, hF, hb⟩)
  exact ⟨W, by simp only [Book_leastOfCase, i1, Option.bind_some, Book_leastOfCase_j76], hW, hF, hb⟩
