/-! what cuts tell of all plans -/
def rchF (g : PD) (c : Nat) (plan : Int32) (m : Int32) (cut : List Int32) : Int32 := if cK cut 0 = nI c ∧ ¬ cK cut 1 = 1 ∧ ¬ valP g cut plan ≤ m then valP g cut plan else m
def rchP (g : PD) (cs : List (List Int32)) (c : Nat) (plan : Int32) : Int32 := cs.foldl (rchF g c plan) 0
def barP (g : PD) (cs : List (List Int32)) (plan : Int32) : Bool := cs.any (fun cut => decide (cK cut 1 = 1) && !decide (valP g cut plan ≤ 0))
def flrN (g : PD) (cs : List (List Int32)) (plan : Int32) : Nat → Int32
  | 0 => feesP g plan
  | n + 1 => flrN g cs plan n + pWt g n * rchP g cs n plan
def floorP (g : PD) (cs : List (List Int32)) (plan : Int32) : Int32 := if barP g cs plan = true then -1 else flrN g cs plan (pNc g)
def bdA (w : Wd) (g : PD) (cs : List (List Int32)) : Prop := ∀ plan, plan < 256 → isPlanP g (nI plan) = true → (w.1 35).getD plan 0 = b2i (barP g cs (nI plan)) ∧ ∀ c, c < 4 → (w.1 34).getD (c * 256 + plan) 0 = rchP g cs c (nI plan)
theorem Bnds_floorAt_w {w : Wd} {cs : List (List Int32)} {plan : Nat} (hw : WL w) (hg : wfP (pdW w 2)) (hb : bdA w (pdW w 2) cs) (hp' : plan < 256) (hpl : isPlanP (pdW w 2) (nI plan) = true) : Bnds_floorAt 33 2 (nI plan) (hp w) = some (floorP (pdW w 2) cs (nI plan), hp w) := by
  have hnc := hg.1.2.2
  have e2 : w.2 2 2 = nI (pNc (pdW w 2)) := hnc.1
  have L35 := l35 hw
  have L34 := l34 hw
  have L7 := l7 hw
  obtain ⟨h1, h2⟩ := hb plan hp' hpl
  unfold Bnds_floorAt floorP
  simp only [c33_2, Option.bind_some]
  rw [ald_w (j := plan) s35 rfl (by omega) (by omega), h1]
  simp only [Option.bind_some]
  by_cases hbar : barP (pdW w 2) cs (nI plan) = true
  · rw [hbar, if_neg (by decide), if_pos rfl]
  · have hbar' : barP (pdW w 2) cs (nI plan) = false := by simpa using hbar
    rw [hbar', if_pos (by decide), if_neg (by decide)]
    have hit : iter (Bnds_floorAt_b20 33 2 (nI plan) (hp w)) Lmax (feesP (pdW w 2) (nI plan), 0) = some (flrN (pdW w 2) cs (nI plan) (pNc (pdW w 2)), nI (pNc (pdW w 2))) := by
      refine iter_L (fun j => (flrN (pdW w 2) cs (nI plan) j, nI j)) (pNc (pdW w 2)) (by omega) ?_ ?_
      · intro j hj
        have hcn : ¬ nI (pNc (pdW w 2)) ≤ nI j := nI_ge hj (by omega)
        simp only [Bnds_floorAt_b20, c2_2, Option.bind_some, e2, if_neg hcn, c2_7, c33_1, nI_m256]
        rw [ald_w (j := j) s7 rfl (by omega) (by omega)]
        simp only [Option.bind_some]
        rw [ald_w (j := j * 256 + plan) s34 rfl (by omega) (by omega), h2 j (by omega)]
        simp only [Option.bind_some, nI_1]
        rfl
      · simp only [Bnds_floorAt_b20, c2_2, Option.bind_some, e2, if_pos (nI_le (Nat.le_refl _) (show pNc (pdW w 2) < 2 ^ 31 by omega))]
    simp only [k2, Option.bind_some, Prog_feesOf_w isPg_2 hg, bnd2_some, hit, Bnds_floorAt_j59]
def flrT (g : PD) (cs : List (List Int32)) (n : Nat) : Int32 := if isPlanP g (nI n) = true then floorP g cs (nI n) else -1
def loP (g : PD) (cs : List (List Int32)) : Nat → Int32 × Int32
  | 0 => (-1, -1)
  | n + 1 => if flrT g cs n = -1 then loP g cs n else if (loP g cs n).1 = -1 then (nI n, flrT g cs n) else if (loP g cs n).2 ≤ flrT g cs n then loP g cs n else (nI n, flrT g cs n)
theorem Bnds_lowestPlan_w {w : Wd} {cs : List (List Int32)} (hw : WL w) (hg : wfP (pdW w 2)) (hb : bdA w (pdW w 2) cs) : Bnds_lowestPlan 33 2 (hp w) = some ((loP (pdW w 2) cs 256).1, hp w) := by
  have hit : iter (Bnds_lowestPlan_b7 33 2) Lmax ((-1), (-1), 0, hp w) = some ((loP (pdW w 2) cs 256).1, (loP (pdW w 2) cs 256).2, nI 256, hp w) := by
    refine iter_L (fun j => ((loP (pdW w 2) cs j).1, (loP (pdW w 2) cs j).2, nI j, hp w)) 256 (by omega) ?_ ?_
    · intro j hj
      have hcn : ¬ (256 : Int32) ≤ nI j := nI_ge (b := 256) hj (by omega)
      have fin : Bnds_lowestPlan_j35 33 2 (loP (pdW w 2) cs j).1 (loP (pdW w 2) cs j).2 (nI j) (flrT (pdW w 2) cs j) (hp w) = some (Sum.inl ((loP (pdW w 2) cs (j + 1)).1, (loP (pdW w 2) cs (j + 1)).2, nI (j + 1), hp w)) := by
        have e : loP (pdW w 2) cs (j + 1) = if flrT (pdW w 2) cs j = -1 then loP (pdW w 2) cs j else if (loP (pdW w 2) cs j).1 = -1 then (nI j, flrT (pdW w 2) cs j) else if (loP (pdW w 2) cs j).2 ≤ flrT (pdW w 2) cs j then loP (pdW w 2) cs j else (nI j, flrT (pdW w 2) cs j) := rfl
        unfold Bnds_lowestPlan_j35
        by_cases t1 : flrT (pdW w 2) cs j = -1
        · rw [if_pos t1] at e ⊢
          rw [e]
          simp only [Bnds_lowestPlan_j60, nI_1]
        · rw [if_neg t1] at e ⊢
          by_cases t2 : (loP (pdW w 2) cs j).1 = -1
          · rw [if_pos t2] at e ⊢
            rw [e]
            simp only [Bnds_lowestPlan_j54, Bnds_lowestPlan_j60, nI_1]
          · rw [if_neg t2] at e ⊢
            by_cases t3 : (loP (pdW w 2) cs j).2 ≤ flrT (pdW w 2) cs j
            · rw [if_pos t3] at e ⊢
              rw [e]
              simp only [Bnds_lowestPlan_j60, nI_1]
            · rw [if_neg t3] at e ⊢
              rw [e]
              simp only [Bnds_lowestPlan_j54, Bnds_lowestPlan_j60, nI_1]
      simp only [Bnds_lowestPlan_b7, if_neg hcn, k2, Option.bind_some, Prog_isPlan_w (plan := nI j) isPg_2 hg, bnd2_some]
      by_cases hpl : isPlanP (pdW w 2) (nI j) = true
      · rw [hpl, if_neg (by decide)]
        simp only [k33, Option.bind_some, Bnds_floorAt_w hw hg hb hj hpl, bnd2_some]
        have e : floorP (pdW w 2) cs (nI j) = flrT (pdW w 2) cs j := by unfold flrT; rw [if_pos hpl]
        rw [e]
        exact fin
      · have hpl' : isPlanP (pdW w 2) (nI j) = false := by simpa using hpl
        rw [hpl', if_pos (by decide)]
        have e : (-1 : Int32) = flrT (pdW w 2) cs j := by unfold flrT; rw [if_neg hpl]
        rw [e]
        exact fin
    · simp only [Bnds_lowestPlan_b7, if_pos (show (256 : Int32) ≤ nI 256 by decide)]
  simp only [Bnds_lowestPlan, hit, Option.bind_some, Bnds_lowestPlan_j66]
theorem Book_forgetCase_w {w : Wd} {g g' : PD} {c : Nat} (hw : WL w) (hc : c < 4) (hk : bkOk w g) (hl : ∀ c', c' < 4 → c' ≠ c → ∀ set, loadP g' c' set = loadP g c' set) (hpr : ∀ c', c' < 4 → c' ≠ c → ∀ plan x, priceR g c' plan x → priceR g' c' plan x) : ∃ w', Book_forgetCase 18 (nI c) (hp w) = some ((), hp w') ∧ WL w' ∧ Fr w w' 20 33 ∧ bkOk w' g' := by
  obtain ⟨q, i1, W, rfl, hW, hF, h1, h2⟩ := iter_I (body := Book_forgetCase_b2 18 (nI c)) (fun j st => ∃ W, st = (nI j, hp W) ∧ WL W ∧ Fr w W 32 33 ∧ (∀ plan, plan < j → (W.1 32).getD (c * 256 + plan) 0 = -2) ∧ (∀ i, (i < c * 256 ∨ c * 256 + 256 ≤ i) → (W.1 32).getD i 0 = (w.1 32).getD i 0)) (fun r => ∃ W, r = (nI 256, hp W) ∧ WL W ∧ Fr w W 32 33 ∧ (∀ plan, plan < 256 → (W.1 32).getD (c * 256 + plan) 0 = -2) ∧ (∀ i, (i < c * 256 ∨ c * 256 + 256 ≤ i) → (W.1 32).getD i 0 = (w.1 32).getD i 0)) 256 (s0 := (0, hp w)) (by omega) ⟨w, rfl, hw, Fr.rfl', fun _ h => absurd h (by omega), fun _ _ => rfl⟩ (by
    rintro j st hj ⟨W, rfl, hW, hF, h1, h2⟩
    left
    have hcn : ¬ (256 : Int32) ≤ nI j := nI_ge (b := 256) hj (by omega)
    have L32 := l32 hW
    simp only [Book_forgetCase_b2, if_neg hcn, c18_1, Option.bind_some, nI_m256]
    rw [ast_w (j := c * 256 + j) s32 rfl (by omega) (by omega)]
    simp only [Option.bind_some, nI_1]
    refine ⟨_, rfl, _, rfl, hW.S, Fr.cA hF (by omega) (by omega), ?_, ?_⟩
    · intro plan hp'
      rw [wA_s, gD_set]
      by_cases h : c * 256 + j = c * 256 + plan
      · rw [if_pos ⟨h, by omega⟩]; rfl
      · rw [if_neg (fun h' => h h'.1)]; exact h1 plan (by omega)
    · intro i hi
      rw [wA_s, gD_set, if_neg (by omega)]; exact h2 i hi) (by
    rintro st ⟨W, rfl, hW, hF, h1, h2⟩
    exact ⟨(nI 256, hp W), by simp only [Book_forgetCase_b2, if_pos (show (256 : Int32) ≤ nI 256 by decide)], W, rfl, hW, hF, h1, h2⟩)
  have L23 := l23 hW
  have e23 : W.1 23 = w.1 23 := (hF 23 (by omega)).1
  have e22 : W.1 22 = w.1 22 := (hF 22 (by omega)).1
  refine ⟨wA W 23 ((W.1 23).set c (nar 1 0)), ?_, hW.S, Fr.cA (hF.mono (by omega) (by omega)) (by omega) (by omega), ?_, ?_⟩
  · simp only [Book_forgetCase, i1, Option.bind_some, Book_forgetCase_j29, c18_0, c19_3]
    rw [ast_w (j := c) s23 rfl (by omega) (by omega)]
    rfl
  · intro c' hc'
    rw [wA_s, wA_n (by omega), gD_set]
    by_cases h : c = c'
    · subst h
      left
      rw [if_pos ⟨rfl, by omega⟩]; rfl
    · rw [if_neg (fun h' => h h'.1), e23, e22]
      rcases hk.1 c' hc' with k | ⟨k1, k2⟩
      · exact Or.inl k
      · exact Or.inr ⟨k1, fun set hset => by rw [hl c' hc' (fun h' => h h'.symm)]; exact k2 set hset⟩
  · intro c' plan hc' hp'
    rw [wA_n (by omega)]
    by_cases h : c = c'
    · subst h
      exact Or.inl (h1 plan hp')
    · rw [h2 _ (by omega)]
      rcases hk.2 c' plan hc' hp' with k | k
      · exact Or.inl k
      · exact Or.inr (hpr c' hc' (fun h' => h h'.symm) _ _ k)
