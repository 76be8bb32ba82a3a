theorem Cuts_holds_w {w : Wd} {a m b i : Nat} (ha : isCt a m) (hb : isPg b) (hw : WL w) (hg : wfP (pdW w b)) (hi : i < m) : Cuts_holds a b (nI i) (hp w) = some (b2i (holdsP (pdW w b) (ctW w a i)), hp w) := by
  have hm := ha.2.2.2
  have hl : (w.1 (b + 4)).length = 24 := hg.2.1.2.2.2.1
  have e0 : w.2 b 0 = nI (pNp (pdW w b)) := hg.1.1.1
  have e1 : w.2 b 1 = nI (pNs (pdW w b)) := hg.1.2.1.1
  have hnp := hg.1.1.2
  have hns := hg.1.2.1.2
  have L2 := ctL2 ha hw
  have L4 := ctL4 ha hw
  have L5 := ctL5 ha hw
  have hin : ∀ p, p < 4 → iter (Cuts_holds_b13 a b (nI i) (nI p) (hp w)) Lmax 0 = some (match (List.range (pNs (pdW w b))).find? (badP (pdW w b) (ctW w a i) p) with
      | some s => Sum.inl (nI s, pToll (pdW w b) p s, if cK (ctW w a i) 1 = 1 then 0 else pToll (pdW w b) p s)
      | none => Sum.inr (nI (pNs (pdW w b)))) := by
    intro p hp'
    have step : ∀ s, s < pNs (pdW w b) → Cuts_holds_b13 a b (nI i) (nI p) (hp w) (nI s) = if badP (pdW w b) (ctW w a i) p s = true then some (Sum.inr (Sum.inl (nI s, pToll (pdW w b) p s, if cK (ctW w a i) 1 = 1 then 0 else pToll (pdW w b) p s))) else some (Sum.inl (nI (s + 1))) := by
      intro s hs
      have hcn : ¬ nI (pNs (pdW w b)) ≤ nI s := nI_ge hs (by omega)
      simp only [Cuts_holds_b13, pgI1 hb, Option.bind_some]
      rw [e1, if_neg hcn]
      simp only [pgR6 hb, Option.bind_some, nI_m6]
      rw [ald_w (j := p * 6 + s) hb.2.2.2.2.1 rfl (by omega) (by omega)]
      simp only [ctR3 ha, Option.bind_some]
      rw [ald_w (j := i) ha.2.1.2.1 rfl (by omega) (by omega)]
      simp only [Option.bind_some]
      have et : (w.1 (b + 4)).getD (p * 6 + s) 0 = pToll (pdW w b) p s := rfl
      rw [← cK_1, et]
      have key : ∀ t0, Cuts_holds_j52 a b (nI i) (nI p) (nI s) (pToll (pdW w b) p s) t0 (hp w) = if (¬ pToll (pdW w b) p s = -1) ∧ ¬ cK (ctW w a i) (7 + s) ≤ cK (ctW w a i) (3 + p) + t0 then some (Sum.inr (Sum.inl (nI s, pToll (pdW w b) p s, t0))) else some (Sum.inl (nI (s + 1))) := by
        intro t0
        unfold Cuts_holds_j52
        by_cases h1 : pToll (pdW w b) p s = -1
        · simp [h1, Cuts_holds_j90, nI_1]
        · rw [if_neg h1]
          simp only [ctR6 ha, ctR5 ha, Option.bind_some, nI_m6, nI_m4]
          rw [ald_w (j := i * 6 + s) ha.2.1.2.2.2.2 rfl (by omega) (by omega), Option.bind_some, ald_w (j := i * 4 + p) ha.2.1.2.2.2.1 rfl (by omega) (by omega), Option.bind_some, ← cK_v (show s < 6 by omega), ← cK_u hp']
          by_cases h2 : cK (ctW w a i) (7 + s) ≤ cK (ctW w a i) (3 + p) + t0
          · simp [h1, h2, Cuts_holds_j90, nI_1]
          · simp [h1, h2]
      by_cases h1 : cK (ctW w a i) 1 = 1
      · simp [h1, key, badP]
      · simp [h1, key, badP]
    have := iter_E (body := Cuts_holds_b13 a b (nI i) (nI p) (hp w)) (fun s => nI s) (pNs (pdW w b)) (badP (pdW w b) (ctW w a i) p) (q := Sum.inr (nI (pNs (pdW w b)))) (fun s => Sum.inl (nI s, pToll (pdW w b) p s, if cK (ctW w a i) 1 = 1 then 0 else pToll (pdW w b) p s)) (by omega) (fun s hs h => by rw [step s hs, h]; rfl) (fun s hs h => by rw [step s hs, h]; rfl) (by
      have hcn : nI (pNs (pdW w b)) ≤ nI (pNs (pdW w b)) := nI_le (Nat.le_refl _) (by omega)
      simp only [Cuts_holds_b13, pgI1 hb, Option.bind_some]
      rw [e1, if_pos hcn])
    exact this
  have hout := iter_E (body := Cuts_holds_b2 a b (nI i) (hp w)) (fun p => nI p) (pNp (pdW w b)) (fun p => !((List.range (pNs (pdW w b))).all fun s => !badP (pdW w b) (ctW w a i) p s)) (q := Sum.inr (nI (pNp (pdW w b)))) (fun p => match (List.range (pNs (pdW w b))).find? (badP (pdW w b) (ctW w a i) p) with
      | some s => Sum.inl (nI p, nI s, pToll (pdW w b) p s, if cK (ctW w a i) 1 = 1 then 0 else pToll (pdW w b) p s)
      | none => Sum.inl (0, 0, 0, 0)) (by omega) ?_ ?_ ?_
  · have e : iter (Cuts_holds_b2 a b (nI i) (hp w)) Lmax 0 = _ := hout
    unfold Cuts_holds holdsP
    rw [e, ← find_all]
    cases hf : (List.range (pNp (pdW w b))).find? (fun p => !((List.range (pNs (pdW w b))).all fun s => !badP (pdW w b) (ctW w a i) p s)) with
    | none => simp [Cuts_holds_j102, bz1, b2i]
    | some p =>
      cases hf2 : (List.range (pNs (pdW w b))).find? (badP (pdW w b) (ctW w a i) p) with
      | none => simp [Cuts_holds_j88, bz0, b2i, hf2]
      | some s => simp [Cuts_holds_j88, bz0, b2i, hf2]
  · intro p hp' hP
    have hcn : ¬ nI (pNp (pdW w b)) ≤ nI p := nI_ge hp' (by omega)
    simp only [Cuts_holds_b2, pgI0 hb, Option.bind_some]
    rw [e0, if_neg hcn, hin p (by omega)]
    have hnone : (List.range (pNs (pdW w b))).find? (badP (pdW w b) (ctW w a i) p) = none := by
      rw [List.find?_eq_none]
      intro s hs
      simp at hP
      have := hP s (List.mem_range.mp hs)
      simp [this]
    rw [hnone]
    simp [Cuts_holds_j96, nI_1]
  · intro p hp' hP
    have hcn : ¬ nI (pNp (pdW w b)) ≤ nI p := nI_ge hp' (by omega)
    simp only [Cuts_holds_b2, pgI0 hb, Option.bind_some]
    rw [e0, if_neg hcn, hin p (by omega)]
    cases hf2 : (List.range (pNs (pdW w b))).find? (badP (pdW w b) (ctW w a i) p) with
    | none =>
      exfalso
      rw [List.find?_eq_none] at hf2
      simp at hP
      obtain ⟨s, hs, h2⟩ := hP
      exact hf2 s (List.mem_range.mpr hs) h2
    | some s => simp
  · have hcn : nI (pNp (pdW w b)) ≤ nI (pNp (pdW w b)) := nI_le (Nat.le_refl _) (by omega)
    simp only [Cuts_holds_b2, pgI0 hb, Option.bind_some]
    rw [e0, if_pos hcn]
