/-- what the row of swaps holds, of those triples (plant, site, other plant) that are done -/
def swI (w W : Wd) (D : Nat → Nat → Nat → Prop) : Prop := WL W ∧ Fr w W 26 28 ∧ (∀ p s q, p < 4 → s < 6 → q < 4 → D p s q → q ≠ p → 0 < zA w 25 (p * 6 + s) → zT (pdW w 2) q s ≠ -1 → zA W 26 (q * 4 + p) ≤ zT (pdW w 2) q s - zT (pdW w 2) p s) ∧ (∀ q p, q < 4 → p < 4 → zA W 26 (q * 4 + p) = 1000000 ∨ ∃ s, s < 6 ∧ q ≠ p ∧ 0 < zA w 25 (p * 6 + s) ∧ zT (pdW w 2) q s ≠ -1 ∧ zA W 26 (q * 4 + p) = zT (pdW w 2) q s - zT (pdW w 2) p s ∧ (W.1 27).getD (q * 4 + p) 0 = nI s)
theorem swI.mono {w W : Wd} {D E : Nat → Nat → Nat → Prop} (h : swI w W D) (hd : ∀ p s q, p < 4 → s < 6 → q < 4 → E p s q → 0 < zA w 25 (p * 6 + s) → zT (pdW w 2) q s ≠ -1 → q ≠ p → D p s q) : swI w W E :=
  ⟨h.1, h.2.1, fun p s q h1 h2 h3 h4 h5 h6 h7 => h.2.2.1 p s q h1 h2 h3 (hd p s q h1 h2 h3 h4 h6 h7 h5) h5 h6 h7, h.2.2.2⟩
theorem swap_step {w W : Wd} {D : Nat → Nat → Nat → Prop} {p s q : Nat} (hg : wfP (pdW w 2)) (hp' : p < 4) (hs : s < 6) (hq : q < pNp (pdW w 2)) (hf : 0 < zA w 25 (p * 6 + s)) (hI : swI w W D) : ∃ W', Frt_findSwaps_b45 19 2 (nI p) (nI s) (pToll (pdW w 2) p s) (nI q, hp W) = some (.inl (nI (q + 1), hp W')) ∧ swI w W' (fun p' s' q' => D p' s' q' ∨ (p' = p ∧ s' = s ∧ q' = q)) := by
  have hnp := hg.1.1
  have hq4 : q < 4 := by omega
  have hI' := hI
  obtain ⟨hW, hF, ha, hb⟩ := hI
  have eg : pdW W 2 = pdW w 2 := pd_fr hF (by omega)
  have e0 : W.2 2 0 = nI (pNp (pdW w 2)) := by rw [(hF 2 (by omega)).2]; exact hnp.1
  have e25 : W.1 25 = w.1 25 := (hF 25 (by omega)).1
  have L25 := l25 hW
  have L26 := l26 hW
  have L27 := l27 hW
  have L6 : (W.1 6).length = 24 := l6 hW
  have hcn : ¬ nI (pNp (pdW w 2)) ≤ nI q := nI_ge hq (by omega)
  have hT := zT_rng hg hq4 hs
  have hT2 := zT_rng hg hp' hs
  simp only [Frt_findSwaps_b45, c2_0, Option.bind_some, e0, if_neg hcn, c19_5, nI_m6]
  rw [ald_w (j := p * 6 + s) s25 rfl (by omega) (by omega)]
  simp only [Option.bind_some]
  have hfl : ¬ (W.1 25).getD (p * 6 + s) 0 ≤ 0 := by
    rw [ti_le, e25]
    have : ((0 : Int32)).toInt = 0 := rfl
    unfold zA at hf
    omega
  rw [if_neg hfl]
  simp only [c2_6, Option.bind_some]
  rw [ald_w (j := q * 6 + s) s6 rfl (by omega) (by omega)]
  simp only [Option.bind_some]
  have et : (W.1 6).getD (q * 6 + s) 0 = pToll (pdW w 2) q s := by rw [← eg]; rfl
  rw [et]
  have stay : (q = p ∨ zT (pdW w 2) q s = -1 ∨ zA W 26 (q * 4 + p) ≤ zT (pdW w 2) q s - zT (pdW w 2) p s) → swI w W (fun p' s' q' => D p' s' q' ∨ (p' = p ∧ s' = s ∧ q' = q)) := by
    intro hst
    refine ⟨hW, hF, ?_, hb⟩
    rintro p' s' q' h1 h2 h3 (h4 | ⟨rfl, rfl, rfl⟩) h5 h6 h7
    · exact ha p' s' q' h1 h2 h3 h4 h5 h6 h7
    · rcases hst with h | h | h
      · exact absurd h h5
      · exact absurd h h7
      · exact h
  by_cases h1 : q = p
  · rw [if_pos (by rw [h1])]
    exact ⟨W, by simp only [Frt_findSwaps_j137, nI_1], stay (Or.inl h1)⟩
  · rw [if_neg (fun h => h1 ((nI_eq (by omega) (by omega)).mp h))]
    by_cases h2 : pToll (pdW w 2) q s = -1
    · rw [if_pos h2]
      exact ⟨W, by simp only [Frt_findSwaps_j137, nI_1], stay (Or.inr (Or.inl (toll_m1.mp h2)))⟩
    · rw [if_neg h2]
      have h2' : zT (pdW w 2) q s ≠ -1 := fun h => h2 (toll_m1.mpr h)
      simp only [c19_6, Option.bind_some, nI_m4]
      rw [ald_w (j := q * 4 + p) s26 rfl (by omega) (by omega)]
      simp only [Option.bind_some]
      have es : (pToll (pdW w 2) q s - pToll (pdW w 2) p s).toInt = zT (pdW w 2) q s - zT (pdW w 2) p s := by
        unfold zT at *
        rw [ti_sub (by omega) (by omega)]
      by_cases h3 : (W.1 26).getD (q * 4 + p) 0 ≤ pToll (pdW w 2) q s - pToll (pdW w 2) p s
      · rw [if_pos h3]
        rw [ti_le, es] at h3
        exact ⟨W, by simp only [Frt_findSwaps_j137, nI_1], stay (Or.inr (Or.inr h3))⟩
      · rw [if_neg h3]
        rw [ti_le, es] at h3
        rw [ast_w (j := q * 4 + p) s26 rfl (by omega) (by omega)]
        simp only [c19_7, Option.bind_some]
        rw [ast_w (j := q * 4 + p) s27 rfl (by rw [wA_n (by omega)]; omega) (by omega)]
        simp only [Option.bind_some, Frt_findSwaps_j137, nI_1]
        refine ⟨_, rfl, hW.S.S, Fr.cA (Fr.cA hF (by omega) (by omega)) (by omega) (by omega), ?_, ?_⟩
        · intro p' s' q' k1 k2 k3 k4 k5 k6 k7
          unfold zA
          rw [wA_n (by omega), wA_s, gD_set]
          by_cases hpq : q * 4 + p = q' * 4 + p'
          · have : q = q' ∧ p = p' := by omega
            obtain ⟨rfl, rfl⟩ := this
            rw [if_pos ⟨rfl, by omega⟩]
            show (pToll (pdW w 2) q s - pToll (pdW w 2) p s).toInt ≤ _
            rw [es]
            rcases k4 with k4 | ⟨_, rfl, _⟩
            · have := ha p s' q k1 k2 k3 k4 k5 k6 k7
              unfold zA at this
              omega
            · omega
          · rw [if_neg (fun h => hpq h.1)]
            rcases k4 with k4 | ⟨rfl, rfl, rfl⟩
            · exact ha p' s' q' k1 k2 k3 k4 k5 k6 k7
            · exact absurd rfl hpq
        · intro q' p' k1 k2
          unfold zA
          rw [wA_n (by omega), wA_s, wA_s, wA_n (by omega), gD_set, gD_set]
          by_cases hpq : q * 4 + p = q' * 4 + p'
          · have : q = q' ∧ p = p' := by omega
            obtain ⟨rfl, rfl⟩ := this
            rw [if_pos ⟨rfl, by omega⟩, if_pos ⟨rfl, by omega⟩]
            right
            refine ⟨s, hs, h1, hf, h2', ?_, rfl⟩
            show (pToll (pdW w 2) q s - pToll (pdW w 2) p s).toInt = _
            rw [es]
          · rw [if_neg (fun h => hpq h.1), if_neg (fun h => hpq h.1)]
            exact hb q' p' k1 k2
theorem Frt_findSwaps_w {w : Wd} (hw : WL w) (hg : wfP (pdW w 2)) : ∃ w', Frt_findSwaps 19 2 (hp w) = some ((), hp w') ∧ swI w w' (fun p s _ => p < pNp (pdW w 2) ∧ s < pNs (pdW w 2)) := by
  have hnp := hg.1.1
  have hns := hg.1.2.1
  have L26 := l26 hw
  have h0 : swI w (wA w 26 (List.replicate (w.1 26).length 1000000)) (fun _ _ _ => False) := by
    refine ⟨hw.A (by rw [List.length_replicate]; exact hw 26), Fr.A (by omega) (by omega), fun _ _ _ _ _ _ h => absurd h id, ?_⟩
    intro q p hq hp'
    left
    unfold zA
    rw [wA_s, List.getD_eq_getElem?_getD, List.getElem?_replicate, if_pos (by omega)]
    rfl
  obtain ⟨r1, i1, W1, rfl, hW1⟩ := iter_I (body := Frt_findSwaps_b11 19 2) (fun j st => ∃ W, st = (nI j, hp W) ∧ swI w W (fun p s _ => p < j ∧ s < pNs (pdW w 2))) (fun r => ∃ W, r = (nI (pNp (pdW w 2)), hp W) ∧ swI w W (fun p s _ => p < pNp (pdW w 2) ∧ s < pNs (pdW w 2))) (pNp (pdW w 2)) (s0 := (0, hp (wA w 26 (List.replicate (w.1 26).length 1000000)))) (by omega) ⟨_, rfl, h0.mono (fun p s q _ _ _ h => absurd h.1 (by omega))⟩ (by
    rintro p st hp' ⟨W, rfl, hI⟩
    left
    have hcn : ¬ nI (pNp (pdW w 2)) ≤ nI p := nI_ge hp' (by omega)
    have e0 : W.2 2 0 = nI (pNp (pdW w 2)) := by rw [(hI.2.1 2 (by omega)).2]; exact hnp.1
    simp only [Frt_findSwaps_b11, c2_0, Option.bind_some, e0, if_neg hcn]
    obtain ⟨r2, i2, W2, rfl, hW2⟩ := iter_I (body := Frt_findSwaps_b21 19 2 (nI p)) (fun j st => ∃ W, st = (nI j, hp W) ∧ swI w W (fun p' s' _ => (p' < p ∧ s' < pNs (pdW w 2)) ∨ (p' = p ∧ s' < j))) (fun r => ∃ W, r = (nI (pNs (pdW w 2)), hp W) ∧ swI w W (fun p' s' _ => p' < p + 1 ∧ s' < pNs (pdW w 2))) (pNs (pdW w 2)) (s0 := (0, hp W)) (by omega) ⟨_, rfl, hI.mono (fun p' s' q' _ _ _ h => by rcases h with h | h; exact fun _ _ _ => h; exact absurd h.2 (by omega))⟩ (by
      rintro s st hs ⟨W, rfl, hI⟩
      left
      have hcs : ¬ nI (pNs (pdW w 2)) ≤ nI s := nI_ge hs (by omega)
      have e1 : W.2 2 1 = nI (pNs (pdW w 2)) := by rw [(hI.2.1 2 (by omega)).2]; exact hns.1
      have eg : pdW W 2 = pdW w 2 := pd_fr hI.2.1 (by omega)
      have L6 : (W.1 6).length = 24 := l6 hI.1
      simp only [Frt_findSwaps_b21, c2_1, Option.bind_some, e1, if_neg hcs, c2_6, nI_m6]
      rw [ald_w (j := p * 6 + s) s6 rfl (by omega) (by omega)]
      simp only [Option.bind_some]
      have et : (W.1 6).getD (p * 6 + s) 0 = pToll (pdW w 2) p s := by rw [← eg]; rfl
      rw [et]
      have fin : ∀ V k, swI w V (fun p' s' _ => (p' < p ∧ s' < pNs (pdW w 2)) ∨ (p' = p ∧ s' < s + 1)) → ∃ st', (Frt_findSwaps_j143 19 2 (nI p) (nI s) (pToll (pdW w 2) p s) (nI k) (hp V)) = some (Sum.inl st') ∧ ∃ W, st' = (nI (s + 1), hp W) ∧ swI w W (fun p' s' _ => (p' < p ∧ s' < pNs (pdW w 2)) ∨ (p' = p ∧ s' < s + 1)) := by
        intro V k hV
        exact ⟨_, by simp only [Frt_findSwaps_j143, nI_1], V, rfl, hV⟩
      by_cases hf : 0 < zA w 25 (p * 6 + s)
      · obtain ⟨r3, i3, W3, rfl, hW3⟩ := iter_I (body := Frt_findSwaps_b45 19 2 (nI p) (nI s) (pToll (pdW w 2) p s)) (fun j st => ∃ W, st = (nI j, hp W) ∧ swI w W (fun p' s' q' => ((p' < p ∧ s' < pNs (pdW w 2)) ∨ (p' = p ∧ s' < s)) ∨ (p' = p ∧ s' = s ∧ q' < j))) (fun r => ∃ W, r = (nI (pNp (pdW w 2)), hp W) ∧ swI w W (fun p' s' _ => (p' < p ∧ s' < pNs (pdW w 2)) ∨ (p' = p ∧ s' < s + 1))) (pNp (pdW w 2)) (s0 := (0, hp W)) (by omega) ⟨_, rfl, hI.mono (fun p' s' q' _ _ _ h => by rcases h with h | h; exact fun _ _ _ => h; exact absurd h.2.2 (by omega))⟩ (by
          rintro q st hq ⟨V, rfl, hV⟩
          left
          obtain ⟨V', f1, f2⟩ := swap_step hg (show p < 4 by omega) (show s < 6 by omega) hq hf hV
          refine ⟨_, f1, V', rfl, f2.mono ?_⟩
          intro p' s' q' _ _ _ h _ _ _
          rcases h with h | ⟨h1, h2, h3⟩
          · exact Or.inl (Or.inl h)
          · by_cases hqq : q' = q
            · exact Or.inr ⟨h1, h2, hqq⟩
            · exact Or.inl (Or.inr ⟨h1, h2, by omega⟩)) (by
          rintro st ⟨V, rfl, hV⟩
          have e0V : V.2 2 0 = nI (pNp (pdW w 2)) := by rw [(hV.2.1 2 (by omega)).2]; exact hnp.1
          refine ⟨_, by simp only [Frt_findSwaps_b45, c2_0, Option.bind_some, e0V, if_pos (nI_le (Nat.le_refl _) (show pNp (pdW w 2) < 2 ^ 31 by omega))], V, rfl, hV.mono ?_⟩
          intro p' s' q' k1 k2 k3 h k4 k5 k6
          have hq' : q' < pNp (pdW w 2) := by
            apply Decidable.byContradiction
            intro hn
            exact k5 (zT_out hg k3 k2 (Or.inl (by omega)))
          by_cases hss : s' = s
          · rcases h with h | h
            · exact Or.inl (Or.inl h)
            · exact Or.inr ⟨h.1, hss, hq'⟩
          · rcases h with h | h
            · exact Or.inl (Or.inl h)
            · exact Or.inl (Or.inr ⟨h.1, by omega⟩))
        have i3' : iter (Frt_findSwaps_b45 19 2 (nI p) (nI s) (pToll (pdW w 2) p s)) Lmax (0, hp W) = some (nI (pNp (pdW w 2)), hp W3) := i3
        simp only [i3', Option.bind_some]
        exact fin W3 (pNp (pdW w 2)) hW3
      · have hbody : Frt_findSwaps_b45 19 2 (nI p) (nI s) (pToll (pdW w 2) p s) (0, hp W) = some (.inr (0, hp W)) := by
          have e0V : W.2 2 0 = nI (pNp (pdW w 2)) := by rw [(hI.2.1 2 (by omega)).2]; exact hnp.1
          have L25 := l25 hI.1
          have hcq : ¬ nI (pNp (pdW w 2)) ≤ 0 := nI_nle (by omega) (by omega)
          simp only [Frt_findSwaps_b45, c2_0, Option.bind_some, e0V, if_neg hcq, c19_5, nI_m6]
          rw [ald_w (j := p * 6 + s) s25 rfl (by omega) (by omega)]
          simp only [Option.bind_some]
          rw [if_pos]
          rw [ti_le, (hI.2.1 25 (by omega)).1]
          have : ((0 : Int32)).toInt = 0 := rfl
          unfold zA at hf
          omega
        have i3' : iter (Frt_findSwaps_b45 19 2 (nI p) (nI s) (pToll (pdW w 2) p s)) Lmax (0, hp W) = some (nI 0, hp W) := iter_L (fun _ => (0, hp W)) 0 (by omega) (fun _ h => absurd h (by omega)) hbody
        simp only [i3', Option.bind_some]
        refine fin W 0 (hI.mono ?_)
        intro p' s' q' k1 k2 k3 h k4 k5 k6
        rcases h with h | ⟨h1, h2⟩
        · exact Or.inl h
        · by_cases hss : s' = s
          · subst hss; subst h1; exact absurd k4 hf
          · exact Or.inr ⟨h1, by omega⟩) (by
      rintro st ⟨V, rfl, hV⟩
      have e1 : V.2 2 1 = nI (pNs (pdW w 2)) := by rw [(hV.2.1 2 (by omega)).2]; exact hns.1
      refine ⟨_, by simp only [Frt_findSwaps_b21, c2_1, Option.bind_some, e1, if_pos (nI_le (Nat.le_refl _) (show pNs (pdW w 2) < 2 ^ 31 by omega))], V, rfl, hV.mono ?_⟩
      intro p' s' q' _ _ _ h _ _ _
      by_cases hpp : p' = p
      · exact Or.inr ⟨hpp, h.2⟩
      · exact Or.inl ⟨by omega, h.2⟩)
    have i2' : iter (Frt_findSwaps_b21 19 2 (nI p)) Lmax (0, hp W) = some (nI (pNs (pdW w 2)), hp W2) := i2
    rw [i2']
    simp only [Option.bind_some, Frt_findSwaps_j149, nI_1]
    exact ⟨_, rfl, W2, rfl, hW2⟩) (by
    rintro st ⟨V, rfl, hV⟩
    have e0 : V.2 2 0 = nI (pNp (pdW w 2)) := by rw [(hV.2.1 2 (by omega)).2]; exact hnp.1
    exact ⟨_, by simp only [Frt_findSwaps_b11, c2_0, Option.bind_some, e0, if_pos (nI_le (Nat.le_refl _) (show pNp (pdW w 2) < 2 ^ 31 by omega))], V, rfl, hV⟩)
  refine ⟨W1, ?_, hW1⟩
  simp only [Frt_findSwaps, c19_6, Option.bind_some]
  rw [fill_w s26 (by omega), bnd2_some, i1]
  simp only [Option.bind_some, Frt_findSwaps_j155]
