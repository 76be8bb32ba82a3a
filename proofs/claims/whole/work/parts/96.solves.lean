/-! the reference: cases solved -/
def frS (w w' : Wd) : Prop := (∀ i, i ≠ 274 → (i < 287 ∨ 290 ≤ i) → w'.1 i = w.1 i ∧ w'.2 i = w.2 i) ∧ w'.1 274 = w.1 274 ∧ (∀ k, k ≠ 21 → k ≠ 22 → w'.2 274 k = w.2 274 k)
theorem frS.rfl' {w : Wd} : frS w w := ⟨fun _ _ _ => ⟨rfl, rfl⟩, rfl, fun _ _ _ => rfl⟩
theorem frS.tr {w w' w'' : Wd} (h1 : frS w w') (h2 : frS w' w'') : frS w w'' := ⟨fun i a b => ⟨(h2.1 i a b).1.trans (h1.1 i a b).1, (h2.1 i a b).2.trans (h1.1 i a b).2⟩, h2.2.1.trans h1.2.1, fun k a b => (h2.2.2 k a b).trans (h1.2.2 k a b)⟩
theorem Mod_solves_w {w : Wd} {c n : Nat} (hw : WL w) (hg : wfP (mdG (w.1 279))) (hc : c < 4) (hn : n < 256) : ∃ w', Mod_solves 274 (nI c) (nI n) (hp w) = some (priceP (mdG (w.1 279)) c (nI n), hp w') ∧ WL w' ∧ frS w w' ∧ rateR (mdG (w.1 279)) c (nI n) (fun p => (w'.1 287).getD p 0) (fun s => (w'.1 288).getD s 0) ∧ w'.2 274 21 = lackP (mdG (w.1 279)) c (nI n) := by
  obtain ⟨V, x, L, v1, v2, v3, v4, v5, v6, v7⟩ := Mod_lackOf_w (plan := nI n) hw hg hc
  have hx := lk_lack hg hc v2
  have hV : WL V := fun i => by rw [v3]; exact hw i
  have fV : V.1 279 = w.1 279 := by rw [v3]
  have sV : frS w V := ⟨fun i h1 h2 => v4 i (by omega), by rw [v3], v7⟩
  have hpr := priceR_ex hg hc hn
  simp only [Mod_solves, k274, Option.bind_some, v1, bnd2_some]
  by_cases h0 : x = 0
  · rw [if_neg (fun h => h h0)]
    have hl : lackP (mdG (w.1 279)) c (nI n) ≤ 0 := by rw [← hx, h0]; decide
    rcases hpr with ⟨h, _⟩ | ⟨_, ws, q1, q2, q3, q4, q5⟩
    · exact absurd hl h
    · obtain ⟨W, y, y1, y2, y3, y4, y5, y6⟩ := Mod_costOf_w (w := V) (c := c) (plan := nI n) (ws := ws) hV (by rw [fV]; exact hg) hc (by rw [fV]; exact hl) (by rw [fV]; exact q1) q3
      rw [fV] at y5 y6
      simp only [k274, Option.bind_some, y1, bnd2_some]
      have ey : y = priceP (mdG (w.1 279)) c (nI n) := by rw [ti_eq, y6, q2]
      refine ⟨W, by rw [ey], y2, sV.tr ⟨fun i h1 h2 => y3 i (by omega), (y3 274 (by omega)).1, fun k _ _ => by rw [(y3 274 (by omega)).2]⟩, Or.inr ⟨hl, ws, q1, fun p hp' => ⟨y4 p hp', q3 p hp'⟩, fun s hs => y5 s hs⟩, ?_⟩
      rw [(y3 274 (by omega)).2, v5, hx]
  · rw [if_pos h0]
    have hl : ¬ lackP (mdG (w.1 279)) c (nI n) ≤ 0 := by
      intro h
      apply h0
      rw [hx, ti_eq, ti_0]
      have := lack_nn (g := mdG (w.1 279)) (c := c) (plan := nI n)
      rw [ti_le, ti_0] at h
      omega
    have hp1 : priceP (mdG (w.1 279)) c (nI n) = -1 := (priceR_m1 hpr).mpr hl
    have hL64 := v2.2.2.2
    obtain ⟨q, i1, W, rfl, hW, hF, h8⟩ := iter_I (body := Mod_solves_b18 274 (nI c) (nI n)) (fun j st => ∃ W, st = (nI j, hp W) ∧ WL W ∧ Fr V W 288 289 ∧ ∀ s, s < j → (W.1 288).getD s 0 = b2i (L.testBit s)) (fun q => ∃ W, q = (nI 6, hp W) ∧ WL W ∧ Fr V W 288 289 ∧ ∀ s, s < 6 → (W.1 288).getD s 0 = b2i (L.testBit s)) 6 (s0 := (0, hp V)) (by omega) ⟨V, rfl, hV, Fr.rfl', fun _ h => absurd h (by omega)⟩ (by
      rintro j st hj ⟨W, rfl, hW, hF, h8⟩
      left
      have hcn : ¬ (6 : Int32) ≤ nI j := nI_ge (b := 6) hj (by omega)
      have L8 := l288 hW
      have e22 : W.2 274 22 = nI L := by rw [(hF 274 (by omega)).2]; exact v6
      simp only [Mod_solves_b18, if_neg hcn, c274_24, c274_22, e22, Option.bind_some, bit_at hL64 hj]
      rw [ast_w (j := j) s288 rfl (by omega) (by omega)]
      simp only [Option.bind_some, nI_1]
      refine ⟨_, rfl, _, rfl, hW.S, Fr.cA hF (by omega) (by omega), fun s hs => ?_⟩
      rw [wA_s, gD_set]
      by_cases h : j = s
      · subst h; rw [if_pos ⟨rfl, by omega⟩]; rfl
      · rw [if_neg (fun h' => h h'.1)]; exact h8 s (by omega)) (by
      rintro st ⟨W, rfl, h⟩
      exact ⟨(nI 6, hp W), by simp only [Mod_solves_b18, if_pos (show (6 : Int32) ≤ nI 6 by decide)], W, rfl, h⟩)
    obtain ⟨q, i2, U, rfl, hU, hFU, h7⟩ := iter_I (body := Mod_solves_b46 274 (nI c) (nI n)) (fun j st => ∃ U, st = (nI j, hp U) ∧ WL U ∧ Fr W U 287 288 ∧ ∀ p, p < j → (U.1 287).getD p 0 = b2i ((rsN (mdG (w.1 279)) L 6).testBit p)) (fun q => ∃ U, q = (nI 4, hp U) ∧ WL U ∧ Fr W U 287 288 ∧ ∀ p, p < 4 → (U.1 287).getD p 0 = b2i ((rsN (mdG (w.1 279)) L 6).testBit p)) 4 (s0 := (0, hp W)) (by omega) ⟨W, rfl, hW, Fr.rfl', fun _ h => absurd h (by omega)⟩ (by
      rintro j st hj ⟨U, rfl, hU, hFU, h7⟩
      left
      have hcn : ¬ (4 : Int32) ≤ nI j := nI_ge (b := 4) hj (by omega)
      have L7 := l287 hU
      have e22 : U.2 274 22 = nI L := by rw [(hFU 274 (by omega)).2, (hF 274 (by omega)).2]; exact v6
      have fU : U.1 279 = w.1 279 := by rw [(hFU 279 (by omega)).1, (hF 279 (by omega)).1, fV]
      have rs := Mod_roadsToSet_w (S := L) hU (by rw [fU]; exact hg) hL64
      rw [fU] at rs
      have hr16 := rsN_lt (mdG (w.1 279)) L 6
      simp only [Mod_solves_b46, if_neg hcn, c274_23, c274_22, e22, k274, Option.bind_some, rs, bnd2_some, bit_at (show rsN (mdG (w.1 279)) L 6 < 64 by omega) (show j < 6 by omega)]
      rw [ast_w (j := j) s287 rfl (by omega) (by omega)]
      simp only [Option.bind_some, nI_1]
      refine ⟨_, rfl, _, rfl, hU.S, Fr.cA hFU (by omega) (by omega), fun s hs => ?_⟩
      rw [wA_s, gD_set]
      by_cases h : j = s
      · subst h; rw [if_pos ⟨rfl, by omega⟩]; rfl
      · rw [if_neg (fun h' => h h'.1)]; exact h7 s (by omega)) (by
      rintro st ⟨U, rfl, h⟩
      exact ⟨(nI 4, hp U), by simp only [Mod_solves_b46, if_pos (show (4 : Int32) ≤ nI 4 by decide)], U, rfl, h⟩)
    refine ⟨U, by simp only [i1, Option.bind_some, Mod_solves_j44, i2, Mod_solves_j75, hp1], hU, sV.tr ⟨fun i h1 h2 => ?_, ?_, fun k _ _ => ?_⟩, Or.inl ⟨hl, fun p hp' => ?_, fun s hs => ?_⟩, ?_⟩
    · exact ⟨by rw [(hFU i (by omega)).1, (hF i (by omega)).1], by rw [(hFU i (by omega)).2, (hF i (by omega)).2]⟩
    · rw [(hFU 274 (by omega)).1, (hF 274 (by omega)).1]
    · rw [(hFU 274 (by omega)).2, (hF 274 (by omega)).2]
    · show (U.1 287).getD p 0 = _
      rw [h7 p hp', lk_rayU hg hc v2 hp']
    · show (U.1 288).getD s 0 = _
      rw [(hFU 288 (by omega)).1, h8 s hs, lk_ray hg hc v2 hs]
    · rw [(hFU 274 (by omega)).2, (hF 274 (by omega)).2, v5, hx]
theorem Mod_totalOf_w {w : Wd} {n : Nat} (hw : WL w) (hg : wfP (mdG (w.1 279))) (hn : n < 256) : ∃ w', Mod_totalOf 274 (nI n) (hp w) = some (totalP (mdG (w.1 279)) (nI n), hp w') ∧ WL w' ∧ frS w w' := by
  have hnc := hg.1.2.2
  obtain ⟨q, i1, W, hq, hW, hF⟩ := iter_I (body := Mod_totalOf_b8 274 (nI n)) (fun j st => ∃ W, st = (totN (mdG (w.1 279)) (nI n) j, nI j, hp W) ∧ WL W ∧ frS w W ∧ (List.range j).all (fun c => decide (lackP (mdG (w.1 279)) c (nI n) ≤ 0)) = true) (fun r => ∃ W, (r = Sum.inr (totalP (mdG (w.1 279)) (nI n), nI (pNc (mdG (w.1 279))), hp W) ∨ (totalP (mdG (w.1 279)) (nI n) = -1 ∧ ∃ a b c, r = Sum.inl (a, b, c, hp W))) ∧ WL W ∧ frS w W) (pNc (mdG (w.1 279))) (s0 := (feesP (mdG (w.1 279)) (nI n), 0, hp w)) (by omega) ⟨w, rfl, hw, frS.rfl', rfl⟩ (by
    rintro j st hj ⟨W, rfl, hW, hF, hall⟩
    have hcn : ¬ nI (pNc (mdG (w.1 279))) ≤ nI j := nI_ge hj (by omega)
    have fW : W.1 279 = w.1 279 := (hF.1 279 (by omega) (by omega)).1
    have e2 : ald 0 (hp W) 279 2 = some (nI (pNc (mdG (w.1 279)))) := by rw [ldN hW (i := 2) (j := 2) rfl (by omega), fW]; exact congrArg some hnc.1
    obtain ⟨V, v1, v2, v3, v4, v5⟩ := Mod_solves_w (c := j) hW (by rw [fW]; exact hg) (by omega) hn
    rw [fW] at v1
    have fV : V.1 279 = w.1 279 := by rw [(v3.1 279 (by omega) (by omega)).1, fW]
    have a1 : ald 0 (hp V) 279 (47 + nI j) = some (pWt (mdG (w.1 279)) j) := by rw [m_wt (by omega), ← fV]; exact ldN v2 (nI_add 47 j) (by omega)
    have p2 := priceR_ex hg (show j < 4 by omega) hn
    simp only [Mod_totalOf_b8, c274_5, e2, Option.bind_some, if_neg hcn, k274, v1, bnd2_some, a1, nI_1]
    by_cases hx : priceP (mdG (w.1 279)) j (nI n) = -1
    · right
      rw [if_neg (fun h => h hx)]
      refine ⟨_, rfl, V, Or.inr ⟨?_, _, _, _, rfl⟩, v2, hF.tr v3⟩
      have hl := (priceR_m1 p2).mp hx
      unfold totalP
      rw [if_neg]
      intro h
      rw [List.all_eq_true] at h
      exact hl (by simpa using h j (List.mem_range.mpr hj))
    · left
      rw [if_pos hx]
      have hl : lackP (mdG (w.1 279)) j (nI n) ≤ 0 := by
        apply Decidable.byContradiction
        intro h
        exact hx ((priceR_m1 p2).mpr h)
      refine ⟨_, rfl, V, rfl, v2, hF.tr v3, ?_⟩
      rw [range_all_succ, hall]
      simp [hl]) (by
    rintro st ⟨W, rfl, hW, hF, hall⟩
    have fW : W.1 279 = w.1 279 := (hF.1 279 (by omega) (by omega)).1
    have e2 : ald 0 (hp W) 279 2 = some (nI (pNc (mdG (w.1 279)))) := by rw [ldN hW (i := 2) (j := 2) rfl (by omega), fW]; exact congrArg some hnc.1
    refine ⟨Sum.inr (totN (mdG (w.1 279)) (nI n) (pNc (mdG (w.1 279))), nI (pNc (mdG (w.1 279))), hp W), by simp only [Mod_totalOf_b8, c274_5, e2, Option.bind_some, if_pos (nI_le (Nat.le_refl _) (show pNc (mdG (w.1 279)) < 2 ^ 31 by omega))], W, Or.inl ?_, hW, hF⟩
    unfold totalP
    rw [if_pos hall])
  refine ⟨W, ?_, hW, hF⟩
  simp only [Mod_totalOf, k274, Option.bind_some, Mod_feesOf_w hw hg, bnd2_some, i1]
  rcases hq with rfl | ⟨h1, a, b, c, rfl⟩
  · simp only [Sum.elim_inr, Mod_totalOf_j55]
  · simp only [Sum.elim_inl, Mod_totalOf_j32, h1]
