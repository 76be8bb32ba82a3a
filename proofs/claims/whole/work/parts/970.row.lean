/-! the reference's row, written -/
theorem stN {w : Wd} (hw : WL w) {i x : Int32} {j : Nat} (he : i = nI j) (hj : j < 1427) : ast 0 (hp w) 279 i x = some (hp (wA w 279 ((w.1 279).set j x))) := ast_w s279 he (by rw [l279 hw]; exact hj) (by omega)
theorem slc_cg {r r' : List Int32} {a n : Nat} (h : ∀ k, a ≤ k → k < a + n → r'.getD k 0 = r.getD k 0) : slc r' a n = slc r a n := by
  unfold slc
  apply List.map_congr_left
  intro k hk
  have := List.mem_range.mp hk
  exact h (a + k) (by omega) (by omega)
theorem mdG_cg {r r' : List Int32} (h : ∀ k, (k < 3 ∨ (11 ≤ k ∧ k < 75)) → r'.getD k 0 = r.getD k 0) : mdG r' = mdG r := by
  unfold mdG
  rw [h 0 (by omega), h 1 (by omega), h 2 (by omega), slc_cg (fun k h1 h2 => h k (by omega)), slc_cg (fun k h1 h2 => h k (by omega)), slc_cg (fun k h1 h2 => h k (by omega)), slc_cg (fun k h1 h2 => h k (by omega)), slc_cg (fun k h1 h2 => h k (by omega)), slc_cg (fun k h1 h2 => h k (by omega))]
theorem mdC_cg {r r' : List Int32} (h9 : r'.getD 9 0 = r.getD 9 0) (h : ∀ k, 75 ≤ k → r'.getD k 0 = r.getD k 0) : mdC r' = mdC r := by
  unfold mdC mdN
  rw [h9]
  apply List.map_congr_left
  intro i _
  exact slc_cg (fun k h1 _ => h k (by omega))
theorem mdC1_age {r r' : List Int32} {i : Nat} (h : ∀ k, k < 13 → k ≠ 2 → r'.getD (75 + 13 * i + k) 0 = r.getD (75 + 13 * i + k) 0) : mdC1 r' i = setAge (r'.getD (75 + 13 * i + 2) 0) (mdC1 r i) := by
  show (List.range 13).map (fun k => r'.getD (75 + 13 * i + k) 0) = (List.range 13).map (fun k => if k = 2 then r'.getD (75 + 13 * i + 2) 0 else cK (mdC1 r i) k)
  apply List.map_congr_left
  intro k hk
  have hk' := List.mem_range.mp hk
  by_cases h2 : k = 2
  · rw [if_pos h2, h2]
  · rw [if_neg h2, m_cut hk', h k hk' h2]
theorem mdC1_same {r r' : List Int32} {i : Nat} (h : ∀ k, k < 13 → r'.getD (75 + 13 * i + k) 0 = r.getD (75 + 13 * i + k) 0) : mdC1 r' i = mdC1 r i := by
  show (List.range 13).map (fun k => r'.getD (75 + 13 * i + k) 0) = (List.range 13).map (fun k => r.getD (75 + 13 * i + k) 0)
  apply List.map_congr_left
  intro k hk
  exact h k (List.mem_range.mp hk)
theorem rch_strip {g : PD} (hg : wfP g) {cs cs' : List (List Int32)} {c : Nat} {plan : Int32} (h : cs'.map (setAge 0) = cs.map (setAge 0)) : rchP g cs' c plan = rchP g cs c plan := by
  have e1 := rch_age hg (F := fun _ => 0) (c := c) (plan := plan) cs
  have e2 := rch_age hg (F := fun _ => 0) (c := c) (plan := plan) cs'
  rw [← e1, ← e2]
  show rchP g (cs'.map (setAge 0)) c plan = rchP g (cs.map (setAge 0)) c plan
  rw [h]
theorem setAge_0 {r r' : List Int32} {i : Nat} (h : ∀ k, k < 13 → k ≠ 2 → r'.getD (75 + 13 * i + k) 0 = r.getD (75 + 13 * i + k) 0) : setAge 0 (mdC1 r' i) = setAge 0 (mdC1 r i) := by
  show (List.range 13).map (fun k => if k = 2 then 0 else cK (mdC1 r' i) k) = (List.range 13).map (fun k => if k = 2 then 0 else cK (mdC1 r i) k)
  apply List.map_congr_left
  intro k hk
  have hk' := List.mem_range.mp hk
  by_cases h2 : k = 2
  · rw [if_pos h2, if_pos h2]
  · rw [if_neg h2, if_neg h2, m_cut hk', m_cut hk', h k hk' h2]
theorem age_eq {a : Int32} (h : 0 ≤ a.toInt ∧ a.toInt ≤ 99) : (if 99 ≤ a then 99 else a + 1) = if 99 < a + 1 then 99 else a + 1 := by
  have e1 : (1 : Int32).toInt = 1 := rfl
  have e99 : (99 : Int32).toInt = 99 := rfl
  have e : (a + 1).toInt = a.toInt + 1 := by rw [ti_add (by omega) (by omega), e1]
  by_cases h1 : 99 ≤ a
  · rw [if_pos h1]
    rw [ti_le, e99] at h1
    rw [if_pos (by rw [ti_lt, e99, e]; omega)]
  · rw [if_neg h1]
    rw [ti_le, e99] at h1
    rw [if_neg (by rw [ti_lt, e99, e]; omega)]
theorem Mod_ages_w {w : Wd} {plan : Int32} (hw : WL w) (hm : mdOk (w.1 279)) : ∃ w', Mod_ages 274 plan (hp w) = some ((), hp w') ∧ WL w' ∧ Fr w w' 279 280 ∧ (∀ k, k < 75 → (w'.1 279).getD k 0 = (w.1 279).getD k 0) ∧ mdC (w'.1 279) = agedP (mdG (w.1 279)) (mdC (w.1 279)) plan := by
  have hN := hm.2.1.2
  have hnc := hm.1.1.2.2.2
  obtain ⟨q, i1, W, rfl, hW, hF, hk, ha⟩ := iter_I (body := Mod_ages_b2 274 plan) (fun j st => ∃ W, st = (nI j, hp W) ∧ WL W ∧ Fr w W 279 280 ∧ (∀ k, (∀ i, i < j → k ≠ 75 + 13 * i + 2) → (W.1 279).getD k 0 = (w.1 279).getD k 0) ∧ ∀ i, i < j → (W.1 279).getD (75 + 13 * i + 2) 0 = ageP (mdG (w.1 279)) (mdC (w.1 279)) plan (mdC1 (w.1 279) i)) (fun q => ∃ W, q = (nI (mdN (w.1 279)), hp W) ∧ WL W ∧ Fr w W 279 280 ∧ (∀ k, (∀ i, i < mdN (w.1 279) → k ≠ 75 + 13 * i + 2) → (W.1 279).getD k 0 = (w.1 279).getD k 0) ∧ ∀ i, i < mdN (w.1 279) → (W.1 279).getD (75 + 13 * i + 2) 0 = ageP (mdG (w.1 279)) (mdC (w.1 279)) plan (mdC1 (w.1 279) i)) (mdN (w.1 279)) (s0 := (0, hp w)) (by omega) ⟨w, rfl, hw, Fr.rfl', fun _ _ => rfl, fun _ h => absurd h (by omega)⟩ (by
    rintro j st hj ⟨W, rfl, hW, hF, hk, ha⟩
    left
    have hcn : ¬ nI (mdN (w.1 279)) ≤ nI j := nI_ge hj (by omega)
    have eG : mdG (W.1 279) = mdG (w.1 279) := mdG_cg (fun k hk' => hk k (fun i _ => by omega))
    have e9 : (W.1 279).getD 9 0 = (w.1 279).getD 9 0 := hk 9 (fun i _ => by omega)
    have eN : mdN (W.1 279) = mdN (w.1 279) := by unfold mdN; rw [e9]
    have c1 : ∀ i, j ≤ i → mdC1 (W.1 279) i = mdC1 (w.1 279) i := fun i hi => mdC1_same (fun k hk' => hk _ (fun i' hi' => by omega))
    have c2 : ∀ i, i < j → mdC1 (W.1 279) i = setAge (ageP (mdG (w.1 279)) (mdC (w.1 279)) plan (mdC1 (w.1 279) i)) (mdC1 (w.1 279) i) := fun i hi => by
      rw [← ha i hi]
      exact mdC1_age (fun k hk' h2 => hk _ (fun i' hi' => by omega))
    have mW : mdOk (W.1 279) := by
      refine ⟨by rw [eG]; exact hm.1, ⟨by rw [eN, e9]; exact hm.2.1.1, by rw [eN]; exact hN⟩, fun c hc => ?_⟩
      rw [eG]
      unfold mdC at hc
      rw [eN] at hc
      obtain ⟨i, hi, rfl⟩ := List.mem_map.mp hc
      have hi' := List.mem_range.mp hi
      have hv := cut_at hm hi'
      by_cases hij : i < j
      · rw [c2 i hij]
        exact setAge_V hm.1 hv (age_rng hv.2.2.1)
      · rw [c1 i (by omega)]; exact hv
    have hv := cut_at hm hj
    obtain ⟨cc, hcc, hcc0⟩ := hv.1
    have tb := Mod_toldBy_w (plan := plan) hW mW.1 (show j < 103 by omega) (by rw [c1 j (Nat.le_refl _)]; exact ⟨cc, by omega, hcc0⟩)
    rw [eG, c1 j (Nat.le_refl _)] at tb
    have o0 : Mod_ofCut 274 (nI j) 0 (hp W) = some (nI cc, hp W) := by
      rw [← hcc0, ← c1 j (Nat.le_refl _)]; exact Mod_ofCut_w hW (by omega) (show 0 < 13 by omega)
    have o1 : Mod_ofCut 274 (nI j) 1 (hp W) = some (cK (mdC1 (w.1 279) j) 1, hp W) := by
      rw [← c1 j (Nat.le_refl _)]; exact Mod_ofCut_w hW (by omega) (show 1 < 13 by omega)
    have rb := Mod_reachBy_w (plan := plan) hW mW (show cc < 4 by omega)
    have es : (mdC (W.1 279)).map (setAge 0) = (mdC (w.1 279)).map (setAge 0) := by
      unfold mdC
      rw [eN, List.map_map, List.map_map]
      apply List.map_congr_left
      intro i _
      exact setAge_0 (fun k hk' h2 => hk _ (fun i' hi' => by omega))
    rw [eG, rch_strip hm.1 es] at rb
    have a2 : ald 0 (hp W) 279 (75 + 13 * nI j + 2) = some (cK (mdC1 (w.1 279) j) 2) := by
      rw [← c1 j (Nat.le_refl _), m_cut (by omega)]
      exact ldN hW (nI_abc 75 13 j 2) (by omega)
    have L := l279 hW
    have key : ∀ t1, t1 = tgtP (mdG (w.1 279)) (mdC (w.1 279)) plan (mdC1 (w.1 279) j) → ∃ s', Mod_ages_j44 274 plan (nI j) (valP (mdG (w.1 279)) (mdC1 (w.1 279) j) plan) t1 (hp W) = some (.inl s') ∧ ∃ W, s' = (nI (j + 1), hp W) ∧ WL W ∧ Fr w W 279 280 ∧ (∀ k, (∀ i, i < j + 1 → k ≠ 75 + 13 * i + 2) → (W.1 279).getD k 0 = (w.1 279).getD k 0) ∧ ∀ i, i < j + 1 → (W.1 279).getD (75 + 13 * i + 2) 0 = ageP (mdG (w.1 279)) (mdC (w.1 279)) plan (mdC1 (w.1 279) i) := by
      intro t1 ht
      have st : ∀ x, x = ageP (mdG (w.1 279)) (mdC (w.1 279)) plan (mdC1 (w.1 279) j) → ∃ s', (ast 0 (hp W) 279 (75 + 13 * nI j + 2) x).bind (fun h14 => some (Sum.inl (nI j + 1, h14))) = some (Sum.inl s' : (Int32 × AHeap) ⊕ (Int32 × AHeap)) ∧ ∃ W, s' = (nI (j + 1), hp W) ∧ WL W ∧ Fr w W 279 280 ∧ (∀ k, (∀ i, i < j + 1 → k ≠ 75 + 13 * i + 2) → (W.1 279).getD k 0 = (w.1 279).getD k 0) ∧ ∀ i, i < j + 1 → (W.1 279).getD (75 + 13 * i + 2) 0 = ageP (mdG (w.1 279)) (mdC (w.1 279)) plan (mdC1 (w.1 279) i) := by
        intro x hx
        rw [stN hW (i := 75 + 13 * nI j + 2) (j := 75 + 13 * j + 2) (nI_abc 75 13 j 2) (by omega)]
        simp only [Option.bind_some, nI_1]
        refine ⟨_, rfl, _, rfl, hW.S, Fr.cA hF (by omega) (by omega), fun k hk' => ?_, fun i hi => ?_⟩
        · rw [wA_s, gD_set, if_neg (fun h => hk' j (by omega) h.1.symm)]
          exact hk k (fun i hi => hk' i (by omega))
        · rw [wA_s, gD_set]
          by_cases hij : i = j
          · subst hij; rw [if_pos ⟨rfl, by omega⟩]; exact hx
          · rw [if_neg (fun h => by omega)]; exact ha i (by omega)
      simp only [Mod_ages_j44, Mod_ages_j52, c274_5, a2, Option.bind_some, Mod_ages_j104]
      by_cases hq : valP (mdG (w.1 279)) (mdC1 (w.1 279) j) plan = t1
      · rw [if_neg (fun h => h hq), if_neg (by decide)]
        exact st 0 (by unfold ageP; rw [← ht, if_pos hq])
      · rw [if_pos hq, if_pos trivial]
        have hag : ageP (mdG (w.1 279)) (mdC (w.1 279)) plan (mdC1 (w.1 279) j) = if 99 ≤ cK (mdC1 (w.1 279) j) 2 then 99 else cK (mdC1 (w.1 279) j) 2 + 1 := by
          unfold ageP
          rw [← ht, if_neg hq, age_eq hv.2.2.1]
        by_cases h99 : 99 ≤ cK (mdC1 (w.1 279) j) 2
        · rw [if_pos h99] at hag ⊢
          exact st _ hag.symm
        · rw [if_neg h99] at hag ⊢
          exact st _ hag.symm
    have lc := ldCuts hW mW
    rw [eN] at lc
    simp only [Mod_ages_b2, c274_5, lc, Option.bind_some, if_neg hcn, k274, tb, o1, bnd2_some]
    by_cases h1 : cK (mdC1 (w.1 279) j) 1 = 1
    · rw [if_neg (fun h => h h1)]
      exact key 0 (by unfold tgtP; rw [if_pos h1])
    · rw [if_pos h1]
      simp only [o0, rb, bnd2_some, k274, Option.bind_some]
      exact key _ (by unfold tgtP; rw [if_neg h1, hcc0, nI_clamp (by omega)])) (by
    rintro st ⟨W, rfl, hW, hF, hk, ha⟩
    have e9 : (W.1 279).getD 9 0 = (w.1 279).getD 9 0 := hk 9 (fun i _ => by omega)
    have lc : ald 0 (hp W) 279 9 = some (nI (mdN (w.1 279))) := by
      rw [ldN hW (i := 9) (j := 9) rfl (by omega), e9]
      exact congrArg some hm.2.1.1
    exact ⟨(nI (mdN (w.1 279)), hp W), by simp only [Mod_ages_b2, c274_5, lc, Option.bind_some, if_pos (nI_le (Nat.le_refl _) (show mdN (w.1 279) < 2 ^ 31 by omega))], W, rfl, hW, hF, hk, ha⟩)
  refine ⟨W, by simp only [Mod_ages, i1, Option.bind_some, Mod_ages_j111], hW, hF, fun k hk' => hk k (fun i _ => by omega), ?_⟩
  have e9 : (W.1 279).getD 9 0 = (w.1 279).getD 9 0 := hk 9 (fun i _ => by omega)
  have eN : mdN (W.1 279) = mdN (w.1 279) := by unfold mdN; rw [e9]
  have key : ∀ F : List Int32 → Int32, (∀ i, i < mdN (w.1 279) → (W.1 279).getD (75 + 13 * i + 2) 0 = F (mdC1 (w.1 279) i)) → mdC (W.1 279) = (mdC (w.1 279)).map (fun c => setAge (F c) c) := by
    intro F hFF
    unfold mdC
    rw [eN, List.map_map]
    apply List.map_congr_left
    intro i hi
    have hi' := List.mem_range.mp hi
    show mdC1 (W.1 279) i = setAge (F (mdC1 (w.1 279) i)) (mdC1 (w.1 279) i)
    rw [← hFF i hi']
    exact mdC1_age (fun k hk' h2 => hk _ (fun i' hi2 => by omega))
  exact key _ ha
