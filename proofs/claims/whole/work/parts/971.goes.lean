/-! the reference: cuts that go -/
theorem Mod_holds_w {w : Wd} {i : Nat} (hw : WL w) (hg : wfP (mdG (w.1 279))) (hi : i < 103) : Mod_holds 274 (nI i) (hp w) = some (b2i (holdsP (mdG (w.1 279)) (mdC1 (w.1 279) i)), hp w) := by
  have hnp := hg.1.1.2
  have hns := hg.1.2.1.2
  have e13 : (75 : Int32) + 13 * nI i = nI (75 + 13 * i) := by
    have := nI_abc 75 13 i 0
    rw [Nat.add_zero, nI_0, Int32.add_zero] at this
    exact this
  have inner : ∀ p, p < 4 → iter (Mod_holds_b18 274 (nI i) (nI (75 + 13 * i)) (nI p)) Lmax (0, hp w) = some (match (List.range 6).find? (badP (mdG (w.1 279)) (mdC1 (w.1 279) i) p) with
      | some j => Sum.inl (nI j, hp w)
      | none => Sum.inr (nI 6, hp w)) := by
    intro p hp'
    have main : ∀ j, j < 6 → Mod_holds_b18 274 (nI i) (nI (75 + 13 * i)) (nI p) (nI j, hp w) = if badP (mdG (w.1 279)) (mdC1 (w.1 279) i) p j = true then some (.inr (.inl (nI j, hp w))) else some (.inl (nI (j + 1), hp w)) := by
      intro j hj
      have hcn : ¬ (6 : Int32) ≤ nI j := nI_ge (b := 6) hj (by omega)
      have a7 : ald 0 (hp w) 279 (nI (75 + 13 * i) + 7 + nI j) = some (cK (mdC1 (w.1 279) i) (7 + j)) := by
        rw [m_cut (by omega)]
        refine ldN hw (j := 75 + 13 * i + (7 + j)) ?_ (by omega)
        rw [show nI (75 + 13 * i) + 7 = nI (75 + 13 * i + 7) from nI_add _ 7, nI_add, show 75 + 13 * i + 7 + j = 75 + 13 * i + (7 + j) by omega]
      have a3 : ald 0 (hp w) 279 (nI (75 + 13 * i) + 3 + nI p) = some (cK (mdC1 (w.1 279) i) (3 + p)) := by
        rw [m_cut (by omega)]
        refine ldN hw (j := 75 + 13 * i + (3 + p)) ?_ (by omega)
        rw [show nI (75 + 13 * i) + 3 = nI (75 + 13 * i + 3) from nI_add _ 3, nI_add, show 75 + 13 * i + 3 + p = 75 + 13 * i + (3 + p) by omega]
      have a1 : ald 0 (hp w) 279 (nI (75 + 13 * i + 1)) = some (cK (mdC1 (w.1 279) i) 1) := by
        rw [m_cut (by omega)]
        exact ldN hw rfl (by omega)
      simp only [Mod_holds_b18, if_neg hcn, k274, Option.bind_some, Mod_toll_w hw hp' hj, bnd2_some, c274_5, a7, a3, a1, Mod_holds_j81, Mod_holds_j87, nI_1]
      unfold badP
      by_cases hT : pToll (mdG (w.1 279)) p j = -1
      · rw [if_pos hT, if_neg (by simp [hT])]
      · rw [if_neg hT]
        by_cases hr : cK (mdC1 (w.1 279) i) 1 = 1
        · rw [if_neg (fun h => h hr)]
          by_cases hx : cK (mdC1 (w.1 279) i) (7 + j) ≤ cK (mdC1 (w.1 279) i) (3 + p) + 0
          · rw [if_pos hx, if_neg]
            have hd : decide (¬ cK (mdC1 (w.1 279) i) (7 + j) ≤ cK (mdC1 (w.1 279) i) (3 + p) + 0) = false := decide_eq_false (fun h => h hx)
            rw [if_pos hr, hd, Bool.and_false]
            decide
          · rw [if_neg hx, if_pos]
            rw [if_pos hr, decide_eq_true hT, decide_eq_true hx]
            rfl
        · rw [if_pos hr]
          by_cases hx : cK (mdC1 (w.1 279) i) (7 + j) ≤ cK (mdC1 (w.1 279) i) (3 + p) + pToll (mdG (w.1 279)) p j
          · rw [if_pos hx, if_neg]
            rw [if_neg hr]
            have hd : decide (¬ cK (mdC1 (w.1 279) i) (7 + j) ≤ cK (mdC1 (w.1 279) i) (3 + p) + pToll (mdG (w.1 279)) p j) = false := decide_eq_false (fun h => h hx)
            rw [hd, Bool.and_false]
            decide
          · rw [if_neg hx, if_pos]
            rw [if_neg hr, decide_eq_true hT, decide_eq_true hx]
            rfl
    exact iter_E (body := Mod_holds_b18 274 (nI i) (nI (75 + 13 * i)) (nI p)) (fun j => (nI j, hp w)) 6 (badP (mdG (w.1 279)) (mdC1 (w.1 279) i) p) (q := Sum.inr (nI 6, hp w)) (fun j => Sum.inl (nI j, hp w)) (by omega) (fun j hj hP => by rw [main j hj, if_neg (by rw [hP]; decide)]) (fun j hj hP => by rw [main j hj, if_pos hP]) (by simp only [Mod_holds_b18, if_pos (show (6 : Int32) ≤ nI 6 by decide)])
  have outer := iter_E (body := Mod_holds_b10 274 (nI i) (nI (75 + 13 * i))) (fun j => (nI j, hp w)) 4 (fun p => ((List.range 6).find? (badP (mdG (w.1 279)) (mdC1 (w.1 279) i) p)).isSome) (q := Sum.inr (nI 4, hp w)) (fun p => Sum.inl (nI p, (match (List.range 6).find? (badP (mdG (w.1 279)) (mdC1 (w.1 279) i) p) with | some j => nI j | none => 0), hp w)) (by omega) (fun p hp' hP => by
      have hcn : ¬ (4 : Int32) ≤ nI p := nI_ge (b := 4) hp' (by omega)
      simp only [Mod_holds_b10, if_neg hcn, inner p hp']
      cases hf : (List.range 6).find? (badP (mdG (w.1 279)) (mdC1 (w.1 279) i) p) with
      | none => simp only [Option.bind_some, Sum.elim_inr, Mod_holds_j93, nI_1]
      | some j => rw [hf] at hP; simp at hP) (fun p hp' hP => by
      have hcn : ¬ (4 : Int32) ≤ nI p := nI_ge (b := 4) hp' (by omega)
      simp only [Mod_holds_b10, if_neg hcn, inner p hp']
      cases hf : (List.range 6).find? (badP (mdG (w.1 279)) (mdC1 (w.1 279) i) p) with
      | none => rw [hf] at hP; simp at hP
      | some j => simp only [Option.bind_some, Sum.elim_inl]) (by simp only [Mod_holds_b10, if_pos (show (4 : Int32) ≤ nI 4 by decide)])
  have hh : holdsP (mdG (w.1 279)) (mdC1 (w.1 279) i) = ((List.range 4).find? (fun p => ((List.range 6).find? (badP (mdG (w.1 279)) (mdC1 (w.1 279) i) p)).isSome)).isNone := by
    rw [Bool.eq_iff_iff, Option.isNone_iff_eq_none, List.find?_eq_none]
    unfold holdsP
    rw [List.all_eq_true]
    constructor
    · intro h p hp' hs
      rw [List.find?_isSome] at hs
      obtain ⟨s, hs1, hs2⟩ := hs
      have hp2 := List.mem_range.mp hp'
      have hs3 := List.mem_range.mp hs1
      have hT : ¬ pToll (mdG (w.1 279)) p s = -1 := by
        intro h'
        unfold badP at hs2
        rw [h'] at hs2
        simp at hs2
      have hpn : p < pNp (mdG (w.1 279)) := by
        apply Nat.lt_of_not_le
        intro h'
        exact hT (toll_m1.mpr (zT_out hg hp2 hs3 (Or.inl h')))
      have hsn : s < pNs (mdG (w.1 279)) := by
        apply Nat.lt_of_not_le
        intro h'
        exact hT (toll_m1.mpr (zT_out hg hp2 hs3 (Or.inr h')))
      have h2 := h p (List.mem_range.mpr hpn)
      rw [List.all_eq_true] at h2
      have h3 := h2 s (List.mem_range.mpr hsn)
      rw [hs2] at h3
      exact absurd h3 (by decide)
    · intro h p hp'
      have hp2 := List.mem_range.mp hp'
      rw [List.all_eq_true]
      intro s hs
      have hs2 := List.mem_range.mp hs
      cases hb : badP (mdG (w.1 279)) (mdC1 (w.1 279) i) p s
      · rfl
      · exfalso
        refine h p (List.mem_range.mpr (by omega)) ?_
        rw [List.find?_isSome]
        exact ⟨s, List.mem_range.mpr (by omega), hb⟩
  unfold Mod_holds
  have hz : ((0 : Int32), hp w) = (nI 0, hp w) := rfl
  rw [e13, hz, outer, hh]
  cases hf : (List.range 4).find? (fun p => ((List.range 6).find? (badP (mdG (w.1 279)) (mdC1 (w.1 279) i) p)).isSome) with
  | none => simp only [Option.bind_some, Sum.elim_inr, Mod_holds_j99, bz1, Option.isNone_none]; rfl
  | some p => simp only [Option.bind_some, Sum.elim_inl, Mod_holds_j85, bz0, Option.isNone_some]; rfl
/-- a cut is copied -/
theorem goes_copy {w : Wd} {v1 : Int32} {L i : Nat} (hw : WL w) (hL : L ≤ i) (hi : i < 103) : ∃ W, iter (Mod_goes_b55 274 v1 (nI L) (nI i)) Lmax (0, hp w) = some (nI 13, hp W) ∧ WL W ∧ Fr w W 279 280 ∧ (∀ t, t < 13 → (W.1 279).getD (75 + 13 * L + t) 0 = (w.1 279).getD (75 + 13 * i + t) 0) ∧ (∀ k, (k < 75 + 13 * L ∨ 75 + 13 * L + 13 ≤ k) → (W.1 279).getD k 0 = (w.1 279).getD k 0) := by
  obtain ⟨q, i1, W, rfl, hW, hF, h1, h2, _⟩ := iter_I (body := Mod_goes_b55 274 v1 (nI L) (nI i)) (fun j st => ∃ W, st = (nI j, hp W) ∧ WL W ∧ Fr w W 279 280 ∧ (∀ t, t < j → (W.1 279).getD (75 + 13 * L + t) 0 = (w.1 279).getD (75 + 13 * i + t) 0) ∧ (∀ k, (k < 75 + 13 * L ∨ 75 + 13 * L + 13 ≤ k) → (W.1 279).getD k 0 = (w.1 279).getD k 0) ∧ (∀ t, j ≤ t → t < 13 → (W.1 279).getD (75 + 13 * i + t) 0 = (w.1 279).getD (75 + 13 * i + t) 0)) (fun q => ∃ W, q = (nI 13, hp W) ∧ WL W ∧ Fr w W 279 280 ∧ (∀ t, t < 13 → (W.1 279).getD (75 + 13 * L + t) 0 = (w.1 279).getD (75 + 13 * i + t) 0) ∧ (∀ k, (k < 75 + 13 * L ∨ 75 + 13 * L + 13 ≤ k) → (W.1 279).getD k 0 = (w.1 279).getD k 0) ∧ True) 13 (s0 := (0, hp w)) (by omega) ⟨w, rfl, hw, Fr.rfl', fun _ h => absurd h (by omega), fun _ _ => rfl, fun _ _ _ => rfl⟩ (by
    rintro j st hj ⟨W, rfl, hW, hF, h1, h2, h3⟩
    left
    have hcn : ¬ (13 : Int32) ≤ nI j := nI_ge (b := 13) hj (by omega)
    have LL := l279 hW
    have a : ald 0 (hp W) 279 (75 + 13 * nI i + nI j) = some ((w.1 279).getD (75 + 13 * i + j) 0) := by
      rw [ldN hW (i := 75 + 13 * nI i + nI j) (nI_abc 75 13 i j) (by omega), h3 j (Nat.le_refl _) hj]
    simp only [Mod_goes_b55, if_neg hcn, c274_5, a, Option.bind_some]
    rw [stN hW (i := 75 + 13 * nI L + nI j) (j := 75 + 13 * L + j) (nI_abc 75 13 L j) (by omega)]
    simp only [Option.bind_some, nI_1]
    refine ⟨_, rfl, _, rfl, hW.S, Fr.cA hF (by omega) (by omega), fun t ht => ?_, fun k hk => ?_, fun t ht1 ht2 => ?_⟩
    · rw [wA_s, gD_set]
      by_cases h : j = t
      · subst h; rw [if_pos ⟨rfl, by omega⟩]
      · rw [if_neg (by omega)]; exact h1 t (by omega)
    · rw [wA_s, gD_set, if_neg (by omega)]; exact h2 k hk
    · rw [wA_s, gD_set, if_neg (by omega)]; exact h3 t (by omega) ht2) (by
    rintro st ⟨W, rfl, hW, hF, h1, h2, h3⟩
    exact ⟨(nI 13, hp W), by simp only [Mod_goes_b55, if_pos (show (13 : Int32) ≤ nI 13 by decide)], W, rfl, hW, hF, h1, h2, trivial⟩)
  exact ⟨W, i1, hW, hF, h1, h2⟩
def goP (g : PD) (age : Int32) (c : List Int32) : Bool := if age = -1 then holdsP g c else decide (cK c 2 < age)
theorem Mod_goes_w {w : Wd} {age : Int32} (hw : WL w) (hg : wfP (mdG (w.1 279))) (h9 : (w.1 279).getD 9 0 = nI (mdN (w.1 279))) (hN : mdN (w.1 279) ≤ 99) : ∃ w', Mod_goes 274 age (hp w) = some (nI (mdN (w.1 279)) - nI ((mdC (w.1 279)).filter (goP (mdG (w.1 279)) age)).length, hp w') ∧ WL w' ∧ Fr w w' 279 280 ∧ (∀ k, k < 75 → k ≠ 9 → (w'.1 279).getD k 0 = (w.1 279).getD k 0) ∧ (w'.1 279).getD 9 0 = nI ((mdC (w.1 279)).filter (goP (mdG (w.1 279)) age)).length ∧ mdC (w'.1 279) = (mdC (w.1 279)).filter (goP (mdG (w.1 279)) age) := by
  obtain ⟨q, i1, W, L, rfl, hW, hF, hk, hL, hlist⟩ := iter_I (body := Mod_goes_b4 274 age) (fun j st => ∃ W L, st = (nI L, nI j, hp W) ∧ WL W ∧ Fr w W 279 280 ∧ (∀ k, (k < 75 ∨ 75 + 13 * j ≤ k) → (W.1 279).getD k 0 = (w.1 279).getD k 0) ∧ L ≤ j ∧ (List.range L).map (mdC1 (W.1 279)) = ((List.range j).map (mdC1 (w.1 279))).filter (goP (mdG (w.1 279)) age)) (fun q => ∃ W L, q = (nI L, nI (mdN (w.1 279)), hp W) ∧ WL W ∧ Fr w W 279 280 ∧ (∀ k, (k < 75 ∨ 75 + 13 * mdN (w.1 279) ≤ k) → (W.1 279).getD k 0 = (w.1 279).getD k 0) ∧ L ≤ mdN (w.1 279) ∧ (List.range L).map (mdC1 (W.1 279)) = (mdC (w.1 279)).filter (goP (mdG (w.1 279)) age)) (mdN (w.1 279)) (s0 := (0, 0, hp w)) (by omega) ⟨w, 0, rfl, hw, Fr.rfl', fun _ _ => rfl, Nat.le_refl _, rfl⟩ (by
    rintro j st hj ⟨W, L, rfl, hW, hF, hk, hL, hlist⟩
    left
    have hcn : ¬ nI (mdN (w.1 279)) ≤ nI j := nI_ge hj (by omega)
    have eG : mdG (W.1 279) = mdG (w.1 279) := mdG_cg (fun k hk' => hk k (by omega))
    have lc : ald 0 (hp W) 279 9 = some (nI (mdN (w.1 279))) := by
      rw [ldN hW (i := 9) (j := 9) rfl (by omega), hk 9 (by omega)]
      exact congrArg some h9
    have cj : mdC1 (W.1 279) j = mdC1 (w.1 279) j := mdC1_same (fun k hk' => hk _ (by omega))
    have a2 : ald 0 (hp W) 279 (75 + 13 * nI j + 2) = some (cK (mdC1 (w.1 279) j) 2) := by
      rw [← cj, m_cut (by omega)]
      exact ldN hW (nI_abc 75 13 j 2) (by omega)
    have hh := Mod_holds_w (i := j) hW (by rw [eG]; exact hg) (by omega)
    rw [eG, cj] at hh
    have ef : ((List.range (j + 1)).map (mdC1 (w.1 279))).filter (goP (mdG (w.1 279)) age) = ((List.range j).map (mdC1 (w.1 279))).filter (goP (mdG (w.1 279)) age) ++ if goP (mdG (w.1 279)) age (mdC1 (w.1 279) j) = true then [mdC1 (w.1 279) j] else [] := by
      rw [List.range_succ, List.map_append, List.filter_append]
      by_cases h : goP (mdG (w.1 279)) age (mdC1 (w.1 279) j) = true
      · simp [List.filter, h]
      · simp [List.filter, h]
    have keep : goP (mdG (w.1 279)) age (mdC1 (w.1 279) j) = true → ∃ s', Mod_goes_j52 274 age (nI L) (nI j) (hp W) = some (.inl s') ∧ ∃ W L, s' = (nI L, nI (j + 1), hp W) ∧ WL W ∧ Fr w W 279 280 ∧ (∀ k, (k < 75 ∨ 75 + 13 * (j + 1) ≤ k) → (W.1 279).getD k 0 = (w.1 279).getD k 0) ∧ L ≤ j + 1 ∧ (List.range L).map (mdC1 (W.1 279)) = ((List.range (j + 1)).map (mdC1 (w.1 279))).filter (goP (mdG (w.1 279)) age) := by
      intro hgo
      obtain ⟨V, v1, v2, v3, v4, v5⟩ := goes_copy (v1 := age) hW hL (show j < 103 by omega)
      simp only [Mod_goes_j52, v1, Option.bind_some, Mod_goes_j98, Mod_goes_j101, nI_1]
      refine ⟨_, rfl, V, L + 1, rfl, v2, hF.tr v3, fun k hk' => ?_, by omega, ?_⟩
      · rw [v5 k (by omega)]; exact hk k (by omega)
      · rw [ef, if_pos hgo, ← hlist, List.range_succ, List.map_append]
        have e1 : (List.range L).map (mdC1 (V.1 279)) = (List.range L).map (mdC1 (W.1 279)) := by
          apply List.map_congr_left
          intro t ht
          have ht' := List.mem_range.mp ht
          exact mdC1_same (fun k hk' => v5 _ (by omega))
        have e2 : mdC1 (V.1 279) L = mdC1 (w.1 279) j := by
          rw [← cj]
          show (List.range 13).map (fun k => (V.1 279).getD (75 + 13 * L + k) 0) = (List.range 13).map (fun k => (W.1 279).getD (75 + 13 * j + k) 0)
          apply List.map_congr_left
          intro k hk'
          exact v4 k (List.mem_range.mp hk')
        rw [e1]
        show _ ++ [mdC1 (V.1 279) L] = _
        rw [e2]
    have skip : goP (mdG (w.1 279)) age (mdC1 (w.1 279) j) = false → ∃ s', Mod_goes_j101 274 age (nI L) (nI j) (hp W) = some (.inl s') ∧ ∃ W L, s' = (nI L, nI (j + 1), hp W) ∧ WL W ∧ Fr w W 279 280 ∧ (∀ k, (k < 75 ∨ 75 + 13 * (j + 1) ≤ k) → (W.1 279).getD k 0 = (w.1 279).getD k 0) ∧ L ≤ j + 1 ∧ (List.range L).map (mdC1 (W.1 279)) = ((List.range (j + 1)).map (mdC1 (w.1 279))).filter (goP (mdG (w.1 279)) age) := by
      intro hgo
      simp only [Mod_goes_j101, nI_1]
      exact ⟨_, rfl, W, L, rfl, hW, hF, fun k hk' => hk k (by omega), by omega, by rw [ef, if_neg (by rw [hgo]; decide), List.append_nil]; exact hlist⟩
    simp only [Mod_goes_b4, c274_5, lc, Option.bind_some, if_neg hcn, a2, k274, hh, bnd2_some]
    unfold goP at keep skip
    by_cases hag : age = -1
    · rw [if_neg (fun h => h hag)]
      rw [if_pos hag] at keep skip
      by_cases hb : holdsP (mdG (w.1 279)) (mdC1 (w.1 279) j) = true
      · rw [hb, if_pos (by decide)]
        exact keep hb
      · have hb' : holdsP (mdG (w.1 279)) (mdC1 (w.1 279) j) = false := by simpa using hb
        rw [hb', if_neg (by decide)]
        exact skip hb'
    · rw [if_pos hag]
      rw [if_neg hag] at keep skip
      by_cases hb : cK (mdC1 (w.1 279) j) 2 < age
      · rw [if_pos hb]
        exact keep (decide_eq_true hb)
      · rw [if_neg hb]
        exact skip (decide_eq_false hb)) (by
    rintro st ⟨W, L, rfl, hW, hF, hk, hL, hlist⟩
    have lc : ald 0 (hp W) 279 9 = some (nI (mdN (w.1 279))) := by
      rw [ldN hW (i := 9) (j := 9) rfl (by omega), hk 9 (by omega)]
      exact congrArg some h9
    exact ⟨(nI L, nI (mdN (w.1 279)), hp W), by simp only [Mod_goes_b4, c274_5, lc, Option.bind_some, if_pos (nI_le (Nat.le_refl _) (show mdN (w.1 279) < 2 ^ 31 by omega))], W, L, rfl, hW, hF, hk, hL, hlist⟩)
  have lc : ald 0 (hp W) 279 9 = some (nI (mdN (w.1 279))) := by
    rw [ldN hW (i := 9) (j := 9) rfl (by omega), hk 9 (by omega)]
    exact congrArg some h9
  have LW := l279 hW
  have hlen : L = ((mdC (w.1 279)).filter (goP (mdG (w.1 279)) age)).length := by
    rw [← hlist, List.length_map, List.length_range]
  rw [← hlen]
  refine ⟨wA W 279 ((W.1 279).set 9 (nI L)), ?_, hW.S, Fr.cA hF (by omega) (by omega), fun k h1 h2 => ?_, ?_, ?_⟩
  · simp only [Mod_goes, i1, Option.bind_some, Mod_goes_j107, c274_5, lc]
    rw [stN hW (i := 9) (j := 9) rfl (by omega)]
    rfl
  · rw [wA_s, gD_set, if_neg (by omega)]; exact hk k (by omega)
  · rw [wA_s, gD_set, if_pos ⟨rfl, by omega⟩]
  · have e9 : ((wA W 279 ((W.1 279).set 9 (nI L))).1 279).getD 9 0 = nI L := by rw [wA_s, gD_set, if_pos ⟨rfl, by omega⟩]
    rw [← hlist]
    unfold mdC mdN
    rw [e9, nI_clamp (by omega)]
    apply List.map_congr_left
    intro t ht
    refine mdC1_same (fun k hk' => ?_)
    rw [wA_s, gD_set, if_neg (by omega)]
