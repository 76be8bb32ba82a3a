/-! the engine: bounds made fresh, ages -/
theorem Bnds_freshen_w {w : Wd} {a m : Nat} (ha : isCt a m) (hw : WL w) (hg : wfP (pdW w 2)) (hz : cSz w a m) (hd : a + 6 ≤ 33 ∨ 36 ≤ a) (hc : ∀ i, i < cN w a → cutOk (ctW w a i)) (hs : w.2 33 0 = 1 ∨ (w.2 33 0 = 0 ∧ bdA w (pdW w 2) (cutsW w a))) : ∃ w', Bnds_freshen 33 2 a (hp w) = some ((), hp w') ∧ WL w' ∧ Fr w w' 33 36 ∧ w'.2 33 0 = 0 ∧ bdA w' (pdW w 2) (cutsW w a) := by
  unfold Bnds_freshen
  simp only [c33_0, Option.bind_some]
  have hm := ha.2.2.2
  have hzm := hz.2
  rcases hs with hs | ⟨hs, hb⟩
  · rw [hs, if_pos (by decide)]
    have L34 := l34 hw
    simp only [c33_1, Option.bind_some]
    rw [fill_w s34 (by omega), bnd2_some]
    have hW0 : WL (wA w 34 (List.replicate (w.1 34).length 0)) := WL.A hw (by rw [List.length_replicate]; exact hw 34)
    obtain ⟨q, i1, W, rfl, hW, hF, h35, h34⟩ := iter_I (body := Bnds_freshen_b18 33 2 a) (fun j st => ∃ W, st = (nI j, hp W) ∧ WL W ∧ Fr w W 34 36 ∧ (∀ p, p < j → (W.1 35).getD p 0 = 0) ∧ W.1 34 = List.replicate (w.1 34).length 0) (fun r => ∃ W, r = (nI 256, hp W) ∧ WL W ∧ Fr w W 34 36 ∧ (∀ p, p < 256 → (W.1 35).getD p 0 = 0) ∧ W.1 34 = List.replicate (w.1 34).length 0) 256 (s0 := (0, hp (wA w 34 (List.replicate (w.1 34).length 0)))) (by omega) ⟨_, rfl, hW0, Fr.A (by omega) (by omega), fun _ h => absurd h (by omega), wA_s⟩ (by
      rintro j st hj ⟨W, rfl, hW, hF, h35, h34⟩
      left
      have hcn : ¬ (256 : Int32) ≤ nI j := nI_ge (b := 256) hj (by omega)
      have L35 := l35 hW
      simp only [Bnds_freshen_b18, if_neg hcn, c33_2, Option.bind_some]
      rw [ast_w (j := j) s35 rfl (by omega) (by omega)]
      simp only [Option.bind_some, nI_1]
      refine ⟨_, rfl, _, rfl, hW.S, Fr.cA hF (by omega) (by omega), ?_, by rw [wA_n (by omega)]; exact h34⟩
      intro c hc
      rw [wA_s, gD_set]
      by_cases h : j = c
      · subst h; rw [if_pos ⟨rfl, by omega⟩]; rfl
      · rw [if_neg (fun h' => h h'.1)]; exact h35 c (by omega)) (by
      rintro st ⟨W, rfl, hW, hF, h35, h34⟩
      exact ⟨(nI 256, hp W), by simp only [Bnds_freshen_b18, if_pos (show (256 : Int32) ≤ nI 256 by decide)], W, rfl, hW, hF, h35, h34⟩)
    have hb0 : bdA W (pdW w 2) ((List.range 0).map (ctW w a)) := by
      intro plan hp' _
      refine ⟨by rw [h35 plan hp']; rfl, fun c hc' => ?_⟩
      rw [h34, List.getD_eq_getElem?_getD, List.getElem?_replicate, if_pos (by omega)]; rfl
    obtain ⟨q, i2, V, rfl, hV, hFV, hbV⟩ := iter_I (body := Bnds_freshen_b40 33 2 a) (fun j st => ∃ V, st = (nI j, hp V) ∧ WL V ∧ Fr w V 34 36 ∧ bdA V (pdW w 2) ((List.range j).map (ctW w a))) (fun r => ∃ V, r = (nI (cN w a), hp V) ∧ WL V ∧ Fr w V 34 36 ∧ bdA V (pdW w 2) (cutsW w a)) (cN w a) (s0 := (0, hp W)) (by omega) ⟨W, rfl, hW, hF, hb0⟩ (by
      rintro j st hj ⟨V, rfl, hV, hF, hb⟩
      left
      have hcn : ¬ nI (cN w a) ≤ nI j := nI_ge hj (by omega)
      have e1 : V.2 a 1 = nI (cN w a) := by rw [(hF a (by omega)).2]; exact hz.1
      have eg : pdW V 2 = pdW w 2 := pd_fr hF (by omega)
      have ec : ctW V a j = ctW w a j := ct_fr hF (by omega)
      obtain ⟨U, u1, u2, u3, u4⟩ := Bnds_include_w (i := j) ha hV (by rw [eg]; exact hg) (by omega) (by rw [ec]; exact hc j hj) (by rw [eg]; exact hb)
      rw [eg, ec] at u4
      simp only [Bnds_freshen_b40, ctI1 ha, Option.bind_some, e1, if_neg hcn, k33, u1, bnd2_some, nI_1]
      exact ⟨_, rfl, U, rfl, u2, hF.tr u3, by rw [List.range_succ, List.map_append]; exact u4⟩) (by
      rintro st ⟨V, rfl, hV, hF, hb⟩
      have e1 : V.2 a 1 = nI (cN w a) := by rw [(hF a (by omega)).2]; exact hz.1
      exact ⟨(nI (cN w a), hp V), by simp only [Bnds_freshen_b40, ctI1 ha, Option.bind_some, e1, if_pos (nI_le (Nat.le_refl _) (show cN w a < 2 ^ 31 by omega))], V, rfl, hV, hF, hb⟩)
    refine ⟨wF V 33 0 0, ?_, WL.F hV, Fr.cF (hFV.mono (by omega) (by omega)) (by omega) (by omega), wF_s, hbV⟩
    simp only [i1, Option.bind_some, Bnds_freshen_j38, i2, Bnds_freshen_j61, bz0, p33_0]
  · rw [hs, if_neg (by decide)]
    exact ⟨w, rfl, hw, Fr.rfl', hs, hb⟩
def tgtP (g : PD) (cs : List (List Int32)) (plan : Int32) (cut : List Int32) : Int32 := if cK cut 1 = 1 then 0 else rchP g cs (cK cut 0).toNatClampNeg plan
def ageP (g : PD) (cs : List (List Int32)) (plan : Int32) (cut : List Int32) : Int32 := if valP g cut plan = tgtP g cs plan cut then 0 else if 99 < cK cut 2 + 1 then 99 else cK cut 2 + 1
theorem Eng_findAges_w {w : Wd} {a m : Nat} (ha : isCt a m) (hw : WL w) (hg : wfP (pdW w 2)) (hz : cSz w a m) (hd : a + 6 ≤ 17 ∨ 40 ≤ a) (hc : ∀ i, i < cN w a → ∃ n, n < 4 ∧ cK (ctW w a i) 0 = nI n ∧ (w.1 37).getD n 0 = rchP (pdW w 2) (cutsW w a) n (w.2 17 6)) : ∃ w', Eng_findAges 17 2 a (hp w) = some ((), hp w') ∧ WL w' ∧ Fr w w' 39 40 ∧ ∀ i, i < cN w a → (w'.1 39).getD i 0 = ageP (pdW w 2) (cutsW w a) (w.2 17 6) (ctW w a i) := by
  have hm := ha.2.2.2
  have hzm := hz.2
  obtain ⟨q, i1, W, rfl, hW, hF, h39⟩ := iter_I (body := Eng_findAges_b2 17 2 a) (fun j st => ∃ W, st = (nI j, hp W) ∧ WL W ∧ Fr w W 39 40 ∧ ∀ i, i < j → (W.1 39).getD i 0 = ageP (pdW w 2) (cutsW w a) (w.2 17 6) (ctW w a i)) (fun r => ∃ W, r = (nI (cN w a), hp W) ∧ WL W ∧ Fr w W 39 40 ∧ ∀ i, i < cN w a → (W.1 39).getD i 0 = ageP (pdW w 2) (cutsW w a) (w.2 17 6) (ctW w a i)) (cN w a) (s0 := (0, hp w)) (by omega) ⟨w, rfl, hw, Fr.rfl', fun _ h => absurd h (by omega)⟩ (by
    rintro j st hj ⟨W, rfl, hW, hF, h39⟩
    left
    have hcn : ¬ nI (cN w a) ≤ nI j := nI_ge hj (by omega)
    have e1 : W.2 a 1 = nI (cN w a) := by rw [(hF a (by omega)).2]; exact hz.1
    have eg : pdW W 2 = pdW w 2 := pd_fr hF (by omega)
    have ec : ctW W a j = ctW w a j := ct_fr hF (by omega)
    have e6 : W.2 17 6 = w.2 17 6 := by rw [(hF 17 (by omega)).2]
    have L1 := ctL1 ha hW
    have L2 := ctL2 ha hW
    have L3 := ctL3 ha hW
    have L39 := l39 hW
    have L37 := l37 hW
    obtain ⟨n, hn, hn0, hn37⟩ := hc j hj
    have hv := Cuts_valueAt_w (plan := w.2 17 6) (i := j) ha isPg_2 hW (by rw [eg]; exact hg) (by omega) (by rw [ec]; exact ⟨n, hn, hn0⟩)
    rw [eg, ec] at hv
    have ex0 : (W.1 (a + 1)).getD j 0 = nI n := by rw [← cK_0, ec, hn0]
    have ex1 : (W.1 (a + 2)).getD j 0 = cK (ctW w a j) 1 := by rw [← cK_1, ec]
    have ex2 : (W.1 (a + 3)).getD j 0 = cK (ctW w a j) 2 := by rw [← cK_2, ec]
    have e37 : (W.1 37).getD n 0 = rchP (pdW w 2) (cutsW w a) n (w.2 17 6) := by rw [(hF 37 (by omega)).1]; exact hn37
    have key : ∀ t0, t0 = tgtP (pdW w 2) (cutsW w a) (w.2 17 6) (ctW w a j) → ∃ s', Eng_findAges_j35 17 2 a (nI j) t0 (hp W) = some (.inl s') ∧ ∃ W', s' = (nI (j + 1), hp W') ∧ WL W' ∧ Fr w W' 39 40 ∧ ∀ i, i < j + 1 → (W'.1 39).getD i 0 = ageP (pdW w 2) (cutsW w a) (w.2 17 6) (ctW w a i) := by
      intro t0 ht
      have st : ∀ x, x = ageP (pdW w 2) (cutsW w a) (w.2 17 6) (ctW w a j) → ∀ v4 v5, ∃ s', Eng_findAges_j86 17 2 a (nI j) v4 v5 39 (nI j) x (hp W) = some (.inl s') ∧ ∃ W', s' = (nI (j + 1), hp W') ∧ WL W' ∧ Fr w W' 39 40 ∧ ∀ i, i < j + 1 → (W'.1 39).getD i 0 = ageP (pdW w 2) (cutsW w a) (w.2 17 6) (ctW w a i) := by
        intro x hx v4 v5
        unfold Eng_findAges_j86
        rw [ast_w (j := j) s39 rfl (by omega) (by omega)]
        simp only [Option.bind_some, nI_1]
        refine ⟨_, rfl, _, rfl, hW.S, Fr.cA hF (by omega) (by omega), ?_⟩
        intro i hi
        rw [wA_s, gD_set]
        by_cases h : j = i
        · subst h; rw [if_pos ⟨rfl, by omega⟩]; exact hx
        · rw [if_neg (fun h' => h h'.1)]; exact h39 i (by omega)
      unfold Eng_findAges_j35
      simp only [c17_6, e6, ctK ha, Option.bind_some, hv, bnd2_some]
      by_cases hq : valP (pdW w 2) (ctW w a j) (w.2 17 6) = t0
      · rw [if_neg (fun h => h hq)]
        unfold Eng_findAges_j57
        simp only [c17_5, Option.bind_some]
        rw [if_neg (by decide)]
        exact st 0 (by unfold ageP; rw [← ht, if_pos hq]) _ _
      · rw [if_pos hq]
        unfold Eng_findAges_j57
        simp only [c17_5, Option.bind_some]
        rw [if_pos trivial]
        simp only [ctR4 ha, Option.bind_some]
        rw [ald_w (j := j) ha.2.1.2.2.1 rfl (by omega) (by omega), ex2]
        simp only [Option.bind_some]
        exact st _ (by unfold ageP; rw [← ht, if_neg hq]) _ _
    simp only [Eng_findAges_b2, ctI1 ha, Option.bind_some, e1, if_neg hcn, ctR3 ha]
    rw [ald_w (j := j) ha.2.1.2.1 rfl (by omega) (by omega), ex1]
    simp only [Option.bind_some]
    by_cases h1 : cK (ctW w a j) 1 = 1
    · rw [if_neg (fun h => h h1)]
      exact key 0 (by unfold tgtP; rw [if_pos h1])
    · rw [if_pos h1]
      simp only [c17_3, ctR2 ha, Option.bind_some]
      rw [ald_w (j := j) ha.2.1.1 rfl (by omega) (by omega), ex0]
      simp only [Option.bind_some]
      rw [ald_w (j := n) s37 rfl (by omega) (by omega), e37]
      simp only [Option.bind_some]
      exact key _ (by unfold tgtP; rw [if_neg h1, hn0, nI_clamp (by omega)])) (by
    rintro st ⟨W, rfl, hW, hF, h39⟩
    have e1 : W.2 a 1 = nI (cN w a) := by rw [(hF a (by omega)).2]; exact hz.1
    exact ⟨(nI (cN w a), hp W), by simp only [Eng_findAges_b2, ctI1 ha, Option.bind_some, e1, if_pos (nI_le (Nat.le_refl _) (show cN w a < 2 ^ 31 by omega))], W, rfl, hW, hF, h39⟩)
  exact ⟨W, by simp only [Eng_findAges, i1, Option.bind_some, Eng_findAges_j93], hW, hF, h39⟩
