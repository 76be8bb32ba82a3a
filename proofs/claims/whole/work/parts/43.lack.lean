/-! what a case lacks -/
def stockP (g : PD) (plan : Int32) (p : Nat) : Int32 := unitsI plan p * pSize g p
def loadP (g : PD) (c set : Nat) : Int32 := sumN (fun s => if maskP g s &&& (nI set ^^^ (-1)) = 0 then pNeed g c s else 0) (pNs g)
def poolP (g : PD) (plan : Int32) (set : Nat) : Int32 := sumN (fun p => if set.testBit p = true then stockP g plan p else 0) 4
def maxN (f : Nat → Int32) : Nat → Int32
  | 0 => 0
  | n + 1 => if maxN f n < f n then f n else maxN f n
def lackP (g : PD) (c : Nat) (plan : Int32) : Int32 := maxN (fun set => loadP g c set - poolP g plan set) 16
theorem nI_m16 (i p : Nat) : nI i * 16 + nI p = nI (i * 16 + p) := nI_ma i 16 p
theorem nI_m256 (i p : Nat) : nI i * 256 + nI p = nI (i * 256 + p) := nI_ma i 256 p
theorem Frt_findLoads_w {w : Wd} {c : Nat} (hw : WL w) (hg : wfP (pdW w 2)) (hc : c < 4) : ∃ w', Frt_findLoads 19 2 (nI c) (hp w) = some ((), hp w') ∧ WL w' ∧ w'.1 23 = (w.1 23).set c 1 ∧ (∀ set, set < 16 → (w'.1 22).getD (c * 16 + set) 0 = loadP (pdW w 2) c set) ∧ (∀ i, (i < c * 16 ∨ c * 16 + 16 ≤ i) → (w'.1 22).getD i 0 = (w.1 22).getD i 0) ∧ Fr w w' 22 24 := by
  have hns := hg.1.2.1
  have e1 : w.2 2 1 = nI (pNs (pdW w 2)) := hns.1
  obtain ⟨q1, i1, W1, rfl, hW1, hF1, hz1, ho1⟩ := iter_I (body := Frt_findLoads_b2 19 2 (nI c)) (fun j s => ∃ W, s = (nI j, hp W) ∧ WL W ∧ Fr w W 22 23 ∧ (∀ set, set < j → (W.1 22).getD (c * 16 + set) 0 = 0) ∧ (∀ i, (i < c * 16 ∨ c * 16 + 16 ≤ i) → (W.1 22).getD i 0 = (w.1 22).getD i 0)) (fun q => ∃ W, q = (nI 16, hp W) ∧ WL W ∧ Fr w W 22 23 ∧ (∀ set, set < 16 → (W.1 22).getD (c * 16 + set) 0 = 0) ∧ (∀ i, (i < c * 16 ∨ c * 16 + 16 ≤ i) → (W.1 22).getD i 0 = (w.1 22).getD i 0)) 16 (s0 := (0, hp w)) (by omega) ⟨w, rfl, hw, Fr.rfl', fun _ h => absurd h (by omega), fun _ _ => rfl⟩ (by
    rintro j s hj ⟨W, rfl, hW, hF, hz, ho⟩
    left
    have L := l22 hW
    have hcn : ¬ (16 : Int32) ≤ nI j := nI_ge (b := 16) hj (by omega)
    simp only [Frt_findLoads_b2, if_neg hcn, c19_2, Option.bind_some, nI_m16]
    rw [ast_w (j := c * 16 + j) s22 rfl (by omega) (by omega)]
    simp only [Option.bind_some, nI_1]
    refine ⟨_, rfl, _, rfl, hW.S, Fr.cA hF (by omega) (by omega), ?_, ?_⟩
    · intro set hset
      rw [wA_s, gD_set]
      by_cases h : c * 16 + j = c * 16 + set
      · rw [if_pos ⟨h, by omega⟩]; rfl
      · rw [if_neg (fun h' => h h'.1)]; exact hz set (by omega)
    · intro i hi
      rw [wA_s, gD_set, if_neg (by omega)]; exact ho i hi) (by
    rintro s ⟨W, rfl, hW, hF, hz, ho⟩
    exact ⟨_, by simp only [Frt_findLoads_b2, if_pos (show (16 : Int32) ≤ nI 16 by decide)], W, rfl, hW, hF, hz, ho⟩)
  obtain ⟨q2, i2, W2, rfl, hW2, hF2, hz2, ho2⟩ := iter_I (body := Frt_findLoads_b28 19 2 (nI c)) (fun j s => ∃ W, s = (nI j, hp W) ∧ WL W ∧ Fr w W 22 23 ∧ (∀ set, set < 16 → (W.1 22).getD (c * 16 + set) 0 = sumN (fun s => if maskP (pdW w 2) s &&& (nI set ^^^ (-1)) = 0 then pNeed (pdW w 2) c s else 0) j) ∧ (∀ i, (i < c * 16 ∨ c * 16 + 16 ≤ i) → (W.1 22).getD i 0 = (w.1 22).getD i 0)) (fun q => ∃ W, q = (nI (pNs (pdW w 2)), hp W) ∧ WL W ∧ Fr w W 22 23 ∧ (∀ set, set < 16 → (W.1 22).getD (c * 16 + set) 0 = loadP (pdW w 2) c set) ∧ (∀ i, (i < c * 16 ∨ c * 16 + 16 ≤ i) → (W.1 22).getD i 0 = (w.1 22).getD i 0)) (pNs (pdW w 2)) (s0 := (0, hp W1)) (by omega) ⟨W1, rfl, hW1, hF1, hz1, ho1⟩ (by
    rintro j s hj ⟨W, rfl, hW, hF, hz, ho⟩
    left
    have eg : pdW W 2 = pdW w 2 := pd_fr hF (by omega)
    have hgW : wfP (pdW W 2) := by rw [eg]; exact hg
    have eW : W.2 2 1 = nI (pNs (pdW w 2)) := by rw [(hF 2 (by omega)).2]; exact e1
    have hl8 : (W.1 8).length = 24 := hgW.2.1.2.2.2.2.2
    have hcn : ¬ nI (pNs (pdW w 2)) ≤ nI j := nI_ge hj (by omega)
    have em := Prog_plantsOf_w isPg_2 hgW (show j < 6 by omega)
    rw [eg] at em
    simp only [Frt_findLoads_b28, c2_1, Option.bind_some, eW, if_neg hcn, k2, em, bnd2_some, c2_8, nI_m6]
    rw [ald_w (j := c * 6 + j) s8 rfl (by omega) (by omega)]
    simp only [Option.bind_some]
    have en : (W.1 8).getD (c * 6 + j) 0 = pNeed (pdW w 2) c j := by rw [← eg]; rfl
    rw [en]
    obtain ⟨q3, i3, W3, rfl, hW3, hF3, hz3, ho3⟩ := iter_I (body := Frt_findLoads_b59 19 2 (nI c) (nI j) (maskP (pdW w 2) j) (pNeed (pdW w 2) c j)) (fun k s => ∃ V, s = (nI k, hp V) ∧ WL V ∧ Fr w V 22 23 ∧ (∀ set, set < 16 → (V.1 22).getD (c * 16 + set) 0 = sumN (fun s => if maskP (pdW w 2) s &&& (nI set ^^^ (-1)) = 0 then pNeed (pdW w 2) c s else 0) (if set < k then j + 1 else j)) ∧ (∀ i, (i < c * 16 ∨ c * 16 + 16 ≤ i) → (V.1 22).getD i 0 = (w.1 22).getD i 0)) (fun q => ∃ V, q = (nI 16, hp V) ∧ WL V ∧ Fr w V 22 23 ∧ (∀ set, set < 16 → (V.1 22).getD (c * 16 + set) 0 = sumN (fun s => if maskP (pdW w 2) s &&& (nI set ^^^ (-1)) = 0 then pNeed (pdW w 2) c s else 0) (j + 1)) ∧ (∀ i, (i < c * 16 ∨ c * 16 + 16 ≤ i) → (V.1 22).getD i 0 = (w.1 22).getD i 0)) 16 (s0 := (0, hp W)) (by omega) ⟨W, rfl, hW, hF, fun set hset => by rw [if_neg (by omega)]; exact hz set hset, ho⟩ (by
      rintro k s hk ⟨V, rfl, hV, hFV, hzV, hoV⟩
      left
      have L := l22 hV
      have hck : ¬ (16 : Int32) ≤ nI k := nI_ge (b := 16) hk (by omega)
      simp only [Frt_findLoads_b59, if_neg hck]
      by_cases hm : maskP (pdW w 2) j &&& (nI k ^^^ (-1)) = 0
      · rw [if_neg (fun h => h hm)]
        simp only [c19_2, Option.bind_some, nI_m16]
        rw [ald_w (j := c * 16 + k) s22 rfl (by omega) (by omega)]
        simp only [Option.bind_some]
        rw [ast_w (j := c * 16 + k) s22 rfl (by omega) (by omega)]
        simp only [Option.bind_some, Frt_findLoads_j93, nI_1]
        refine ⟨_, rfl, _, rfl, hV.S, Fr.cA hFV (by omega) (by omega), ?_, ?_⟩
        · intro set hset
          rw [wA_s, gD_set]
          by_cases h : k = set
          · subst h
            rw [if_pos ⟨rfl, by omega⟩, if_pos (by omega), hzV k hk, if_neg (by omega)]
            simp only [sumN, if_pos hm]
            rfl
          · rw [if_neg (by omega), hzV set hset]
            by_cases h2 : set < k
            · rw [if_pos h2, if_pos (by omega)]
            · rw [if_neg h2, if_neg (by omega)]
        · intro i hi
          rw [wA_s, gD_set, if_neg (by omega)]; exact hoV i hi
      · rw [if_pos hm]
        simp only [Frt_findLoads_j93, nI_1]
        refine ⟨_, rfl, V, rfl, hV, hFV, ?_, hoV⟩
        intro set hset
        rw [hzV set hset]
        by_cases h : k = set
        · subst h
          rw [if_neg (by omega), if_pos (by omega)]
          simp only [sumN, if_neg hm, Int32.add_zero]
        · by_cases h2 : set < k
          · rw [if_pos h2, if_pos (by omega)]
          · rw [if_neg h2, if_neg (by omega)]) (by
      rintro s ⟨V, rfl, hV, hFV, hzV, hoV⟩
      exact ⟨_, by simp only [Frt_findLoads_b59, if_pos (show (16 : Int32) ≤ nI 16 by decide)], V, rfl, hV, hFV, fun set hset => by rw [hzV set hset, if_pos hset], hoV⟩)
    have i3' : iter (Frt_findLoads_b59 19 2 (nI c) (nI j) (maskP (pdW w 2) j) (pNeed (pdW w 2) c j)) Lmax (0, hp W) = some (nI 16, hp W3) := i3
    rw [i3']
    simp only [Option.bind_some, Frt_findLoads_j99, nI_1]
    exact ⟨_, rfl, W3, rfl, hW3, hF3, hz3, ho3⟩) (by
    rintro s ⟨W, rfl, hW, hF, hz, ho⟩
    have eW : W.2 2 1 = nI (pNs (pdW w 2)) := by rw [(hF 2 (by omega)).2]; exact e1
    exact ⟨_, by simp only [Frt_findLoads_b28, c2_1, Option.bind_some, eW, if_pos (nI_le (Nat.le_refl _) (show pNs (pdW w 2) < 2 ^ 31 by omega))], W, rfl, hW, hF, hz, ho⟩)
  have L := l23 hW2
  refine ⟨wA W2 23 ((W2.1 23).set c (nar 1 1)), ?_, hW2.S, ?_, ?_, ?_, ?_⟩
  · simp only [Frt_findLoads, i1, Option.bind_some, Frt_findLoads_j26, i2, Frt_findLoads_j105, c19_3]
    rw [ast_w (j := c) s23 rfl (by omega) (by omega)]
    rfl
  · rw [wA_s, (hF2 23 (by omega)).1]; rfl
  · intro set hset
    rw [wA_n (by omega)]; exact hz2 set hset
  · intro i hi
    rw [wA_n (by omega)]; exact ho2 i hi
  · exact Fr.cA (hF2.mono (by omega) (by omega)) (by omega) (by omega)
