theorem pool_bit {g : PD} {plan : Int32} {p set : Nat} (hp' : p < 4) (hs : set < 2 ^ p) : poolP g plan (2 ^ p + set) = poolP g plan set + stockP g plan p := by
  have hq : p = 0 ∨ p = 1 ∨ p = 2 ∨ p = 3 := by omega
  unfold poolP
  rcases hq with rfl | rfl | rfl | rfl
  · have : set = 0 := by omega
    subst this
    simp [sumN, Nat.testBit]
  · have : set = 0 ∨ set = 1 := by omega
    rcases this with rfl | rfl <;> simp [sumN, Nat.testBit]
  · have : set = 0 ∨ set = 1 ∨ set = 2 ∨ set = 3 := by omega
    rcases this with rfl | rfl | rfl | rfl <;> simp [sumN, Nat.testBit]
  · have : set = 0 ∨ set = 1 ∨ set = 2 ∨ set = 3 ∨ set = 4 ∨ set = 5 ∨ set = 6 ∨ set = 7 := by omega
    rcases this with rfl | rfl | rfl | rfl | rfl | rfl | rfl | rfl <;> simp [sumN, Nat.testBit]
theorem bit_nI {p : Nat} (h : p < 4) : (1 : Int32) <<< (nI p &&& 31) = nI (2 ^ p) := by
  have hq : p = 0 ∨ p = 1 ∨ p = 2 ∨ p = 3 := by omega
  rcases hq with rfl | rfl | rfl | rfl <;> decide
theorem pow4 {p : Nat} (h : p < 4) : 2 ^ p ≤ 8 := by
  have hq : p = 0 ∨ p = 1 ∨ p = 2 ∨ p = 3 := by omega
  rcases hq with rfl | rfl | rfl | rfl <;> decide
theorem Frt_findStocks_w {w : Wd} {plan : Int32} (hw : WL w) (hg : wfP (pdW w 2)) : ∃ w', Frt_findStocks 19 2 plan (hp w) = some ((), hp w') ∧ WL w' ∧ (∀ p, p < 4 → (w'.1 20).getD p 0 = stockP (pdW w 2) plan p) ∧ (∀ set, set < 16 → (w'.1 21).getD set 0 = poolP (pdW w 2) plan set) ∧ Fr w w' 20 22 := by
  have L21 := l21 hw
  have p0 : poolP (pdW w 2) plan 0 = 0 := by simp [poolP, sumN]
  obtain ⟨q1, i1, W1, rfl, hW1, hF1, hs1, hp1⟩ := iter_I (body := Frt_findStocks_b9 19 2 plan) (fun j s => ∃ W, s = (nI j, hp W) ∧ WL W ∧ Fr w W 20 22 ∧ (∀ p, p < j → (W.1 20).getD p 0 = stockP (pdW w 2) plan p) ∧ (∀ set, set < 2 ^ j → (W.1 21).getD set 0 = poolP (pdW w 2) plan set)) (fun q => ∃ W, q = (nI 4, hp W) ∧ WL W ∧ Fr w W 20 22 ∧ (∀ p, p < 4 → (W.1 20).getD p 0 = stockP (pdW w 2) plan p) ∧ (∀ set, set < 16 → (W.1 21).getD set 0 = poolP (pdW w 2) plan set)) 4 (s0 := (0, hp (wA w 21 ((w.1 21).set 0 0)))) (by omega) ⟨_, rfl, hw.S, Fr.A (by omega) (by omega), fun _ h => absurd h (by omega), fun set hset => by
      have : set = 0 := by omega
      subst this
      rw [wA_s, gD_set, if_pos ⟨rfl, by omega⟩, p0]⟩ (by
    rintro j s hj ⟨W, rfl, hW, hF, hs, hq⟩
    left
    have eg : pdW W 2 = pdW w 2 := pd_fr hF (by omega)
    have hgW : wfP (pdW W 2) := by rw [eg]; exact hg
    have hl4 : (W.1 4).length = 4 := hgW.2.1.2.1
    have L20 := l20 hW
    have hcn : ¬ (4 : Int32) ≤ nI j := nI_ge (b := 4) hj (by omega)
    have hb8 := pow4 hj
    simp only [Frt_findStocks_b9, if_neg hcn, c19_0, Option.bind_some, Sp_unitsIn, bnd2_some, c2_4]
    rw [ald_w (j := j) s4 rfl (by omega) (by omega)]
    simp only [Option.bind_some]
    rw [ast_w (j := j) s20 rfl (by omega) (by omega)]
    simp only [Option.bind_some, bit_nI hj]
    have est : nar 0 (((plan >>> ((2 * nI j) &&& 31)) &&& 3) * (W.1 4).getD j 0) = stockP (pdW w 2) plan j := by
      rw [← eg]; rfl
    rw [est]
    obtain ⟨q3, i3, W3, rfl, hW3, hF3, hs3, hq3⟩ := iter_I (body := Frt_findStocks_b40 19 2 plan (nI j) (nI (2 ^ j))) (fun k s => ∃ V, s = (nI k, hp V) ∧ WL V ∧ Fr w V 20 22 ∧ (∀ p, p < j + 1 → (V.1 20).getD p 0 = stockP (pdW w 2) plan p) ∧ (∀ set, set < 2 ^ j + k → (V.1 21).getD set 0 = poolP (pdW w 2) plan set)) (fun q => ∃ V, q = (nI (2 ^ j), hp V) ∧ WL V ∧ Fr w V 20 22 ∧ (∀ p, p < j + 1 → (V.1 20).getD p 0 = stockP (pdW w 2) plan p) ∧ (∀ set, set < 2 ^ (j + 1) → (V.1 21).getD set 0 = poolP (pdW w 2) plan set)) (2 ^ j) (s0 := (0, hp (wA W 20 ((W.1 20).set j (stockP (pdW w 2) plan j))))) (by omega) ⟨_, rfl, hW.S, Fr.cA hF (by omega) (by omega), fun p hp' => by
        rw [wA_s, gD_set]
        by_cases h : j = p
        · subst h; rw [if_pos ⟨rfl, by omega⟩]
        · rw [if_neg (fun h' => h h'.1)]; exact hs p (by omega), fun set hset => by
        rw [wA_n (by omega)]; exact hq set (by omega)⟩ (by
      rintro k s hk ⟨V, rfl, hV, hFV, hsV, hqV⟩
      left
      have L21 := l21 hV
      have L20 := l20 hV
      have hck : ¬ nI (2 ^ j) ≤ nI k := nI_ge hk (by omega)
      simp only [Frt_findStocks_b40, if_neg hck, c19_1, c19_0, Option.bind_some]
      rw [ald_w (j := k) s21 rfl (by omega) (by omega)]
      simp only [Option.bind_some]
      rw [ald_w (j := j) s20 rfl (by omega) (by omega)]
      simp only [Option.bind_some, nI_add]
      rw [ast_w (j := 2 ^ j + k) s21 rfl (by omega) (by omega)]
      simp only [Option.bind_some, nI_1]
      refine ⟨_, rfl, _, rfl, hV.S, Fr.cA hFV (by omega) (by omega), ?_, ?_⟩
      · intro p hp'
        rw [wA_n (by omega)]; exact hsV p hp'
      · intro set hset
        rw [wA_s, gD_set]
        by_cases h : 2 ^ j + k = set
        · subst h
          rw [if_pos ⟨rfl, by omega⟩, pool_bit hj hk, hqV k (by omega), hsV j (by omega)]
          rfl
        · rw [if_neg (fun h' => h h'.1)]; exact hqV set (by omega)) (by
      rintro s ⟨V, rfl, hV, hFV, hsV, hqV⟩
      exact ⟨_, by simp only [Frt_findStocks_b40, if_pos (nI_le (Nat.le_refl (2 ^ j)) (show 2 ^ j < 2 ^ 31 by omega))], V, rfl, hV, hFV, hsV, fun set hset => hqV set (by rw [Nat.pow_succ] at hset; omega)⟩)
    have i3' : iter (Frt_findStocks_b40 19 2 plan (nI j) (nI (2 ^ j))) Lmax (0, hp (wA W 20 ((W.1 20).set j (stockP (pdW w 2) plan j)))) = some (nI (2 ^ j), hp W3) := i3
    rw [i3']
    simp only [Option.bind_some, Frt_findStocks_j77, nI_1]
    exact ⟨_, rfl, W3, rfl, hW3, hF3, hs3, hq3⟩) (by
    rintro s ⟨W, rfl, hW, hF, hs, hq⟩
    exact ⟨_, by simp only [Frt_findStocks_b9, if_pos (show (4 : Int32) ≤ nI 4 by decide)], W, rfl, hW, hF, hs, hq⟩)
  refine ⟨W1, ?_, hW1, hs1, hp1, hF1⟩
  simp only [Frt_findStocks, c19_1, Option.bind_some]
  rw [ast_w (i := 0) (j := 0) s21 rfl (by omega) (by omega)]
  have i1' : iter (Frt_findStocks_b9 19 2 plan) Lmax (0, hp (wA w 21 ((w.1 21).set 0 (nar 0 0)))) = some (nI 4, hp W1) := i1
  simp only [Option.bind_some, i1', Frt_findStocks_j83]
def ldOk (w : Wd) (g : PD) : Prop := ∀ c, c < 4 → (w.1 23).getD c 0 = 0 ∨ ((w.1 23).getD c 0 = 1 ∧ ∀ set, set < 16 → (w.1 22).getD (c * 16 + set) 0 = loadP g c set)
theorem Frt_lackAt_w {w : Wd} {c : Nat} {plan : Int32} (hw : WL w) (hg : wfP (pdW w 2)) (hc : c < 4) (hk : ldOk w (pdW w 2)) : ∃ w', Frt_lackAt 19 2 (nI c) plan (hp w) = some (lackP (pdW w 2) c plan, hp w') ∧ WL w' ∧ (∀ p, p < 4 → (w'.1 20).getD p 0 = stockP (pdW w 2) plan p) ∧ (∀ set, set < 16 → (w'.1 21).getD set 0 = poolP (pdW w 2) plan set) ∧ ldOk w' (pdW w 2) ∧ (∀ set, set < 16 → (w'.1 22).getD (c * 16 + set) 0 = loadP (pdW w 2) c set) ∧ Fr w w' 20 24 := by
  have L23 := l23 hw
  have main : ∀ V : Wd, WL V → Fr w V 22 24 → ldOk V (pdW w 2) → (∀ set, set < 16 → (V.1 22).getD (c * 16 + set) 0 = loadP (pdW w 2) c set) → ∃ w', Frt_lackAt_j15 19 2 (nI c) plan (hp V) = some (lackP (pdW w 2) c plan, hp w') ∧ WL w' ∧ (∀ p, p < 4 → (w'.1 20).getD p 0 = stockP (pdW w 2) plan p) ∧ (∀ set, set < 16 → (w'.1 21).getD set 0 = poolP (pdW w 2) plan set) ∧ ldOk w' (pdW w 2) ∧ (∀ set, set < 16 → (w'.1 22).getD (c * 16 + set) 0 = loadP (pdW w 2) c set) ∧ Fr w w' 20 24 := by
    intro V hV hF hkV hl
    have eg : pdW V 2 = pdW w 2 := pd_fr hF (by omega)
    obtain ⟨V2, f1, f2, f3, f4, f5⟩ := Frt_findStocks_w (plan := plan) hV (by rw [eg]; exact hg)
    rw [eg] at f3 f4
    have L22 := l22 f2
    have L21 := l21 f2
    have e22 : V2.1 22 = V.1 22 := (f5 22 (by omega)).1
    have hit : iter (Frt_lackAt_b27 19 2 (nI c) plan (hp V2)) Lmax (0, 0) = some (lackP (pdW w 2) c plan, nI 16) := by
      refine iter_L (fun j => (maxN (fun set => loadP (pdW w 2) c set - poolP (pdW w 2) plan set) j, nI j)) 16 (by omega) ?_ ?_
      · intro j hj
        have hcn : ¬ (16 : Int32) ≤ nI j := nI_ge (b := 16) hj (by omega)
        simp only [Frt_lackAt_b27, if_neg hcn, c19_2, c19_1, Option.bind_some, nI_m16]
        rw [ald_w (j := c * 16 + j) s22 rfl (by omega) (by omega)]
        simp only [Option.bind_some]
        rw [ald_w (j := j) s21 rfl (by omega) (by omega)]
        simp only [Option.bind_some, nI_1, maxN]
        rw [e22, hl j hj, f4 j hj]
      · simp only [Frt_lackAt_b27, if_pos (show (16 : Int32) ≤ nI 16 by decide)]
        rfl
    refine ⟨V2, ?_, f2, f3, f4, ?_, ?_, ?_⟩
    · simp only [Frt_lackAt_j15, k19, Option.bind_some, f1, bnd2_some, hit, Frt_lackAt_j67]
    · intro c' hc'
      rw [(f5 23 (by omega)).1, e22]; exact hkV c' hc'
    · intro set hset
      rw [e22]; exact hl set hset
    · exact (hF.mono (by omega) (by omega)).tr (f5.mono (by omega) (by omega))
  unfold Frt_lackAt
  simp only [c19_3, Option.bind_some]
  rw [ald_w (j := c) s23 rfl (by omega) (by omega)]
  simp only [Option.bind_some]
  rcases hk c hc with h0 | ⟨h1, hl⟩
  · rw [h0, if_neg (by decide)]
    obtain ⟨V, f1, f2, f3, f4, f5, f6⟩ := Frt_findLoads_w hw hg hc
    simp only [k19, Option.bind_some, f1, bnd2_some]
    refine main V f2 f6 ?_ f4
    intro c' hc'
    by_cases hcc : c = c'
    · subst hcc
      right
      exact ⟨by rw [f3, gD_set, if_pos ⟨rfl, by omega⟩], f4⟩
    · rw [f3, gD_set, if_neg (fun h => hcc h.1)]
      rcases hk c' hc' with h | ⟨h, h'⟩
      · left; exact h
      · right
        refine ⟨h, fun set hset => ?_⟩
        rw [f5 _ (by omega)]; exact h' set hset
  · rw [h1, if_pos (by decide)]
    exact main w hw Fr.rfl' hk hl
