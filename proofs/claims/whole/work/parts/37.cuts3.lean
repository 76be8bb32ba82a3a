theorem Cuts_copyFrom_w {w : Wd} {a b m n : Nat} (ha : isCt a m) (hb : isCt b n) (hd : a + 6 ≤ b ∨ b + 6 ≤ a) (hw : WL w) (hm : w.2 a 0 = nI m) (hz : cSz w b n) (hz2 : cN w b ≤ m) : ∃ w', Cuts_copyFrom a b (hp w) = some ((), hp w') ∧ WL w' ∧ cutsW w' a = cutsW w b ∧ cSz w' a m ∧ w'.2 a 0 = w.2 a 0 ∧ Fr w w' a (a + 6) := by
  have n1 : ∀ i j, i ≤ 5 → j ≤ 5 → ¬ b + i = a + j := fun i j h1 h2 => by omega
  have n2 : ∀ j, j ≤ 5 → ¬ b = a + j := fun j h2 => by omega
  have n4 : ¬ b = a := by omega
  have hm99 := ha.2.2.2
  have hn99 := hb.2.2.2
  obtain ⟨e1, hz⟩ := hz
  have A1 := ctL1 ha hw
  have A2 := ctL2 ha hw
  have A3 := ctL3 ha hw
  have A4 := ctL4 ha hw
  have A5 := ctL5 ha hw
  have B1 := ctL1 hb hw
  have B2 := ctL2 hb hw
  have B3 := ctL3 hb hw
  have B4 := ctL4 hb hw
  have B5 := ctL5 hb hw
  generalize hN : cN w b = N at *
  have hmin : (if nI m < nI N then nI m else nI N) = nI N := if_neg (nI_nlt hz2 (by omega))
  obtain ⟨_, ⟨s1, s2, s3, s4, s5⟩, _, _⟩ := id ha
  obtain ⟨_, ⟨t1, t2, t3, t4, t5⟩, _, _⟩ := id hb
  refine ⟨?w, ?h1, ?h2, ?h3, ?h4, ?h5, ?h6⟩
  case h1 =>
    unfold Cuts_copyFrom
    simp only [ctI0 ha, ctI1 hb, ctP1 ha, Option.bind_some, hm, e1, hmin, ctR2 ha, ctR2 hb, ctI1 ha, wF_s]
    rw [acp_w (sp := 0) (dp := 0) (m := nI N) (i := 0) (j := 0) (n := N) t1 s1 rfl rfl rfl (by omega) (by omega) (by omega) (by simp [wF]; omega) (by simp [wF]; omega)]
    simp only [ctR3 ha, ctR3 hb, ctI1 ha, wA_F, wF_s, Option.bind_some]
    rw [acp_w (sp := 0) (dp := 0) (m := nI N) (i := 0) (j := 0) (n := N) t2 s2 rfl rfl rfl (by omega) (by omega) (by omega) (by simp [wF, wA, n1 2 1]; omega) (by simp [wF, wA]; omega)]
    simp only [ctR4 ha, ctR4 hb, ctI1 ha, wA_F, wF_s, Option.bind_some]
    rw [acp_w (sp := 0) (dp := 0) (m := nI N) (i := 0) (j := 0) (n := N) t3 s3 rfl rfl rfl (by omega) (by omega) (by omega) (by simp [wF, wA, n1 3 1, n1 3 2]; omega) (by simp [wF, wA]; omega)]
    simp only [ctR5 ha, ctR5 hb, ctI1 ha, wA_F, wF_s, Option.bind_some, nI_k4]
    rw [acp_w (sp := 0) (dp := 0) (m := nI (N * 4)) (i := 0) (j := 0) (n := N * 4) t4 s4 rfl rfl rfl (by omega) (by omega) (by omega) (by simp [wF, wA, n1 4 1, n1 4 2, n1 4 3]; omega) (by simp [wF, wA]; omega)]
    simp only [ctR6 ha, ctR6 hb, ctI1 ha, wA_F, wF_s, Option.bind_some, nI_k6]
    rw [acp_w (sp := 0) (dp := 0) (m := nI (N * 6)) (i := 0) (j := 0) (n := N * 6) t5 s5 rfl rfl rfl (by omega) (by omega) (by omega) (by simp [wF, wA, n1 5 1, n1 5 2, n1 5 3, n1 5 4]; omega) (by simp [wF, wA]; omega)]
    rfl
  case h2 =>
    repeat (first | exact hw | refine WL.A ?_ ?_)
    all_goals (simp [wA, wF, cpy_len]; exact hw _)
  case h3 =>
    unfold cutsW
    rw [hN]
    have e : ∀ W : Wd, W.2 a 1 = nI N → cN W a = N := fun W h => by unfold cN; rw [h, nI_clamp (by omega)]
    rw [e _ (by simp [wA, wF])]
    apply List.map_congr_left
    intro i hi
    have hi' : i < N := List.mem_range.mp hi
    refine ct_ext ?_ ?_ ?_ ?_ ?_
    · simp [wA, wF, gD_cpy, hi', -List.getD_eq_getElem?_getD]; omega
    · simp [wA, wF, gD_cpy, hi', n1 2 1, -List.getD_eq_getElem?_getD]; omega
    · simp [wA, wF, gD_cpy, hi', n1 3 1, n1 3 2, -List.getD_eq_getElem?_getD]; omega
    · intro p hp
      simp [wA, wF, gD_cpy, n1 4 1, n1 4 2, n1 4 3, -List.getD_eq_getElem?_getD]; omega
    · intro p hp
      simp [wA, wF, gD_cpy, n1 5 1, n1 5 2, n1 5 3, n1 5 4, -List.getD_eq_getElem?_getD]; omega
  case h4 =>
    have e : ∀ W : Wd, W.2 a 1 = nI N → cSz W a m := fun W h => by
      unfold cSz cN; rw [h, nI_clamp (by omega)]; exact ⟨rfl, hz2⟩
    exact e _ (by simp [wA, wF])
  case h5 => simp [wA, wF]
  case h6 =>
    repeat (first | exact Fr.rfl' | refine Fr.cA ?_ ?_ ?_ | refine Fr.cF ?_ ?_ ?_)
    all_goals omega
def ctOf (x y z : Int32) (u v : List Int32) : List Int32 := (List.range 13).map (fun k => if k = 0 then x else if k = 1 then y else if k = 2 then z else if k < 7 then u.getD (k - 3) 0 else v.getD (k - 7) 0)
theorem Cuts_append_w {w : Wd} {a m pu pv : Nat} {x y : Int32} (ha : isCt a m) (hw : WL w) (hm : w.2 a 0 = nI m) (hz : cSz w a m) (hz2 : cN w a < m) (hu : shp[pu]? = some (.inr (.inl 0))) (hv : shp[pv]? = some (.inr (.inl 0))) (lu : (w.1 pu).length = 4) (lv : (w.1 pv).length = 6) (du : pu < a ∨ a + 6 ≤ pu) (dv : pv < a ∨ a + 6 ≤ pv) : ∃ w', Cuts_append a x y pu pv (hp w) = some ((), hp w') ∧ WL w' ∧ cutsW w' a = cutsW w a ++ [ctOf x y 0 (w.1 pu) (w.1 pv)] ∧ cSz w' a m ∧ w'.2 a 0 = w.2 a 0 ∧ Fr w w' a (a + 6) := by
  have hm99 := ha.2.2.2
  obtain ⟨e1, hz⟩ := hz
  have A1 := ctL1 ha hw
  have A2 := ctL2 ha hw
  have A3 := ctL3 ha hw
  have A4 := ctL4 ha hw
  have A5 := ctL5 ha hw
  have d1 : ∀ j, j ≤ 5 → ¬ pu = a + j := fun j h => by omega
  have d2 : ∀ j, j ≤ 5 → ¬ pv = a + j := fun j h => by omega
  generalize hN : cN w a = N at *
  obtain ⟨_, ⟨s1, s2, s3, s4, s5⟩, _, _⟩ := id ha
  have hc : nI N < nI m := nI_lt hz2 (by omega)
  refine ⟨?w, ?h1, ?h2, ?h3, ?h4, ?h5, ?h6⟩
  case h1 =>
    unfold Cuts_append
    simp only [ctI0 ha, ctI1 ha, Option.bind_some, hm, e1, if_pos hc, ctR2 ha]
    rw [ast_w (j := N) s1 rfl (by omega) (by omega)]
    simp only [ctR3 ha, ctI1 ha, wA_F, e1, Option.bind_some]
    rw [ast_w (j := N) s2 rfl (by simp [wA]; omega) (by omega)]
    simp only [ctR4 ha, ctI1 ha, wA_F, e1, Option.bind_some]
    rw [ast_w (j := N) s3 rfl (by simp [wA]; omega) (by omega)]
    simp only [ctR5 ha, ctI1 ha, wA_F, e1, Option.bind_some, nI_k4]
    rw [acp_w (sp := 0) (dp := nI (N * 4)) (m := 4) (i := 0) (j := N * 4) (n := 4) hu s4 rfl rfl rfl (by omega) (by omega) (by omega) (by simp [wA, d1]; omega) (by simp [wA]; omega)]
    simp only [ctR6 ha, ctI1 ha, wA_F, e1, Option.bind_some, nI_k6]
    rw [acp_w (sp := 0) (dp := nI (N * 6)) (m := 6) (i := 0) (j := N * 6) (n := 6) hv s5 rfl rfl rfl (by omega) (by omega) (by omega) (by simp [wA, d2]; omega) (by simp [wA]; omega)]
    simp only [ctI1 ha, wA_F, e1, Option.bind_some, ctP1 ha, nI_1]
    rfl
  case h2 =>
    refine WL.F ?_
    repeat (first | exact hw | refine WL.A ?_ ?_)
    all_goals (simp [wA, wF, cpy_len]; exact hw _)
  case h3 =>
    unfold cutsW
    rw [hN]
    have e : ∀ W : Wd, W.2 a 1 = nI (N + 1) → cN W a = N + 1 := fun W h => by unfold cN; rw [h, nI_clamp (by omega)]
    rw [e _ (by simp [wA, wF]), List.range_succ, List.map_append, List.map_singleton]
    congr 1
    · apply List.map_congr_left
      intro i hi
      have hi' : i < N := List.mem_range.mp hi
      have hi2 : ¬ N = i := by omega
      refine ct_ext ?_ ?_ ?_ ?_ ?_
      · simp [wA, wF, gD_set, hi2, -List.getD_eq_getElem?_getD]
      · simp [wA, wF, gD_set, hi2, -List.getD_eq_getElem?_getD]
      · simp [wA, wF, gD_set, hi2, -List.getD_eq_getElem?_getD]
      · intro p hp
        have : ¬ (N * 4 ≤ i * 4 + p ∧ i * 4 + p < N * 4 + 4) := by omega
        simp [wA, wF, gD_cpy, this, -List.getD_eq_getElem?_getD]
      · intro p hp
        have : ¬ (N * 6 ≤ i * 6 + p ∧ i * 6 + p < N * 6 + 6) := by omega
        simp [wA, wF, gD_cpy, this, -List.getD_eq_getElem?_getD]
    · congr 1
      unfold ctW ctOf
      apply List.map_congr_left
      intro k hk
      have hk' : k < 13 := List.mem_range.mp hk
      unfold ctF
      by_cases k3 : k < 7
      · by_cases k2 : k < 3
        · have : k = 0 ∨ k = 1 ∨ k = 2 := by omega
          rcases this with rfl | rfl | rfl <;> simp [wA, wF, nar, gD_set, A1, A2, A3, hz2, -List.getD_eq_getElem?_getD]
        · simp only [show ¬ k = 0 by omega, show ¬ k = 1 by omega, show ¬ k = 2 by omega, k3, ↓reduceIte]
          simp [wA, wF, gD_cpy, d1, -List.getD_eq_getElem?_getD]
          omega
      · simp only [show ¬ k = 0 by omega, show ¬ k = 1 by omega, show ¬ k = 2 by omega, k3, ↓reduceIte]
        simp [wA, wF, gD_cpy, d2, -List.getD_eq_getElem?_getD]
        omega
  case h4 =>
    have e : ∀ W : Wd, W.2 a 1 = nI (N + 1) → cSz W a m := fun W h => by
      unfold cSz cN; rw [h, nI_clamp (by omega)]; exact ⟨rfl, hz2⟩
    exact e _ (by simp [wA, wF])
  case h5 => simp [wA, wF]
  case h6 =>
    repeat (first | exact Fr.rfl' | refine Fr.cA ?_ ?_ ?_ | refine Fr.cF ?_ ?_ ?_)
    all_goals omega
