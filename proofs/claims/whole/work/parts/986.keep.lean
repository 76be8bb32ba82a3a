/-! the reference: rows kept and brought back -/
theorem ext_gD {a b : List Int32} (hl : a.length = b.length) (h : ∀ k, k < b.length → a.getD k 0 = b.getD k 0) : a = b := by
  apply List.ext_getElem hl
  intro i h1 h2
  have := h i h2
  rw [List.getD_eq_getElem?_getD, List.getD_eq_getElem?_getD, List.getElem?_eq_getElem h1, List.getElem?_eq_getElem h2] at this
  exact this
/-- one cell of a copy of a row -/
def cpI (w W : Wd) (a b j : Nat) : Prop := WL W ∧ Fr w W a (a + 1) ∧ W.2 = w.2 ∧ ∀ k, (W.1 a).getD k 0 = if k < j then (w.1 b).getD k 0 else (w.1 a).getD k 0
theorem cpI.step {w W : Wd} {a b j : Nat} (h : cpI w W a b j) (hab : a ≠ b) (hj : j < lenT.getD a 0) : cpI w (wA W a ((W.1 a).set j ((W.1 b).getD j 0))) a b (j + 1) := by
  obtain ⟨h1, h2, h3, h4⟩ := h
  have hla : j < (W.1 a).length := by rw [h1 a]; exact hj
  refine ⟨h1.A (by rw [List.length_set]; exact h1 a), h2.cA (by omega) (by omega), h3, fun k => ?_⟩
  have hb : W.1 b = w.1 b := (h2 b (by omega)).1
  show (if a = a then (W.1 a).set j ((W.1 b).getD j 0) else W.1 a).getD k 0 = _
  rw [if_pos rfl, gD_set, hb, h4 k]
  by_cases hk : j = k
  · subst hk
    rw [if_pos ⟨rfl, hla⟩, if_pos (by omega)]
  · rw [if_neg (fun hh => hk hh.1)]
    by_cases hk2 : k < j
    · rw [if_pos hk2, if_pos (by omega)]
    · rw [if_neg hk2, if_neg (by omega)]
theorem cpI.fin {w W : Wd} {a b n : Nat} (h : cpI w W a b n) (hw : WL w) (ha : lenT.getD a 0 = n) (hb : lenT.getD b 0 = n) : W.1 a = w.1 b := by
  apply ext_gD
  · rw [h.1 a, hw b, ha, hb]
  · intro k hk
    rw [hw b, hb] at hk
    rw [h.2.2.2 k, if_pos hk]
theorem cpI.zero {w : Wd} {a b : Nat} (hw : WL w) : cpI w w a b 0 := ⟨hw, Fr.rfl', rfl, fun k => by rw [if_neg (by omega)]⟩
theorem Mod_keepsAhead_w {w : Wd} (hw : WL w) : ∃ w', Mod_keepsAhead 274 (hp w) = some ((), hp w') ∧ WL w' ∧ w'.1 280 = w.1 279 ∧ w'.2 = w.2 ∧ Fr w w' 280 281 := by
  obtain ⟨q, i1, W, rfl, hW⟩ := iter_I (body := Mod_keepsAhead_b2 274) (fun j s => ∃ W, s = (nI j, hp W) ∧ cpI w W 280 279 j) (fun r => ∃ W, r = (nI 1427, hp W) ∧ cpI w W 280 279 1427) 1427 (s0 := (0, hp w)) (by omega) ⟨w, rfl, cpI.zero hw⟩ (by
    rintro j s hj ⟨W, rfl, hW⟩
    left
    have hcn : ¬ (1427 : Int32) ≤ nI j := nI_ge (b := 1427) hj (by omega)
    have a1 : ald 0 (hp W) 279 (nI j) = some ((W.1 279).getD j 0) := ldN hW.1 rfl hj
    have a2 : ast 0 (hp W) 280 (nI j) ((W.1 279).getD j 0) = some (hp (wA W 280 ((W.1 280).set j ((W.1 279).getD j 0)))) := ast_w s280 rfl (by rw [l280 hW.1]; exact hj) (by omega)
    exact ⟨_, by simp only [Mod_keepsAhead_b2, if_neg hcn, c274_6, c274_5, Option.bind_some, a1, a2, nI_1], _, rfl, hW.step (by omega) hj⟩) (by
    rintro s ⟨W, rfl, hW⟩
    exact ⟨(nI 1427, hp W), by simp only [Mod_keepsAhead_b2, if_pos (show (1427 : Int32) ≤ nI 1427 by decide)], W, rfl, hW⟩)
  exact ⟨W, by simp only [Mod_keepsAhead, i1, Option.bind_some, Mod_keepsAhead_j27], hW.1, hW.fin hw rfl rfl, hW.2.2.1, hW.2.1⟩
theorem Mod_comesBack_w {w : Wd} {b : Nat} (hw : WL w) (hb : shp[b]? = some (.inr (.inl 0))) (hl : lenT.getD b 0 = 1427) (hne : 279 ≠ b) : ∃ w', Mod_comesBack 274 b (hp w) = some ((), hp w') ∧ WL w' ∧ w'.1 279 = w.1 b ∧ w'.2 = w.2 ∧ Fr w w' 279 280 := by
  obtain ⟨q, i1, W, rfl, hW⟩ := iter_I (body := Mod_comesBack_b2 274 b) (fun j s => ∃ W, s = (nI j, hp W) ∧ cpI w W 279 b j) (fun r => ∃ W, r = (nI 1427, hp W) ∧ cpI w W 279 b 1427) 1427 (s0 := (0, hp w)) (by omega) ⟨w, rfl, cpI.zero hw⟩ (by
    rintro j s hj ⟨W, rfl, hW⟩
    left
    have hcn : ¬ (1427 : Int32) ≤ nI j := nI_ge (b := 1427) hj (by omega)
    have a1 : ald 0 (hp W) b (nI j) = some ((W.1 b).getD j 0) := ald_w hb rfl (by rw [hW.1 b, hl]; exact hj) (by omega)
    have a2 : ast 0 (hp W) 279 (nI j) ((W.1 b).getD j 0) = some (hp (wA W 279 ((W.1 279).set j ((W.1 b).getD j 0)))) := stN hW.1 rfl hj
    exact ⟨_, by simp only [Mod_comesBack_b2, if_neg hcn, c274_5, Option.bind_some, a1, a2, nI_1], _, rfl, hW.step hne hj⟩) (by
    rintro s ⟨W, rfl, hW⟩
    exact ⟨(nI 1427, hp W), by simp only [Mod_comesBack_b2, if_pos (show (1427 : Int32) ≤ nI 1427 by decide)], W, rfl, hW⟩)
  exact ⟨W, by simp only [Mod_comesBack, i1, Option.bind_some, Mod_comesBack_j24], hW.1, hW.fin hw rfl hl, hW.2.2.1, hW.2.1⟩
theorem Mod_forgets_w {w : Wd} {g : PD} {cs : List (List Int32)} {sr : List Int32} (hw : WL w) (hr : rowIs (w.1 279) g cs sr) : ∃ w', Mod_forgets 274 (hp w) = some ((), hp w') ∧ WL w' ∧ rowIs (w'.1 279) g cs sr0 ∧ w'.2 = w.2 ∧ Fr w w' 279 280 := by
  have st : ∀ (W : Wd) (k : Nat) (i x : Int32), WL W → i = nI k → k < 1427 → ∃ V, ast 0 (hp W) 279 i x = some (hp V) ∧ WL V ∧ V.1 279 = (W.1 279).set k x ∧ V.2 = W.2 ∧ Fr W V 279 280 := by
    intro W k i x hW hi hk
    refine ⟨_, stN hW hi hk, hW.A (by rw [List.length_set]; exact hW 279), ?_, rfl, Fr.A (by omega) (by omega)⟩
    show (if 279 = 279 then (W.1 279).set k x else W.1 279) = _
    exact if_pos rfl
  obtain ⟨w1, a1, b1, c1, d1, e1⟩ := st w 3 3 0 hw rfl (by omega)
  obtain ⟨w2, a2, b2, c2, d2, e2⟩ := st w1 4 4 (-1) b1 rfl (by omega)
  obtain ⟨w3, a3, b3, c3, d3, e3⟩ := st w2 5 5 (-1) b2 rfl (by omega)
  obtain ⟨w4, a4, b4, c4, d4, e4⟩ := st w3 6 6 (-1) b3 rfl (by omega)
  obtain ⟨w5, a5, b5, c5, d5, e5⟩ := st w4 7 7 (-1) b4 rfl (by omega)
  obtain ⟨w6, a6, b6, c6, d6, e6⟩ := st w5 8 8 0 b5 rfl (by omega)
  obtain ⟨w7, a7, b7, c7, d7, e7⟩ := st w6 10 10 0 b6 rfl (by omega)
  refine ⟨w7, by simp only [Mod_forgets, c274_5, Option.bind_some, a1, a2, a3, a4, a5, a6, a7], b7, ?_, by rw [d7, d6, d5, d4, d3, d2, d1], (((((e1.tr e2).tr e3).tr e4).tr e5).tr e6).tr e7⟩
  have L := l279 hw
  have r1 := hr.set L (k := 3) (by omega) 0
  rw [← c1] at r1
  have r2 := r1.set (l279 b1) (k := 4) (by omega) (-1)
  rw [← c2] at r2
  have r3 := r2.set (l279 b2) (k := 5) (by omega) (-1)
  rw [← c3] at r3
  have r4 := r3.set (l279 b3) (k := 6) (by omega) (-1)
  rw [← c4] at r4
  have r5 := r4.set (l279 b4) (k := 7) (by omega) (-1)
  rw [← c5] at r5
  have r6 := r5.set (l279 b5) (k := 8) (by omega) 0
  rw [← c6] at r6
  have r7 := r6.set (l279 b6) (k := 10) (by omega) 0
  rw [← c7] at r7
  have hs : sr.length = 7 := by rw [← hr.2.2.1]; rfl
  have : ((((((((sr.set (if 3 = 10 then 6 else 3 - 3) 0).set (if 4 = 10 then 6 else 4 - 3) (-1)).set (if 5 = 10 then 6 else 5 - 3) (-1)).set (if 6 = 10 then 6 else 6 - 3) (-1)).set (if 7 = 10 then 6 else 7 - 3) (-1)).set (if 8 = 10 then 6 else 8 - 3) 0).set (if 10 = 10 then 6 else 10 - 3) 0)) = sr0 := by
    match sr, hs with
    | [x0, x1, x2, x3, x4, x5, x6], _ => rfl
  rw [this] at r7
  exact r7
