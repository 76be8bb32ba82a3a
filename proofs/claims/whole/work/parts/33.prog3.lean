theorem cpy_full {f g : List Int32} {n : Nat} (hf : f.length = n) (hg : g.length = n) : cpyL f g 0 0 n = f := by
  apply List.ext_getElem?
  intro j
  unfold cpyL
  by_cases hj : j < n
  · have h1 : j < g.length := by omega
    have h2 : j < f.length := by omega
    rw [List.getElem?_map, List.getElem?_range h1]
    simp [hj, h2]
  · have h1 : ¬ j < g.length := by omega
    have h2 : f.length ≤ j := by omega
    rw [List.getElem?_eq_none (by simp; omega), List.getElem?_eq_none h2]
theorem Fr.cA {w w' : Wd} {a lo hi : Nat} {xs : List Int32} (h : Fr w w' lo hi) (h1 : lo ≤ a) (h2 : a < hi) : Fr w (wA w' a xs) lo hi := Fr.tr h (Fr.A h1 h2)
theorem Fr.cF {w w' : Wd} {a k lo hi : Nat} {x : Int32} (h : Fr w w' lo hi) (h1 : lo ≤ a) (h2 : a < hi) : Fr w (wF w' a k x) lo hi := Fr.tr h (Fr.F h1 h2)
def SL (w w' : Wd) : Prop := ∀ i, (w'.1 i).length = (w.1 i).length
theorem SL.rfl' {w : Wd} : SL w w := fun _ => rfl
theorem SL.cA {w w' : Wd} {a : Nat} {xs : List Int32} (h : SL w w') (hx : xs.length = (w'.1 a).length) : SL w (wA w' a xs) := by
  intro i
  by_cases hi : i = a
  · subst hi; rw [wA_s, hx, h i]
  · rw [wA_n hi, h i]
theorem SL.cF {w w' : Wd} {a k : Nat} {x : Int32} (h : SL w w') : SL w (wF w' a k x) := h
theorem Prog_copyFrom_w {w : Wd} {a b : Nat} (ha : isPg a) (hb : isPg b) (hd : a + 7 ≤ b ∨ b + 7 ≤ a) (la : (w.1 (a + 1)).length = 4 ∧ (w.1 (a + 2)).length = 4 ∧ (w.1 (a + 3)).length = 4 ∧ (w.1 (a + 4)).length = 24 ∧ (w.1 (a + 5)).length = 4 ∧ (w.1 (a + 6)).length = 24) (lb : (w.1 (b + 1)).length = 4 ∧ (w.1 (b + 2)).length = 4 ∧ (w.1 (b + 3)).length = 4 ∧ (w.1 (b + 4)).length = 24 ∧ (w.1 (b + 5)).length = 4 ∧ (w.1 (b + 6)).length = 24) : ∃ w', Prog_copyFrom a b (hp w) = some ((), hp w') ∧ pdW w' a = pdW w b ∧ Fr w w' a (a + 7) ∧ SL w w' := by
  have n1 : ∀ i j, i ≤ 6 → j ≤ 6 → ¬ b + i = a + j := fun i j h1 h2 => by omega
  have n2 : ∀ j, j ≤ 6 → ¬ b = a + j := fun j h2 => by omega
  have n3 : ∀ i, i ≤ 6 → ¬ b + i = a := fun i h2 => by omega
  have n4 : ¬ b = a := by omega
  obtain ⟨a1, a2, a3, a4, a5, a6⟩ := la
  obtain ⟨b1, b2, b3, b4, b5, b6⟩ := lb
  refine ⟨?w, ?h1, ?h2, ?h3, ?h4⟩
  case h1 =>
    unfold Prog_copyFrom
    simp only [pgI0 hb, pgI1 hb, pgI2 hb, pgP0 ha, pgP1 ha, pgP2 ha, pgR3 hb, pgR4 hb, pgR5 hb, pgR6 hb, pgR7 hb, pgR8 hb, pgR3 ha, pgR4 ha, pgR5 ha, pgR6 ha, pgR7 ha, pgR8 ha, Option.bind_some]
    rw [acp_w hb.2.1 ha.2.1 (sp := 0) (dp := 0) (m := 4) (i := 0) (j := 0) (n := 4) rfl rfl rfl (by omega) (by omega) (by omega)]
    simp only [Option.bind_some, pgR4 hb, pgR4 ha]
    rw [acp_w hb.2.2.1 ha.2.2.1 (sp := 0) (dp := 0) (m := 4) (i := 0) (j := 0) (n := 4) rfl rfl rfl (by omega) (by omega) (by omega)]
    simp only [Option.bind_some, pgR5 hb, pgR5 ha]
    rw [acp_w hb.2.2.2.1 ha.2.2.2.1 (sp := 0) (dp := 0) (m := 4) (i := 0) (j := 0) (n := 4) rfl rfl rfl (by omega) (by omega) (by omega)]
    simp only [Option.bind_some, pgR6 hb, pgR6 ha]
    rw [acp_w hb.2.2.2.2.1 ha.2.2.2.2.1 (sp := 0) (dp := 0) (m := 24) (i := 0) (j := 0) (n := 24) rfl rfl rfl (by omega) (by omega) (by omega)]
    simp only [Option.bind_some, pgR7 hb, pgR7 ha]
    rw [acp_w hb.2.2.2.2.2.1 ha.2.2.2.2.2.1 (sp := 0) (dp := 0) (m := 4) (i := 0) (j := 0) (n := 4) rfl rfl rfl (by omega) (by omega) (by omega)]
    simp only [Option.bind_some, pgR8 hb, pgR8 ha]
    rw [acp_w hb.2.2.2.2.2.2 ha.2.2.2.2.2.2 (sp := 0) (dp := 0) (m := 24) (i := 0) (j := 0) (n := 24) rfl rfl rfl (by omega) (by omega) (by omega)]
    rfl
    all_goals simp [wA, wF, a1, a2, a3, a4, a5, a6, b1, b2, b3, b4, b5, b6, n1 2 1, n1 3 1, n1 3 2, n1 4 1, n1 4 2, n1 4 3, n1 5 1, n1 5 2, n1 5 3, n1 5 4, n1 6 1, n1 6 2, n1 6 3, n1 6 4, n1 6 5]
  case h2 =>
    simp [pdW, wA, wF, n1 1 1 (by omega) (by omega), n1 2 1 (by omega) (by omega), n1 2 2 (by omega) (by omega), n1 3 1 (by omega) (by omega), n1 3 2 (by omega) (by omega), n1 3 3 (by omega) (by omega), n1 4 1 (by omega) (by omega), n1 4 2 (by omega) (by omega), n1 4 3 (by omega) (by omega), n1 4 4 (by omega) (by omega), n1 5 1 (by omega) (by omega), n1 5 2 (by omega) (by omega), n1 5 3 (by omega) (by omega), n1 5 4 (by omega) (by omega), n1 5 5 (by omega) (by omega), n1 6 1 (by omega) (by omega), n1 6 2 (by omega) (by omega), n1 6 3 (by omega) (by omega), n1 6 4 (by omega) (by omega), n1 6 5 (by omega) (by omega), n1 6 6 (by omega) (by omega), n4, cpy_full b1 a1, cpy_full b2 a2, cpy_full b3 a3, cpy_full b4 a4, cpy_full b5 a5, cpy_full b6 a6]
  case h3 =>
    repeat (first | exact Fr.rfl' | refine Fr.cA ?_ ?_ ?_ | refine Fr.cF ?_ ?_ ?_)
    all_goals omega
  case h4 =>
    repeat (first | exact SL.rfl' | refine SL.cA ?_ cpyL_len | refine SL.cF ?_)
