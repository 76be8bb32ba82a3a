/-! cuts: rows of 13 numbers -/
theorem nI_mul (a b : Nat) : nI a * nI b = nI (a * b) := (Int32.ofNat_mul a b).symm
theorem nI_ma (i k p : Nat) : nI i * nI k + nI p = nI (i * k + p) := by rw [nI_mul, nI_add]
theorem gD_set {l : List Int32} {i j : Nat} {x : Int32} : (l.set i x).getD j 0 = if i = j ∧ i < l.length then x else l.getD j 0 := by
  simp only [List.getD_eq_getElem?_getD, List.getElem?_set]
  by_cases h : i = j
  · subst h
    by_cases h2 : i < l.length
    · simp [h2]
    · simp [h2]
  · simp [h]
theorem gD_cpy {f g : List Int32} {sp dp n j : Nat} : (cpyL f g sp dp n).getD j 0 = if (dp ≤ j ∧ j < dp + n) ∧ j < g.length then f.getD (sp + (j - dp)) 0 else g.getD j 0 := by
  unfold cpyL
  rw [List.getD_eq_getElem?_getD, List.getElem?_map]
  by_cases h : j < g.length
  · rw [List.getElem?_range h]
    by_cases h2 : dp ≤ j ∧ j < dp + n <;> simp [h, h2]
  · rw [List.getElem?_eq_none (by simp; omega)]
    simp [h]
theorem cpy_len {f g : List Int32} {sp dp n : Nat} : (cpyL f g sp dp n).length = g.length := by simp [cpyL]
def isCt (a m : Nat) : Prop := shp[a]? = some (.inl (2, [none, none, some (a + 1), some (a + 2), some (a + 3), some (a + 4), some (a + 5)])) ∧ (shp[a + 1]? = some (.inr (.inl 0)) ∧ shp[a + 2]? = some (.inr (.inl 0)) ∧ shp[a + 3]? = some (.inr (.inl 0)) ∧ shp[a + 4]? = some (.inr (.inl 0)) ∧ shp[a + 5]? = some (.inr (.inl 0))) ∧ (lenT.getD (a + 1) 0 = m ∧ lenT.getD (a + 2) 0 = m ∧ lenT.getD (a + 3) 0 = m ∧ lenT.getD (a + 4) 0 = m * 4 ∧ lenT.getD (a + 5) 0 = m * 6) ∧ m ≤ 99
section Ct
variable {w : Wd} {a m : Nat}
theorem ctI0 (h : isCt a m) : gfI (hp w) a 2 0 = some (w.2 a 0) := gfI_w h.1 rfl
theorem ctI1 (h : isCt a m) : gfI (hp w) a 2 1 = some (w.2 a 1) := gfI_w h.1 rfl
theorem ctP1 (h : isCt a m) {x : Int32} : pfV (hp w) a 2 1 (.int x) = some (hp (wF w a 1 x)) := pfV_w h.1 rfl
theorem ctR2 (h : isCt a m) : gfR (hp w) a 2 2 = some (a + 1) := gfR_w h.1 rfl
theorem ctR3 (h : isCt a m) : gfR (hp w) a 2 3 = some (a + 2) := gfR_w h.1 rfl
theorem ctR4 (h : isCt a m) : gfR (hp w) a 2 4 = some (a + 3) := gfR_w h.1 rfl
theorem ctR5 (h : isCt a m) : gfR (hp w) a 2 5 = some (a + 4) := gfR_w h.1 rfl
theorem ctR6 (h : isCt a m) : gfR (hp w) a 2 6 = some (a + 5) := gfR_w h.1 rfl
theorem ctK (h : isCt a m) : chk (hp w) a 2 = some () := chk_w h.1
theorem ctL1 (h : isCt a m) (hw : WL w) : (w.1 (a + 1)).length = m := by rw [hw, h.2.2.1.1]
theorem ctL2 (h : isCt a m) (hw : WL w) : (w.1 (a + 2)).length = m := by rw [hw, h.2.2.1.2.1]
theorem ctL3 (h : isCt a m) (hw : WL w) : (w.1 (a + 3)).length = m := by rw [hw, h.2.2.1.2.2.1]
theorem ctL4 (h : isCt a m) (hw : WL w) : (w.1 (a + 4)).length = m * 4 := by rw [hw, h.2.2.1.2.2.2.1]
theorem ctL5 (h : isCt a m) (hw : WL w) : (w.1 (a + 5)).length = m * 6 := by rw [hw, h.2.2.1.2.2.2.2]
end Ct
theorem isCt_9 : isCt 9 40 := ⟨by decide +kernel, ⟨by decide +kernel, by decide +kernel, by decide +kernel, by decide +kernel, by decide +kernel⟩, ⟨by decide +kernel, by decide +kernel, by decide +kernel, by decide +kernel, by decide +kernel⟩, by decide +kernel⟩
theorem isCt_235 : isCt 235 99 := ⟨by decide +kernel, ⟨by decide +kernel, by decide +kernel, by decide +kernel, by decide +kernel, by decide +kernel⟩, ⟨by decide +kernel, by decide +kernel, by decide +kernel, by decide +kernel, by decide +kernel⟩, by decide +kernel⟩
def ctF (w : Wd) (a i k : Nat) : Int32 := if k = 0 then (w.1 (a + 1)).getD i 0 else if k = 1 then (w.1 (a + 2)).getD i 0 else if k = 2 then (w.1 (a + 3)).getD i 0 else if k < 7 then (w.1 (a + 4)).getD (i * 4 + (k - 3)) 0 else (w.1 (a + 5)).getD (i * 6 + (k - 7)) 0
def ctW (w : Wd) (a i : Nat) : List Int32 := (List.range 13).map (ctF w a i)
def cN (w : Wd) (a : Nat) : Nat := (w.2 a 1).toNatClampNeg
def cutsW (w : Wd) (a : Nat) : List (List Int32) := (List.range (cN w a)).map (ctW w a)
def cSz (w : Wd) (a m : Nat) : Prop := w.2 a 1 = nI (cN w a) ∧ cN w a ≤ m
theorem map_range_getD {n k : Nat} {f : Nat → Int32} (h : k < n) : ((List.range n).map f).getD k 0 = f k := by
  rw [List.getD_eq_getElem?_getD, List.getElem?_map, List.getElem?_range h]; rfl
theorem ctW_k {w : Wd} {a i k : Nat} (h : k < 13) : (ctW w a i).getD k 0 = ctF w a i k := map_range_getD h
theorem ct_ext {w w' : Wd} {a a' i i' : Nat} (h1 : (w'.1 (a' + 1)).getD i' 0 = (w.1 (a + 1)).getD i 0) (h2 : (w'.1 (a' + 2)).getD i' 0 = (w.1 (a + 2)).getD i 0) (h3 : (w'.1 (a' + 3)).getD i' 0 = (w.1 (a + 3)).getD i 0) (h4 : ∀ p, p < 4 → (w'.1 (a' + 4)).getD (i' * 4 + p) 0 = (w.1 (a + 4)).getD (i * 4 + p) 0) (h5 : ∀ s, s < 6 → (w'.1 (a' + 5)).getD (i' * 6 + s) 0 = (w.1 (a + 5)).getD (i * 6 + s) 0) : ctW w' a' i' = ctW w a i := by
  unfold ctW
  apply List.map_congr_left
  intro k hk
  have hk' : k < 13 := List.mem_range.mp hk
  unfold ctF
  rw [h1, h2, h3]
  by_cases k3 : k < 7
  · by_cases k2 : k < 3
    · have : k = 0 ∨ k = 1 ∨ k = 2 := by omega
      rcases this with rfl | rfl | rfl <;> rfl
    · rw [if_pos k3, if_pos k3, h4 (k - 3) (by omega)]
  · rw [if_neg k3, if_neg k3, h5 (k - 7) (by omega)]
theorem ct_fr {w w' : Wd} {a i : Nat} {lo hi : Nat} (h : Fr w w' lo hi) (ha : a + 6 ≤ lo ∨ hi ≤ a) : ctW w' a i = ctW w a i := by
  have e : ∀ j, j ≤ 5 → w'.1 (a + j) = w.1 (a + j) := fun j hj => (h (a + j) (by omega)).1
  exact ct_ext (by rw [e 1 (by omega)]) (by rw [e 2 (by omega)]) (by rw [e 3 (by omega)]) (fun p _ => by rw [e 4 (by omega)]) (fun s _ => by rw [e 5 (by omega)])
theorem cuts_fr {w w' : Wd} {a : Nat} {lo hi : Nat} (h : Fr w w' lo hi) (ha : a + 6 ≤ lo ∨ hi ≤ a) : cutsW w' a = cutsW w a := by
  have e : w'.2 a = w.2 a := (h a (by omega)).2
  have e1 : cN w' a = cN w a := by unfold cN; rw [e]
  unfold cutsW
  rw [e1]
  apply List.map_congr_left
  intro i _
  exact ct_fr h ha
theorem Cuts_move_w {w : Wd} {a m i j : Nat} (ha : isCt a m) (hw : WL w) (hi : i < m) (hj : j < m) : ∃ w', Cuts_move a (nI i) (nI j) (hp w) = some ((), hp w') ∧ WL w' ∧ ctW w' a j = ctW w a i ∧ (∀ x, x ≠ j → ctW w' a x = ctW w a x) ∧ Fr w w' (a + 1) (a + 6) := by
  have hm := ha.2.2.2
  by_cases hij : i = j
  · subst hij
    exact ⟨w, by simp [Cuts_move], hw, rfl, fun x _ => rfl, Fr.rfl'⟩
  · have hne : ¬ nI i = nI j := fun h => hij ((nI_eq (by omega) (by omega)).mp h)
    have L1 := ctL1 ha hw
    have L2 := ctL2 ha hw
    have L3 := ctL3 ha hw
    have L4 := ctL4 ha hw
    have L5 := ctL5 ha hw
    obtain ⟨_, ⟨s1, s2, s3, s4, s5⟩, _, _⟩ := id ha
    refine ⟨?w, ?h1, ?h2, ?h3, ?h4, ?h5⟩
    case h1 =>
      unfold Cuts_move
      rw [if_pos hne]
      simp only [ctR2 ha, ctR3 ha, ctR4 ha, ctR5 ha, ctR6 ha, Option.bind_some, ald_w (j := i) s1 rfl (show i < (w.1 (a + 1)).length by omega) (by omega), ast_w (j := j) s1 rfl (show j < (w.1 (a + 1)).length by omega) (by omega)]
      rw [ald_w (j := i) s2 rfl (by simp [wA]; omega) (by omega)]
      simp only [Option.bind_some]
      rw [ast_w (j := j) s2 rfl (by simp [wA]; omega) (by omega)]
      simp only [ctR2 ha, ctR3 ha, ctR4 ha, ctR5 ha, ctR6 ha, Option.bind_some]
      rw [ald_w (j := i) s3 rfl (by simp [wA]; omega) (by omega)]
      simp only [Option.bind_some]
      rw [ast_w (j := j) s3 rfl (by simp [wA]; omega) (by omega)]
      simp only [ctR2 ha, ctR3 ha, ctR4 ha, ctR5 ha, ctR6 ha, Option.bind_some]
      rw [acp_w (sp := nI i * 4) (dp := nI j * 4) (m := 4) s4 s4 (nI_mul i 4) (nI_mul j 4) (show (4 : Int32) = nI 4 from rfl) (by omega) (by omega) (by omega) (by simp [wA]; omega) (by simp [wA]; omega)]
      simp only [ctR2 ha, ctR3 ha, ctR4 ha, ctR5 ha, ctR6 ha, Option.bind_some]
      rw [acp_w (sp := nI i * 6) (dp := nI j * 6) (m := 6) s5 s5 (nI_mul i 6) (nI_mul j 6) (show (6 : Int32) = nI 6 from rfl) (by omega) (by omega) (by omega) (by simp [wA]; omega) (by simp [wA]; omega)]
      rfl
    case h2 =>
      repeat (first | exact hw | refine WL.A ?_ ?_)
      all_goals (simp [wA, cpy_len]; exact hw _)
    case h3 =>
      refine ct_ext ?_ ?_ ?_ ?_ ?_
      · simp [wA, nar, gD_set, L1, hj, -List.getD_eq_getElem?_getD]
      · simp [wA, nar, gD_set, L2, hj, -List.getD_eq_getElem?_getD]
      · simp [wA, nar, gD_set, L3, hj, -List.getD_eq_getElem?_getD]
      · intro p hp
        simp [wA, gD_cpy, L4, -List.getD_eq_getElem?_getD]
        omega
      · intro p hp
        simp [wA, gD_cpy, L5, -List.getD_eq_getElem?_getD]
        omega
    case h4 =>
      intro x hx
      have hx' : ¬ j = x := fun h => hx h.symm
      refine ct_ext ?_ ?_ ?_ ?_ ?_
      · simp [wA, nar, gD_set, hx', -List.getD_eq_getElem?_getD]
      · simp [wA, nar, gD_set, hx', -List.getD_eq_getElem?_getD]
      · simp [wA, nar, gD_set, hx', -List.getD_eq_getElem?_getD]
      · intro p hp
        have : ¬ (j * 4 ≤ x * 4 + p ∧ x * 4 + p < j * 4 + 4) := by omega
        simp [wA, gD_cpy, this, -List.getD_eq_getElem?_getD]
      · intro p hp
        have : ¬ (j * 6 ≤ x * 6 + p ∧ x * 6 + p < j * 6 + 6) := by omega
        simp [wA, gD_cpy, this, -List.getD_eq_getElem?_getD]
    case h5 =>
      repeat (first | exact Fr.rfl' | refine Fr.cA ?_ ?_ ?_ | refine Fr.cF ?_ ?_ ?_)
      all_goals omega
