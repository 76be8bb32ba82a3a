/-! need: the program after it -/
def gNeed (g : PD) (c s : Nat) (v : Int32) : PD := (g.1, g.2.1, g.2.2.1, g.2.2.2.1, g.2.2.2.2.1, g.2.2.2.2.2.1, g.2.2.2.2.2.2.1, g.2.2.2.2.2.2.2.1, g.2.2.2.2.2.2.2.2.set (c * 6 + s) v)
theorem gNeed_wf {g : PD} {c s : Nat} {v : Int32} (hg : wfP g) (hc : c < pNc g) (hs : s < pNs g) (hv : rng 0 20 v) : wfP (gNeed g c s v) ∧ ∀ q t, q < 4 → t < 6 → pNeed (gNeed g c s v) q t = if c = q ∧ s = t then v else pNeed g q t := by
  obtain ⟨⟨h1, h2, h3⟩, ⟨l1, l2, l3, l4, l5, l6⟩, h5, h6, h7, h8, h9, h10, h11, h12, h13⟩ := hg
  have n0 := h3.2
  have n1 := h2.2
  have eT : ∀ q t, q < 4 → t < 6 → pNeed (gNeed g c s v) q t = if c = q ∧ s = t then v else pNeed g q t := by
    intro q t hq ht
    show (g.2.2.2.2.2.2.2.2.set (c * 6 + s) v).getD (q * 6 + t) 0 = _
    rw [gD_set, l6]
    by_cases he : c = q ∧ s = t
    · rw [if_pos he, if_pos (by omega)]
    · rw [if_neg he, if_neg (by omega)]; rfl
  refine ⟨⟨⟨h1, h2, h3⟩, ⟨l1, l2, l3, l4, l5, by show (g.2.2.2.2.2.2.2.2.set (c * 6 + s) v).length = 24; rw [List.length_set]; exact l6⟩, h5, h6, h7, h8, h9, h10, h11, fun q t hq ht => ?_, fun q t hq ht ho => ?_⟩, eT⟩
  · rw [eT q t hq ht]
    by_cases he : c = q ∧ s = t
    · rw [if_pos he]; exact hv
    · rw [if_neg he]; exact h12 q t hq ht
  · rw [eT q t hq ht, if_neg (by
      rintro ⟨rfl, rfl⟩
      have ho' : pNc g ≤ c ∨ pNs g ≤ s := ho
      omega)]
    exact h13 q t hq ht ho
