/-! need: the other cases stay -/
theorem DZ_cg {g : PD} {K N N' u : Nat → Int} (h : ∀ s, s < 6 → N s = N' s) : DZ g K N u = DZ g K N' u := by
  unfold DZ rowZ
  simp only
  rw [h 0 (by omega), h 1 (by omega), h 2 (by omega), h 3 (by omega), h 4 (by omega), h 5 (by omega)]
theorem need_load {g : PD} {c s c' : Nat} {v : Int32} (hg : wfP g) (hc : c < pNc g) (hs : s < pNs g) (hv : rng 0 20 v) (hc' : c' < 4) (hne : c' ≠ c) (set : Nat) : loadP (gNeed g c s v) c' set = loadP g c' set := by
  have n1 := hg.1.2.1.2
  have e := (gNeed_wf hg hc hs hv).2
  show sumN (fun t => if maskP g t &&& (nI set ^^^ (-1)) = 0 then pNeed (gNeed g c s v) c' t else 0) (pNs g) = sumN (fun t => if maskP g t &&& (nI set ^^^ (-1)) = 0 then pNeed g c' t else 0) (pNs g)
  refine sumN_cg _ (fun t ht => ?_)
  have e2 : pNeed (gNeed g c s v) c' t = pNeed g c' t := by rw [e c' t hc' (by omega), if_neg (fun hh => hne hh.1.symm)]
  rw [e2]
theorem need_lack {g : PD} {c s c' : Nat} {v plan : Int32} (hg : wfP g) (hc : c < pNc g) (hs : s < pNs g) (hv : rng 0 20 v) (hc' : c' < 4) (hne : c' ≠ c) : lackP (gNeed g c s v) c' plan = lackP g c' plan := by
  show maxN (fun set => loadP (gNeed g c s v) c' set - poolP g plan set) 16 = maxN (fun set => loadP g c' set - poolP g plan set) 16
  congr 1
  funext set
  rw [need_load hg hc hs hv hc' hne]
theorem need_price {g : PD} {c s c' : Nat} {v plan x : Int32} (hg : wfP g) (hc : c < pNc g) (hs : s < pNs g) (hv : rng 0 20 v) (hc' : c' < 4) (hne : c' ≠ c) (h : priceR g c' plan x) : priceR (gNeed g c s v) c' plan x := by
  have e := (gNeed_wf hg hc hs hv).2
  have eN : ∀ t, t < 6 → zN (gNeed g c s v) c' t = zN g c' t := by
    intro t ht
    unfold zN
    rw [e c' t hc' ht, if_neg (fun hh => hne hh.1.symm)]
  have eD : ∀ u, DZ (gNeed g c s v) (zK (gNeed g c s v) plan) (zN (gNeed g c s v) c') u = DZ g (zK g plan) (zN g c') u := by
    intro u
    exact DZ_cg (g := g) (K := zK g plan) (u := u) eN
  unfold priceR at h ⊢
  rw [need_lack hg hc hs hv hc' hne]
  rcases h with h | ⟨h1, u, ⟨h2, h3⟩, h4⟩
  · exact .inl h
  · refine .inr ⟨h1, u, ⟨h2, fun w hw => ?_⟩, ?_⟩
    · rw [eD, eD]; exact h3 w hw
    · rw [eD]; exact h4
