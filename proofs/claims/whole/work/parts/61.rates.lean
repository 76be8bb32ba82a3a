/-! what a case costs by a plan, and its rates -/
theorem LM_uni {g : PD} {K N u w : Nat → Int} (hu : LM g K N u) (hw : LM g K N w) : DZ g K N u = DZ g K N w ∧ ∀ p, p < 4 → u p = w p := by
  have a := hu.2 w hw.1
  have b := hw.2 u hu.1
  have e : DZ g K N u = DZ g K N w := by omega
  refine ⟨e, fun p hp' => ?_⟩
  have c := a.2 e.symm p hp'
  have d := b.2 e p hp'
  omega
def priceR (g : PD) (c : Nat) (plan x : Int32) : Prop := (¬ lackP g c plan ≤ 0 ∧ x = -1) ∨ (lackP g c plan ≤ 0 ∧ ∃ u : Nat → Int, LM g (zK g plan) (zN g c) u ∧ x.toInt = DZ g (zK g plan) (zN g c) u ∧ (∀ p, p < 4 → u p ≤ 297) ∧ 0 ≤ x.toInt ∧ x.toInt ≤ 47520)
theorem priceR_uni {g : PD} {c : Nat} {plan x y : Int32} (hx : priceR g c plan x) (hy : priceR g c plan y) : x = y := by
  rcases hx with ⟨h1, h2⟩ | ⟨h1, u, h2, h3, _⟩
  · rcases hy with ⟨k1, k2⟩ | ⟨k1, _⟩
    · rw [h2, k2]
    · exact absurd k1 h1
  · rcases hy with ⟨k1, k2⟩ | ⟨k1, v, k2, k3, _⟩
    · exact absurd h1 k1
    · rw [ti_eq, h3, k3, (LM_uni h2 k2).1]
theorem row_fl_cost {w W : Wd} {c : Nat} {plan : Int32} (hg : wfP (pdW w 2)) (hc : c < 4) (hs : served w W c plan) : 0 ≤ costZ (pdW w 2) (fl W) ∧ costZ (pdW w 2) (fl W) ≤ 47520 := by
  obtain ⟨h1, h2, h3, h4, h5, π, h6, h7⟩ := hs
  have t : ∀ x s, x < 4 → s < 6 → 0 ≤ fl W x s * zT (pdW w 2) x s ∧ fl W x s * zT (pdW w 2) x s ≤ 1980 := by
    intro x s hx hs
    have a := h3 x s hx hs
    have b : fl W x s ≤ 20 := fl_le hx (fun y hy => h3 y s hy hs) (by rw [h4 s hs]; exact (zN_rng hg hc hs).2)
    have tr := zT_rng hg hx hs
    by_cases hp0 : 0 < fl W x s
    · have := (h7 x s hx hs hp0).1
      have := mul_rng a b (show 0 ≤ zT (pdW w 2) x s by omega) tr.2
      omega
    · have : fl W x s = 0 := by omega
      rw [this]; omega
  have r : ∀ x, x < 4 → 0 ≤ rowZ (fun p s => fl W p s * zT (pdW w 2) p s) x ∧ rowZ (fun p s => fl W p s * zT (pdW w 2) p s) x ≤ 11880 := by
    intro x hx
    have t0 := t x 0 hx (by omega)
    have t1 := t x 1 hx (by omega)
    have t2 := t x 2 hx (by omega)
    have t3 := t x 3 hx (by omega)
    have t4 := t x 4 hx (by omega)
    have t5 := t x 5 hx (by omega)
    unfold rowZ
    dsimp only
    omega
  have r0 := r 0 (by omega)
  have r1 := r 1 (by omega)
  have r2 := r 2 (by omega)
  have r3 := r 3 (by omega)
  unfold costZ colZ
  dsimp only
  omega
/-- from what is brought to the least prices -/
theorem served_LM {w W U : Wd} {c : Nat} {plan : Int32} (hs : served w W c plan) (hu : ∀ p, p < 4 → 0 ≤ zA U 30 p) (ht : ∀ x s, x < 4 → s < 6 → 0 < fl W x s → tight (pdW w 2) (zA U 30) x s) (hm : ∀ π' : Nat → Int, (∀ p, p < 4 → 0 ≤ π' p) → (∀ x s, x < 4 → s < 6 → 0 < fl W x s → tight (pdW w 2) π' x s) → ∀ p, p < 4 → zA U 30 p ≤ π' p) : costZ (pdW w 2) (fl W) = DZ (pdW w 2) (zK (pdW w 2) plan) (zN (pdW w 2) c) (zA U 30) ∧ LM (pdW w 2) (zK (pdW w 2) plan) (zN (pdW w 2) c) (zA U 30) := by
  obtain ⟨h1, h2, h3, h4, h5, π, h6, h7⟩ := hs
  refine dual_LM (lf := zA W 24) h3 h4 h5 (fun p hp' => ⟨hu p hp', fun h => ?_⟩) ht hm
  have a := hm π (fun p hp' => (h6 p hp').1) h7 p hp'
  have b := (h6 p hp').2 h
  have c := hu p hp'
  omega
def rateR (g : PD) (c : Nat) (plan : Int32) (U V : Nat → Int32) : Prop := (¬ lackP g c plan ≤ 0 ∧ (∀ p, p < 4 → U p = b2i (rayU g c plan (lackP g c plan) (pNs g) p)) ∧ (∀ s, s < 6 → V s = b2i (decide (s < pNs g) && rayS g c plan (lackP g c plan) s))) ∨ (lackP g c plan ≤ 0 ∧ ∃ u : Nat → Int, LM g (zK g plan) (zN g c) u ∧ (∀ p, p < 4 → (U p).toInt = u p ∧ u p ≤ 297) ∧ (∀ s, s < 6 → (V s).toInt = vZ g u s))
theorem Frt_findRates_w {w : Wd} {c : Nat} {plan : Int32} (hw : WL w) (hg : wfP (pdW w 2)) (hc : c < 4) (hk : ldOk w (pdW w 2)) : ∃ w', Frt_findRates 19 2 (nI c) plan (hp w) = some (b2i (!decide (lackP (pdW w 2) c plan ≤ 0)), hp w') ∧ WL w' ∧ Fr w w' 20 32 ∧ ldOk w' (pdW w 2) ∧ rateR (pdW w 2) c plan (fun p => (w'.1 30).getD p 0) (fun s => (w'.1 31).getD s 0) := by
  obtain ⟨V, a1, a2, a3, a4, a5, a6, a7⟩ := Frt_lackAt_w (plan := plan) hw hg hc hk
  have L30 := l30 a2
  have L31 := l31 a2
  have hW0 : WL (wA (wA V 30 (List.replicate (V.1 30).length 0)) 31 (List.replicate ((wA V 30 (List.replicate (V.1 30).length 0)).1 31).length 0)) := by
    refine WL.A (WL.A a2 ?_) ?_
    · rw [List.length_replicate]; exact a2 30
    · rw [List.length_replicate, wA_n (by omega)]; exact a2 31
  have hF0 : Fr V (wA (wA V 30 (List.replicate (V.1 30).length 0)) 31 (List.replicate ((wA V 30 (List.replicate (V.1 30).length 0)).1 31).length 0)) 30 32 := by
    repeat (first | exact Fr.rfl' | refine Fr.cA ?_ ?_ ?_ | refine Fr.cF ?_ ?_ ?_)
    all_goals omega
  have h30 : ∀ p, p < 4 → ((wA (wA V 30 (List.replicate (V.1 30).length 0)) 31 (List.replicate ((wA V 30 (List.replicate (V.1 30).length 0)).1 31).length 0)).1 30).getD p 0 = 0 := by
    intro p hp'
    rw [wA_n (by omega), wA_s, List.getD_eq_getElem?_getD, List.getElem?_replicate, if_pos (by omega)]
    rfl
  have h31 : ∀ s, s < 6 → ((wA (wA V 30 (List.replicate (V.1 30).length 0)) 31 (List.replicate ((wA V 30 (List.replicate (V.1 30).length 0)).1 31).length 0)).1 31).getD s 0 = 0 := by
    intro s hs
    rw [wA_s, wA_n (by omega), List.getD_eq_getElem?_getD, List.getElem?_replicate, if_pos (by omega)]
    rfl
  unfold Frt_findRates
  simp only [k19, Option.bind_some, a1, bnd2_some, c19_10]
  rw [fill_w s30 (by omega)]
  simp only [bnd2_some, c19_11, Option.bind_some]
  rw [fill_w s31 (by rw [wA_n (by omega)]; omega)]
  simp only [bnd2_some]
  generalize wA (wA V 30 (List.replicate (V.1 30).length 0)) 31 (List.replicate ((wA V 30 (List.replicate (V.1 30).length 0)).1 31).length 0) = U at *
  have eg : pdW U 2 = pdW w 2 := by rw [pd_fr hF0 (by omega), pd_fr a7 (by omega)]
  have hgU : wfP (pdW U 2) := by rw [eg]; exact hg
  have hk' : ∀ W : Wd, W.1 22 = V.1 22 → W.1 23 = V.1 23 → ldOk W (pdW w 2) := by
    intro W e1 e2 c' hc'
    rw [e1, e2]; exact a5 c' hc'
  by_cases hl : lackP (pdW w 2) c plan ≤ 0
  · rw [if_pos hl]
    obtain ⟨W, cost, b1, b2, b3, b4, b5⟩ := Frt_costAt_w (plan := plan) hW0 hgU hc (by rw [eg]; exact hall_of hg hc hl)
    have egW : pdW W 2 = pdW w 2 := by rw [pd_fr b2.2.1 (by omega), eg]
    obtain ⟨π, c6, c7⟩ := b2.2.2.2.2.2
    have e30 : ∀ p, p < 4 → zA W 30 p = 0 := fun p hp' => by rw [zA_fr b2.2.1 (by omega)]; unfold zA; rw [h30 p hp']; rfl
    have e31 : ∀ s, s < 6 → zA W 31 s = 0 := fun s hs => by rw [zA_fr b2.2.1 (by omega)]; unfold zA; rw [h31 s hs]; rfl
    obtain ⟨X, d1, d2, d3, d4, d5, d6, d7⟩ := Frt_findPoint_w (w := W) (π := π) b2.1 (by rw [egW]; exact hg) (by rw [egW, ← eg]; exact c7) e30 e31
    have lm := served_LM (U := X) b2 (fun p hp' => (d4 p hp').1) (by rw [eg, ← egW]; exact d5) (by rw [eg, ← egW]; exact d6)
    rw [eg] at lm
    refine ⟨X, ?_, d2, ?_, ?_, ?_⟩
    · simp only [k19, Option.bind_some, b1, bnd2_some, d1, bz0]
      simp [hl, b2i]
    · exact (((a7.mono (by omega) (by omega)).tr (hF0.mono (by omega) (by omega))).tr (b2.2.1.mono (by omega) (by omega))).tr (d3.mono (by omega) (by omega))
    · exact hk' X (by rw [(d3 22 (by omega)).1, b4, (hF0 22 (by omega)).1]) (by rw [(d3 23 (by omega)).1, b5, (hF0 23 (by omega)).1])
    · right
      refine ⟨hl, zA X 30, lm.2, fun p hp' => ⟨rfl, (d4 p hp').2⟩, fun s hs => ?_⟩
      rw [← egW]; exact d7 s hs
  · rw [if_neg hl]
    obtain ⟨X, d1, d2, d3, d4, d5⟩ := Frt_findRay_w (plan := plan) (worst := lackP (pdW w 2) c plan) hW0 hgU hc (by intro set hset; rw [(hF0 22 (by omega)).1, eg]; exact a6 set hset) (by intro set hset; rw [(hF0 21 (by omega)).1, eg]; exact a4 set hset) h30 h31
    rw [eg] at d4 d5
    refine ⟨X, ?_, d2, ?_, ?_, ?_⟩
    · simp only [k19, Option.bind_some, d1, bnd2_some, bz1]
      simp [hl, b2i]
    · exact ((a7.mono (by omega) (by omega)).tr (hF0.mono (by omega) (by omega))).tr (d3.mono (by omega) (by omega))
    · exact hk' X (by rw [(d3 22 (by omega)).1, (hF0 22 (by omega)).1]) (by rw [(d3 23 (by omega)).1, (hF0 23 (by omega)).1])
    · exact Or.inl ⟨hl, d4, d5⟩
theorem served_ex {w W : Wd} {c : Nat} {plan : Int32} (hg : wfP (pdW w 2)) (hs : served w W c plan) : ∃ u : Nat → Int, LM (pdW w 2) (zK (pdW w 2) plan) (zN (pdW w 2) c) u ∧ (∀ p, p < 4 → u p ≤ 297) ∧ costZ (pdW w 2) (fl W) = DZ (pdW w 2) (zK (pdW w 2) plan) (zN (pdW w 2) c) u := by
  have hs' := hs
  obtain ⟨h1, h2, h3, h4, h5, π, h6, h7⟩ := hs
  have hW0 : WL (wA (wA W 30 (List.replicate 4 0)) 31 (List.replicate 6 0)) := by
    refine WL.A (WL.A h1 ?_) ?_
    · rw [List.length_replicate, ← h1 30, l30 h1]
    · rw [List.length_replicate, ← h1 31, l31 h1]
  have hF0 : Fr W (wA (wA W 30 (List.replicate 4 0)) 31 (List.replicate 6 0)) 30 32 := by
    repeat (first | exact Fr.rfl' | refine Fr.cA ?_ ?_ ?_ | refine Fr.cF ?_ ?_ ?_)
    all_goals omega
  have h30 : ∀ p, p < 4 → zA (wA (wA W 30 (List.replicate 4 0)) 31 (List.replicate 6 0)) 30 p = 0 := by
    intro p hp'
    unfold zA
    rw [wA_n (by omega), wA_s, List.getD_eq_getElem?_getD, List.getElem?_replicate, if_pos (by omega)]
    rfl
  have h31 : ∀ s, s < 6 → zA (wA (wA W 30 (List.replicate 4 0)) 31 (List.replicate 6 0)) 31 s = 0 := by
    intro s hs
    unfold zA
    rw [wA_s, List.getD_eq_getElem?_getD, List.getElem?_replicate, if_pos (by omega)]
    rfl
  generalize wA (wA W 30 (List.replicate 4 0)) 31 (List.replicate 6 0) = V at *
  have eg : pdW V 2 = pdW w 2 := by rw [pd_fr hF0 (by omega), pd_fr h2 (by omega)]
  have ef : fl V = fl W := fl_fr hF0 (by omega)
  obtain ⟨X, d1, d2, d3, d4, d5, d6, d7⟩ := Frt_findPoint_w (w := V) (π := π) hW0 (by rw [eg]; exact hg) (by rw [eg, ef]; exact h7) h30 h31
  rw [eg, ef] at d5 d6
  have lm := served_LM (U := X) hs' (fun p hp' => (d4 p hp').1) d5 d6
  exact ⟨zA X 30, lm.2, fun p hp' => (d4 p hp').2, lm.1⟩
