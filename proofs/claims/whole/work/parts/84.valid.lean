/-! bounds and cuts stay as they should -/
theorem rch_fold {g : PD} {c : Nat} {plan : Int32} : ∀ (cs : List (List Int32)) (m0 : Int32), m0.toInt ≤ (cs.foldl (rchF g c plan) m0).toInt ∧ (cs.foldl (rchF g c plan) m0 = m0 ∨ ∃ cut ∈ cs, cK cut 0 = nI c ∧ ¬ cK cut 1 = 1 ∧ cs.foldl (rchF g c plan) m0 = valP g cut plan) := by
  intro cs
  induction cs with
  | nil => intro m0; exact ⟨Int.le_refl _, Or.inl rfl⟩
  | cons x xs ih =>
    intro m0
    rw [List.foldl_cons]
    have h := ih (rchF g c plan m0 x)
    by_cases hx : cK x 0 = nI c ∧ ¬ cK x 1 = 1 ∧ ¬ valP g x plan ≤ m0
    · have e : rchF g c plan m0 x = valP g x plan := by unfold rchF; rw [if_pos hx]
      rw [e] at h ⊢
      have hx3 := hx.2.2
      rw [ti_le] at hx3
      refine ⟨by omega, Or.inr ?_⟩
      rcases h.2 with h2 | ⟨cut, h2, h3⟩
      · exact ⟨x, List.mem_cons_self, hx.1, hx.2.1, h2⟩
      · exact ⟨cut, List.mem_cons_of_mem _ h2, h3⟩
    · have e : rchF g c plan m0 x = m0 := by unfold rchF; rw [if_neg hx]
      rw [e] at h ⊢
      refine ⟨h.1, ?_⟩
      rcases h.2 with h2 | ⟨cut, h2, h3⟩
      · exact Or.inl h2
      · exact Or.inr ⟨cut, List.mem_cons_of_mem _ h2, h3⟩
def csOk (g : PD) (cs : List (List Int32)) : Prop := ∀ c ∈ cs, cutV g c
theorem rch_rng {g : PD} (hg : wfP g) {cs : List (List Int32)} (hc : csOk g cs) {c : Nat} (hcn : c < 4) (plan : Int32) : 0 ≤ (rchP g cs c plan).toInt ∧ (rchP g cs c plan).toInt ≤ 47520 := by
  have h := rch_fold (g := g) (c := c) (plan := plan) cs 0
  refine ⟨h.1, ?_⟩
  unfold rchP
  rcases h.2 with h2 | ⟨cut, h2, h3, h4, h5⟩
  · rw [h2, ti_0]; omega
  · rw [h5]
    exact (val_Z hg (hc cut h2) hcn h3 plan).2.2
theorem rch_price {g : PD} (hg : wfP g) {cs : List (List Int32)} (hc : csOk g cs) {c : Nat} (hcn : c < 4) {plan x : Int32} (hl : lackP g c plan ≤ 0) (hx : priceR g c plan x) : (rchP g cs c plan).toInt ≤ x.toInt := by
  have h := rch_fold (g := g) (c := c) (plan := plan) cs 0
  unfold rchP
  rcases h.2 with h2 | ⟨cut, h2, h3, h4, h5⟩
  · rw [h2, ti_0]; exact (priceR_rng hx hl).1
  · rw [h5]
    exact wd_point hg (hc cut h2) hcn h3 h4 hl hx
theorem bar_no {g : PD} (hg : wfP g) {cs : List (List Int32)} (hc : csOk g cs) {n : Nat} (hn : n < 256) (hl : ∀ c, c < pNc g → lackP g c (nI n) ≤ 0) : barP g cs (nI n) = false := by
  unfold barP
  rw [List.any_eq_false]
  intro cut hcut h
  have hv := hc cut hcut
  obtain ⟨k, hk, hk0⟩ := hv.1
  have hnc := hg.1.2.2.2
  rw [Bool.and_eq_true, decide_eq_true_iff, Bool.not_eq_true', decide_eq_false_iff_not, ti_le, ti_0] at h
  have := wd_ray hg hv (by omega) hk0 h.1 (hl k hk) (priceR_ex hg (by omega) hn)
  exact h.2 this
theorem fees_rng {g : PD} (hg : wfP g) (plan : Int32) : 0 ≤ (feesP g plan).toInt ∧ (feesP g plan).toInt ≤ 11988 := by
  have hnp := hg.1.1.2
  have s1 := sumN_ti (f := fun p => unitsI plan p * pFee g p) (B := 2997) (pNp g) (fun p hp' => by
    have r4 := (hg.2.2.1 p (by omega)).1
    have r6 := units_rng plan p
    have r7 := mul_rng r6.1 r6.2 r4.1 r4.2
    show 0 ≤ (unitsI plan p * pFee g p).toInt ∧ (unitsI plan p * pFee g p).toInt ≤ 2997
    rw [ti_mul (by omega) (by omega)]
    omega) (by omega) (by omega)
  unfold feesP
  omega
theorem flr_rng {g : PD} (hg : wfP g) {cs : List (List Int32)} (hc : csOk g cs) (plan : Int32) : ∀ k, k ≤ pNc g → 0 ≤ (flrN g cs plan k).toInt ∧ (flrN g cs plan k).toInt ≤ 11988 + 427680 * k := by
  have hnc := hg.1.2.2.2
  intro k
  induction k with
  | zero => intro _; have := fees_rng hg plan; exact ⟨this.1, by show (feesP g plan).toInt ≤ _; omega⟩
  | succ k ih =>
    intro hk
    have h1 := ih (by omega)
    have h2 := rch_rng hg hc (show k < 4 by omega) plan
    have h3 := wt_rng hg (show k < pNc g by omega)
    have h4 := mul_rng (show 0 ≤ (pWt g k).toInt by omega) h3.2 h2.1 h2.2
    have e : (pWt g k * rchP g cs k plan).toInt = (pWt g k).toInt * (rchP g cs k plan).toInt := ti_mul (by omega) (by omega)
    show 0 ≤ (flrN g cs plan k + pWt g k * rchP g cs k plan).toInt ∧ (flrN g cs plan k + pWt g k * rchP g cs k plan).toInt ≤ _
    rw [ti_add (by rw [e]; omega) (by rw [e]; omega), e]
    omega
theorem tot_rng {g : PD} (hg : wfP g) {n : Nat} (hn : n < 256) : ∀ k, k ≤ pNc g → (∀ c, c < k → lackP g c (nI n) ≤ 0) → 0 ≤ (totN g (nI n) k).toInt ∧ (totN g (nI n) k).toInt ≤ 11988 + 427680 * k ∧ ∀ cs, csOk g cs → (flrN g cs (nI n) k).toInt ≤ (totN g (nI n) k).toInt := by
  have hnc := hg.1.2.2.2
  intro k
  induction k with
  | zero => intro _ _; have := fees_rng hg (nI n); exact ⟨this.1, by show (feesP g (nI n)).toInt ≤ _; omega, fun cs _ => Int.le_refl _⟩
  | succ k ih =>
    intro hk hl
    have h1 := ih (by omega) (fun c hc => hl c (by omega))
    have hp' := priceR_ex hg (show k < 4 by omega) hn
    have h2 := priceR_rng hp' (hl k (by omega))
    have h3 := wt_rng hg (show k < pNc g by omega)
    have h4 := mul_rng (show 0 ≤ (pWt g k).toInt by omega) h3.2 h2.1 h2.2
    have e : (pWt g k * priceP g k (nI n)).toInt = (pWt g k).toInt * (priceP g k (nI n)).toInt := ti_mul (by omega) (by omega)
    have e2 : (totN g (nI n) (k + 1)).toInt = (totN g (nI n) k).toInt + (pWt g k).toInt * (priceP g k (nI n)).toInt := by
      show (totN g (nI n) k + pWt g k * priceP g k (nI n)).toInt = _
      rw [ti_add (by rw [e]; omega) (by rw [e]; omega), e]
    rw [e2]
    refine ⟨by omega, by omega, fun cs hc => ?_⟩
    have h5 := rch_rng hg hc (show k < 4 by omega) (nI n)
    have h6 := mul_rng (show 0 ≤ (pWt g k).toInt by omega) h3.2 h5.1 h5.2
    have h7 := flr_rng hg hc (nI n) k (by omega)
    have e3 : (pWt g k * rchP g cs k (nI n)).toInt = (pWt g k).toInt * (rchP g cs k (nI n)).toInt := ti_mul (by omega) (by omega)
    have h8 := h1.2.2 cs hc
    have h9 := rch_price hg hc (show k < 4 by omega) (hl k (by omega)) hp'
    have h10 : (pWt g k).toInt * (rchP g cs k (nI n)).toInt ≤ (pWt g k).toInt * (priceP g k (nI n)).toInt := Int.mul_le_mul_of_nonneg_left h9 (by omega)
    show (flrN g cs (nI n) k + pWt g k * rchP g cs k (nI n)).toInt ≤ _
    rw [ti_add (by rw [e3]; omega) (by rw [e3]; omega), e3]
    omega
theorem total_cases {g : PD} (hg : wfP g) {n : Nat} (hn : n < 256) : (totalP g (nI n) = -1 ∧ ¬ ∀ c, c < pNc g → lackP g c (nI n) ≤ 0) ∨ ((∀ c, c < pNc g → lackP g c (nI n) ≤ 0) ∧ totalP g (nI n) = totN g (nI n) (pNc g) ∧ 0 ≤ (totalP g (nI n)).toInt ∧ (totalP g (nI n)).toInt ≤ 1722708) := by
  have hnc := hg.1.2.2.2
  unfold totalP
  by_cases h : (List.range (pNc g)).all (fun c => decide (lackP g c (nI n) ≤ 0)) = true
  · rw [if_pos h]
    rw [List.all_eq_true] at h
    have hl : ∀ c, c < pNc g → lackP g c (nI n) ≤ 0 := fun c hc => by simpa using h c (List.mem_range.mpr hc)
    have h1 := tot_rng hg hn (pNc g) (Nat.le_refl _) hl
    exact Or.inr ⟨hl, rfl, h1.1, by omega⟩
  · rw [if_neg h]
    refine Or.inl ⟨rfl, fun hl => h ?_⟩
    rw [List.all_eq_true]
    intro c hc
    simpa using hl c (List.mem_range.mp hc)
theorem floor_cases {g : PD} (hg : wfP g) {cs : List (List Int32)} (hc : csOk g cs) (plan : Int32) : floorP g cs plan = -1 ∨ (0 ≤ (floorP g cs plan).toInt ∧ (floorP g cs plan).toInt ≤ 1722708) := by
  have hnc := hg.1.2.2.2
  unfold floorP
  split
  · exact Or.inl rfl
  · have := flr_rng hg hc plan (pNc g) (Nat.le_refl _)
    exact Or.inr ⟨this.1, by omega⟩
theorem floor_le {g : PD} (hg : wfP g) {cs : List (List Int32)} (hc : csOk g cs) {n : Nat} (hn : n < 256) (ht : totalP g (nI n) ≠ -1) : floorP g cs (nI n) ≠ -1 ∧ (floorP g cs (nI n)).toInt ≤ (totalP g (nI n)).toInt := by
  rcases total_cases hg hn with ⟨h, _⟩ | ⟨hl, he, _⟩
  · exact absurd h ht
  · have hb := bar_no hg hc hn hl
    have ef : floorP g cs (nI n) = flrN g cs (nI n) (pNc g) := by unfold floorP; rw [hb, if_neg (by decide)]
    have h1 := flr_rng hg hc (nI n) (pNc g) (Nat.le_refl _)
    rw [ef, he]
    refine ⟨fun h => ?_, (tot_rng hg hn (pNc g) (Nat.le_refl _) hl).2.2 cs hc⟩
    rw [h, ti_m1] at h1
    omega
theorem rgOk_of {g : PD} (hg : wfP g) {cs : List (List Int32)} (hc : csOk g cs) : rgOk g cs := by
  have hnc := hg.1.2.2.2
  intro n hn
  refine ⟨fun c hcn => ?_, ?_, ?_⟩
  · have := rch_rng hg hc (show c < 4 by omega) (nI n)
    omega
  · rcases floor_cases hg hc (nI n) with h | h
    · exact Or.inl h
    · exact Or.inr h.1
  · rcases total_cases hg hn with ⟨h, _⟩ | ⟨_, _, h⟩
    · rw [h, ti_m1]; omega
    · omega
theorem holds_of {g : PD} (hg : wfP g) {c : List Int32} (h4 : ∀ p, p < 4 → 0 ≤ (cK c (3 + p)).toInt ∧ (cK c (3 + p)).toInt ≤ 297) (h : ∀ p s, p < 4 → s < 6 → zT g p s ≠ -1 → (cK c (7 + s)).toInt ≤ (cK c (3 + p)).toInt + (if cK c 1 = 1 then 0 else zT g p s)) : holdsP g c = true := by
  have hnp := hg.1.1.2
  have hns := hg.1.2.1.2
  unfold holdsP
  rw [List.all_eq_true]
  intro p hp'
  have hp2 := List.mem_range.mp hp'
  rw [List.all_eq_true]
  intro s hs
  have hs2 := List.mem_range.mp hs
  unfold badP
  by_cases hT : pToll g p s = -1
  · simp [hT]
  · have h1 := h p s (by omega) (by omega) (fun h' => hT (toll_m1.mpr h'))
    have h2 : cK c (7 + s) ≤ cK c (3 + p) + (if cK c 1 = 1 then 0 else pToll g p s) := by
      have r1 := h4 p (by omega)
      have r2 := zT_rng hg (show p < 4 by omega) (show s < 6 by omega)
      rw [ti_le]
      by_cases hr : cK c 1 = 1
      · rw [if_pos hr] at h1 ⊢
        rw [ti_add (by rw [ti_0]; omega) (by rw [ti_0]; omega), ti_0]
        exact h1
      · rw [if_neg hr] at h1 ⊢
        unfold zT at r2 h1
        rw [ti_add (by omega) (by omega)]
        exact h1
    have hd : decide (¬ cK c (7 + s) ≤ cK c (3 + p) + (if cK c 1 = 1 then 0 else pToll g p s)) = false := decide_eq_false (fun h' => h' h2)
    rw [hd, Bool.and_false]
    rfl
theorem and_bits : ∀ m : Fin 16, ∀ p : Fin 4, decide (nI m.1 &&& nI (2 ^ p.1) = 0) = !m.1.testBit p.1 := by decide +kernel
theorem bitS_iff {g : PD} (hg : wfP g) {s p : Nat} (hs : s < 6) (hp' : p < 4) : bitS g s p = true ↔ zT g p s ≠ -1 := by
  unfold bitS
  rw [mask_nI hg hs, bit_nI hp', and_bits ⟨mN g s, mN_lt g s⟩ ⟨p, hp'⟩]
  show (!(!(mN g s).testBit p)) = true ↔ _
  rw [mN_bit hp']
  by_cases h : zT g p s = -1 <;> simp [h]
theorem cutUV_k {g : PD} {c : Nat} {plan : Int32} {U V : Nat → Int32} : cK (cutUV g c plan U V) 0 = nI c ∧ cK (cutUV g c plan U V) 1 = b2i (!decide (lackP g c plan ≤ 0)) ∧ cK (cutUV g c plan U V) 2 = 0 ∧ (∀ p, p < 4 → cK (cutUV g c plan U V) (3 + p) = U p) ∧ ∀ s, s < 6 → cK (cutUV g c plan U V) (7 + s) = V s := by
  have e : ∀ k, k < 13 → cK (cutUV g c plan U V) k = if k = 0 then nI c else if k = 1 then b2i (!decide (lackP g c plan ≤ 0)) else if k = 2 then 0 else if k < 7 then U (k - 3) else V (k - 7) := fun k hk => map_range_getD hk
  refine ⟨e 0 (by omega), e 1 (by omega), e 2 (by omega), fun p hp' => ?_, fun s hs => ?_⟩
  · rw [e _ (by omega), if_neg (by omega), if_neg (by omega), if_neg (by omega), if_pos (by omega)]
    congr 1; omega
  · rw [e _ (by omega), if_neg (by omega), if_neg (by omega), if_neg (by omega), if_neg (by omega)]
    congr 1; omega
theorem b2i_rng (b : Bool) : 0 ≤ (b2i b).toInt ∧ (b2i b).toInt ≤ 1 := by cases b <;> decide
theorem rate_ok {g : PD} (hg : wfP g) {c : Nat} (hc : c < pNc g) (plan : Int32) : cutV g (rateC g c plan) := by
  have hnc := hg.1.2.2.2
  have hnp := hg.1.1.2
  obtain ⟨U, V, hr⟩ := rateR_ex hg (plan := plan) (show c < 4 by omega)
  rw [rateC_eq hr]
  obtain ⟨k0, k1, k2, k3, k7⟩ := cutUV_k (g := g) (c := c) (plan := plan) (U := U) (V := V)
  rcases hr with ⟨h1, h2, h3⟩ | ⟨h1, u, h2, h3, h4⟩
  · have kr : cK (cutUV g c plan U V) 1 = 1 := by rw [k1, decide_eq_false h1]; rfl
    have u4 : ∀ p, p < 4 → 0 ≤ (cK (cutUV g c plan U V) (3 + p)).toInt ∧ (cK (cutUV g c plan U V) (3 + p)).toInt ≤ 297 := fun p hp' => by
      rw [k3 p hp', h2 p hp']
      have := b2i_rng (rayU g c plan (lackP g c plan) (pNs g) p)
      omega
    refine ⟨⟨c, hc, k0⟩, Or.inr kr, by rw [k2, ti_0]; omega, u4, fun s hs => ?_, holds_of hg u4 (fun p s hp' hs hT => ?_)⟩
    · rw [k7 s hs, h3 s hs]
      have := b2i_rng (decide (s < pNs g) && rayS g c plan (lackP g c plan) s)
      omega
    · rw [kr, if_pos rfl, k7 s hs, h3 s hs, k3 p hp', h2 p hp']
      by_cases hS : (decide (s < pNs g) && rayS g c plan (lackP g c plan) s) = true
      · have hpn : p < pNp g := by
          apply Nat.lt_of_not_le
          intro h
          exact hT (zT_out hg hp' hs (Or.inl h))
        rw [Bool.and_eq_true, decide_eq_true_iff] at hS
        have hU : rayU g c plan (lackP g c plan) (pNs g) p = true := by
          unfold rayU
          rw [decide_eq_true hpn, Bool.true_and, List.any_eq_true]
          exact ⟨s, List.mem_range.mpr hS.1, by rw [hS.2, (bitS_iff hg hs hp').mpr hT]; rfl⟩
        rw [hU]
        have := b2i_rng (decide (s < pNs g) && rayS g c plan (lackP g c plan) s)
        have e1 : (b2i true).toInt = 1 := rfl
        omega
      · have hS' : (decide (s < pNs g) && rayS g c plan (lackP g c plan) s) = false := by simpa using hS
        rw [hS']
        have := b2i_rng (rayU g c plan (lackP g c plan) (pNs g) p)
        have e1 : (b2i false).toInt = 0 := rfl
        omega
  · have kr : cK (cutUV g c plan U V) 1 = 0 := by rw [k1, decide_eq_true h1]; rfl
    have u4 : ∀ p, p < 4 → 0 ≤ (cK (cutUV g c plan U V) (3 + p)).toInt ∧ (cK (cutUV g c plan U V) (3 + p)).toInt ≤ 297 := fun p hp' => by
      rw [k3 p hp', (h3 p hp').1]
      exact ⟨h2.1 p hp', (h3 p hp').2⟩
    refine ⟨⟨c, hc, k0⟩, Or.inl kr, by rw [k2, ti_0]; omega, u4, fun s hs => ?_, holds_of hg u4 (fun p s hp' hs hT => ?_)⟩
    · rw [k7 s hs, h4 s hs]
      rcases vZ_spec g u s with ⟨_, k⟩ | ⟨⟨p, hp', hT, e⟩, _⟩
      · rw [k]; omega
      · rw [e]
        have := (h3 p hp').2
        have := h2.1 p hp'
        have := zT_rng hg hp' hs
        omega
    · rw [kr, if_neg (by decide), k7 s hs, h4 s hs, k3 p hp', (h3 p hp').1]
      exact vZ_le hp' hT
