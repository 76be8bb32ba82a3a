/-! prices exist; cuts that hold never tell too much -/
def wG (g : PD) : Wd := (fun i => if i = 3 then g.2.2.2.1 else if i = 4 then g.2.2.2.2.1 else if i = 5 then g.2.2.2.2.2.1 else if i = 6 then g.2.2.2.2.2.2.1 else if i = 7 then g.2.2.2.2.2.2.2.1 else if i = 8 then g.2.2.2.2.2.2.2.2 else if i = 32 then List.replicate 1024 (-2) else List.replicate (lenT.getD i 0) 0, fun _ k => if k = 0 then g.1 else if k = 1 then g.2.1 else g.2.2.1)
theorem wG_pd (g : PD) : pdW (wG g) 2 = g := rfl
theorem wG_WL {g : PD} (hg : wfP g) : WL (wG g) := by
  obtain ⟨h1, h2, h3, h4, h5, h6⟩ := hg.2.1
  intro i
  by_cases i3 : i = 3
  · subst i3; exact h1
  by_cases i4 : i = 4
  · subst i4; exact h2
  by_cases i5 : i = 5
  · subst i5; exact h3
  by_cases i6 : i = 6
  · subst i6; exact h4
  by_cases i7 : i = 7
  · subst i7; exact h5
  by_cases i8 : i = 8
  · subst i8; exact h6
  by_cases i32 : i = 32
  · subst i32; exact List.length_replicate
  · unfold wG
    simp only [i3, i4, i5, i6, i7, i8, i32, if_false, List.length_replicate]
theorem repl_get {n k : Nat} {x : Int32} (h : k < n) : (List.replicate n x).getD k 0 = x := by
  rw [List.getD_eq_getElem?_getD, List.getElem?_replicate, if_pos h]; rfl
theorem wG_bk (g : PD) : bkOk (wG g) g := by
  refine ⟨fun c hc => Or.inl ?_, fun c plan hc hp' => Or.inl ?_⟩
  · exact repl_get (n := 4) hc
  · exact repl_get (n := 1024) (by omega)
theorem priceR_ex {g : PD} (hg : wfP g) {c plan : Nat} (hc : c < 4) (hp' : plan < 256) : priceR g c (nI plan) (priceP g c (nI plan)) := by
  obtain ⟨w', x, _, h, _⟩ := Book_priceAt_w (w := wG g) (wG_WL hg) (by rw [wG_pd]; exact hg) hc hp' (by rw [wG_pd]; exact wG_bk g)
  rw [wG_pd] at h
  rw [priceP_eq h]
  exact h
theorem rateR_ex {g : PD} (hg : wfP g) {c : Nat} {plan : Int32} (hc : c < 4) : ∃ U V, rateR g c plan U V := by
  obtain ⟨w', _, _, _, _, h⟩ := Frt_findRates_w (w := wG g) (plan := plan) (wG_WL hg) (by rw [wG_pd]; exact hg) hc (by rw [wG_pd]; exact (wG_bk g).1)
  rw [wG_pd] at h
  exact ⟨_, _, h⟩
/-- a cut that stands -/
def cutV (g : PD) (c : List Int32) : Prop := (∃ n, n < pNc g ∧ cK c 0 = nI n) ∧ (cK c 1 = 0 ∨ cK c 1 = 1) ∧ (0 ≤ (cK c 2).toInt ∧ (cK c 2).toInt ≤ 99) ∧ (∀ p, p < 4 → 0 ≤ (cK c (3 + p)).toInt ∧ (cK c (3 + p)).toInt ≤ 297) ∧ (∀ s, s < 6 → 0 ≤ (cK c (7 + s)).toInt ∧ (cK c (7 + s)).toInt ≤ 396) ∧ holdsP g c = true
theorem holds_Z {g : PD} (hg : wfP g) {c : List Int32} (hc : cutV g c) {p s : Nat} (hp' : p < 4) (hs : s < 6) (hT : zT g p s ≠ -1) : (cK c (7 + s)).toInt ≤ (cK c (3 + p)).toInt + (if cK c 1 = 1 then 0 else zT g p s) := by
  obtain ⟨_, _, _, h4, h5, h6⟩ := hc
  have hpn : p < pNp g := by
    apply Nat.lt_of_not_le
    intro h
    exact hT (zT_out hg hp' hs (Or.inl h))
  have hsn : s < pNs g := by
    apply Nat.lt_of_not_le
    intro h
    exact hT (zT_out hg hp' hs (Or.inr h))
  unfold holdsP at h6
  rw [List.all_eq_true] at h6
  have h7 := h6 p (List.mem_range.mpr hpn)
  rw [List.all_eq_true] at h7
  have h8 := h7 s (List.mem_range.mpr hsn)
  unfold badP at h8
  have hT' : ¬ pToll g p s = -1 := fun h => hT (toll_m1.mp h)
  rw [decide_eq_true hT', Bool.true_and] at h8
  have h9 : cK c (7 + s) ≤ cK c (3 + p) + (if cK c 1 = 1 then 0 else pToll g p s) := by
    apply Decidable.byContradiction
    intro h
    rw [decide_eq_true h] at h8
    exact absurd h8 (by decide)
  have r1 := h4 p hp'
  have r2 := zT_rng hg hp' hs
  rw [ti_le] at h9
  by_cases hr : cK c 1 = 1
  · rw [if_pos hr] at h9 ⊢
    rw [ti_add (by rw [ti_0]; omega) (by rw [ti_0]; omega), ti_0] at h9
    exact h9
  · rw [if_neg hr] at h9 ⊢
    unfold zT at r2 ⊢
    rw [ti_add (by omega) (by omega)] at h9
    exact h9
theorem sumZ_col {F : Nat → Int} {n : Nat} (hn : n ≤ 4) (h0 : ∀ s, s < 4 → n ≤ s → F s = 0) : sumZ F n = colZ (fun p _ => F p) 0 := by
  unfold colZ
  have : n = 0 ∨ n = 1 ∨ n = 2 ∨ n = 3 ∨ n = 4 := by omega
  rcases this with rfl | rfl | rfl | rfl | rfl
  · have a0 := h0 0 (by omega) (by omega); have a1 := h0 1 (by omega) (by omega); have a2 := h0 2 (by omega) (by omega); have a3 := h0 3 (by omega) (by omega)
    simp only [sumZ]; omega
  · have a1 := h0 1 (by omega) (by omega); have a2 := h0 2 (by omega) (by omega); have a3 := h0 3 (by omega) (by omega)
    simp only [sumZ]; omega
  · have a2 := h0 2 (by omega) (by omega); have a3 := h0 3 (by omega) (by omega)
    simp only [sumZ]; omega
  · have a3 := h0 3 (by omega) (by omega)
    simp only [sumZ]; omega
  · simp only [sumZ]; omega
theorem size_out {g : PD} (hg : wfP g) {p : Nat} (hp' : p < 4) (h : pNp g ≤ p) : pSize g p = 0 := (hg.2.2.2.2.1 p h hp').2.1
/-- what a cut tells, as a number -/
theorem val_Z {g : PD} (hg : wfP g) {c : List Int32} (hc : cutV g c) {n : Nat} (hn : n < 4) (h0 : cK c 0 = nI n) (plan : Int32) : (valP g c plan).toInt = rowZ (fun _ s => zN g n s * (cK c (7 + s)).toInt) 0 - colZ (fun p _ => zK g plan p * (cK c (3 + p)).toInt) 0 ∧ -71280 ≤ (valP g c plan).toInt ∧ (valP g c plan).toInt ≤ 47520 := by
  obtain ⟨_, _, _, h4, h5, _⟩ := hc
  have hnp := hg.1.1.2
  have hns := hg.1.2.1.2
  have eN : ∀ s, s < 6 → (pNeed g n s * cK c (7 + s)).toInt = zN g n s * (cK c (7 + s)).toInt ∧ 0 ≤ zN g n s * (cK c (7 + s)).toInt ∧ zN g n s * (cK c (7 + s)).toInt ≤ 7920 := by
    intro s hs
    have r1 := zN_rng hg hn hs
    have r2 := h5 s hs
    have r3 := mul_rng r1.1 r1.2 r2.1 r2.2
    refine ⟨?_, r3.1, by omega⟩
    unfold zN at r3 ⊢
    exact ti_mul (by omega) (by omega)
  have eK : ∀ p, p < 4 → (unitsI plan p * (pSize g p * cK c (3 + p))).toInt = zK g plan p * (cK c (3 + p)).toInt ∧ 0 ≤ zK g plan p * (cK c (3 + p)).toInt ∧ zK g plan p * (cK c (3 + p)).toInt ≤ 17820 := by
    intro p hp'
    have r1 := zK_eq hg (plan := plan) hp'
    have r2 := h4 p hp'
    have r3 := mul_rng r1.2.1 r1.2.2 r2.1 r2.2
    have r4 := hg.2.2.1 p hp'
    have r5 := mul_rng r4.2.1.1 r4.2.1.2 r2.1 r2.2
    have r6 := units_rng plan p
    have e1 : (pSize g p * cK c (3 + p)).toInt = (pSize g p).toInt * (cK c (3 + p)).toInt := ti_mul (by omega) (by omega)
    have r7 := mul_rng r6.1 r6.2 r5.1 r5.2
    refine ⟨?_, r3.1, by omega⟩
    rw [ti_mul (by rw [e1]; omega) (by rw [e1]; omega), e1, r1.1, Int.mul_assoc]
  have s1 := sumN_ti (f := fun s => pNeed g n s * cK c (7 + s)) (B := 7920) (pNs g) (fun s hs => by have := eN s (by omega); rw [this.1]; exact this.2) (by omega) (by omega)
  have s2 := sumN_ti (f := fun p => unitsI plan p * (pSize g p * cK c (3 + p))) (B := 17820) (pNp g) (fun p hp' => by have := eK p (by omega); rw [this.1]; exact this.2) (by omega) (by omega)
  have e1 : baseP g c = sumN (fun s => pNeed g n s * cK c (7 + s)) (pNs g) := by
    unfold baseP
    rw [h0, nI_clamp (by omega)]
  have e2 : valP g c plan = sumN (fun s => pNeed g n s * cK c (7 + s)) (pNs g) - sumN (fun p => unitsI plan p * (pSize g p * cK c (3 + p))) (pNp g) := by
    unfold valP slopeP
    rw [e1]
  have t1 : sumZ (fun k => (pNeed g n k * cK c (7 + k)).toInt) (pNs g) = rowZ (fun _ s => zN g n s * (cK c (7 + s)).toInt) 0 := by
    rw [sumZ_congr (h := fun s => zN g n s * (cK c (7 + s)).toInt) _ (fun s hs => (eN s (by omega)).1)]
    exact sumZ_row hns (fun s hs h => by rw [zN_out hg hn hs h, Int.zero_mul])
  have t2 : sumZ (fun p => (unitsI plan p * (pSize g p * cK c (3 + p))).toInt) (pNp g) = colZ (fun p _ => zK g plan p * (cK c (3 + p)).toInt) 0 := by
    rw [sumZ_congr (h := fun p => zK g plan p * (cK c (3 + p)).toInt) _ (fun p hp' => (eK p (by omega)).1)]
    exact sumZ_col hnp (fun p hp' h => by rw [(zK_eq hg hp').1, size_out hg hp' h, ti_0, Int.mul_zero, Int.zero_mul])
  rw [e2, ti_sub (by omega) (by omega), s1.1, s2.1, t1, t2]
  refine ⟨rfl, ?_, ?_⟩
  · rw [← t1, ← t2, ← s1.1, ← s2.1]; omega
  · rw [← t1, ← t2, ← s1.1, ← s2.1]; omega
theorem hall_road {g : PD} {K N : Nat → Int} {s : Nat} (hh : hall g K N) (hN : ∀ s, s < 6 → 0 ≤ N s) (hs : s < 6) (hr : ∀ p, p < 4 → zT g p s = -1) : N s = 0 := by
  have h := hh (fun _ => false)
  have hin : inX g (fun _ => false) s = true := inX_iff.mpr (fun p hp' h' => absurd (hr p hp') h')
  have ge : N s ≤ rowZ (fun _ s => if inX g (fun _ => false) s = true then N s else 0) 0 := by
    have := row_ge (f := fun _ s => if inX g (fun _ => false) s = true then N s else 0) (p := 0) hs (fun t ht => by
      show 0 ≤ if inX g (fun _ => false) t = true then N t else 0
      split
      · exact hN t ht
      · omega)
    rw [if_pos hin] at this
    exact this
  have z : colZ (fun p _ => if (fun _ => false) p = true then K p else 0) 0 = 0 := by simp [colZ]
  rw [z] at h
  have := hN s hs
  omega
theorem row_mono {f h : Nat → Nat → Int} {p : Nat} (hh : ∀ s, s < 6 → f p s ≤ h p s) : rowZ f p ≤ rowZ h p := by
  have a0 := hh 0 (by omega); have a1 := hh 1 (by omega); have a2 := hh 2 (by omega); have a3 := hh 3 (by omega); have a4 := hh 4 (by omega); have a5 := hh 5 (by omega)
  unfold rowZ; omega
/-- a point never tells more than the price -/
theorem wd_point {g : PD} (hg : wfP g) {c : List Int32} (hc : cutV g c) {n : Nat} (hn : n < 4) (h0 : cK c 0 = nI n) (hr : ¬ cK c 1 = 1) {plan x : Int32} (hl : lackP g n plan ≤ 0) (hx : priceR g n plan x) : (valP g c plan).toInt ≤ x.toInt := by
  rcases hx with ⟨h1, _⟩ | ⟨_, u, hu, hxe, _, _, _⟩
  · exact absurd hl h1
  · rw [(val_Z hg hc hn h0 plan).1, hxe]
    have hh := hall_of hg hn hl
    refine Int.le_trans ?_ (hu.2 (fun p => (cK c (3 + p)).toInt) (fun p hp' => (hc.2.2.2.1 p hp').1)).1
    unfold DZ
    have : rowZ (fun _ s => zN g n s * (cK c (7 + s)).toInt) 0 ≤ rowZ (fun _ s => zN g n s * vZ g (fun p => (cK c (3 + p)).toInt) s) 0 := by
      apply row_mono
      intro s hs
      show zN g n s * (cK c (7 + s)).toInt ≤ zN g n s * vZ g (fun p => (cK c (3 + p)).toInt) s
      rcases vZ_spec g (fun p => (cK c (3 + p)).toInt) s with ⟨k, _⟩ | ⟨⟨p, hp', hT, e⟩, _⟩
      · rw [hall_road hh (fun t ht => (zN_rng hg hn ht).1) hs k, Int.zero_mul, Int.zero_mul]; omega
      · refine Int.mul_le_mul_of_nonneg_left ?_ (zN_rng hg hn hs).1
        rw [e]
        have := holds_Z hg hc hp' hs hT
        rw [if_neg hr] at this
        exact this
    have hbeta : colZ (fun p _ => zK g plan p * (fun p => (cK c (3 + p)).toInt) p) 0 = colZ (fun p _ => zK g plan p * (cK c (3 + p)).toInt) 0 := rfl
    rw [hbeta]
    omega
/-- a ray bars no plan by which the case doesn't fail -/
theorem wd_ray {g : PD} (hg : wfP g) {c : List Int32} (hc : cutV g c) {n : Nat} (hn : n < 4) (h0 : cK c 0 = nI n) (hr : cK c 1 = 1) {plan x : Int32} (hl : lackP g n plan ≤ 0) (hx : priceR g n plan x) : (valP g c plan).toInt ≤ 0 := by
  rcases hx with ⟨h1, _⟩ | ⟨_, u, hu, hxe, _, _, _⟩
  · exact absurd hl h1
  · rw [(val_Z hg hc hn h0 plan).1]
    have hh := hall_of hg hn hl
    have hb := (hu.2 (fun p => u p + (cK c (3 + p)).toInt) (fun p hp' => by have := hu.1 p hp'; have := (hc.2.2.2.1 p hp').1; omega)).1
    unfold DZ at hb
    dsimp only at hb
    have h1 : rowZ (fun _ s => zN g n s * vZ g u s) 0 + rowZ (fun _ s => zN g n s * (cK c (7 + s)).toInt) 0 ≤ rowZ (fun _ s => zN g n s * vZ g (fun p => u p + (cK c (3 + p)).toInt) s) 0 := by
      have e : rowZ (fun _ s => zN g n s * vZ g u s) 0 + rowZ (fun _ s => zN g n s * (cK c (7 + s)).toInt) 0 = rowZ (fun _ s => zN g n s * vZ g u s + zN g n s * (cK c (7 + s)).toInt) 0 := by
        simp only [rowZ]; omega
      rw [e]
      apply row_mono
      intro s hs
      show zN g n s * vZ g u s + zN g n s * (cK c (7 + s)).toInt ≤ zN g n s * vZ g (fun p => u p + (cK c (3 + p)).toInt) s
      rw [← Int.mul_add]
      rcases vZ_spec g (fun p => u p + (cK c (3 + p)).toInt) s with ⟨k, _⟩ | ⟨⟨p, hp', hT, e⟩, _⟩
      · rw [hall_road hh (fun t ht => (zN_rng hg hn ht).1) hs k, Int.zero_mul, Int.zero_mul]; omega
      · refine Int.mul_le_mul_of_nonneg_left ?_ (zN_rng hg hn hs).1
        have e' : vZ g (fun p => u p + (cK c (3 + p)).toInt) s = u p + (cK c (3 + p)).toInt + zT g p s := e
        rw [e']
        have h2 := holds_Z hg hc hp' hs hT
        rw [if_pos hr] at h2
        have h3 := vZ_le (u := u) hp' hT
        omega
    have h2 : colZ (fun p _ => zK g plan p * (u p + (cK c (3 + p)).toInt)) 0 = colZ (fun p _ => zK g plan p * u p) 0 + colZ (fun p _ => zK g plan p * (cK c (3 + p)).toInt) 0 := by
      unfold colZ
      simp only [Int.mul_add]
      omega
    rw [h2] at hb
    omega
