/-! the reference: what a case costs -/
theorem road_of {g : PD} (hg : wfP g) {c : Nat} {plan : Int32} (hc : c < 4) (hl : lackP g c plan ≤ 0) : roadOk g (zN g c) := by
  intro s hs h0
  apply Classical.byContradiction
  intro h
  refine h0 (hall_road (hall_of hg hc hl) (fun t ht => (zN_rng hg hc ht).1) hs (fun p hp' => ?_))
  apply Classical.byContradiction
  intro hT
  exact h ⟨p, hp', hT⟩
theorem cost_zero {w : Wd} {v1 v2 : Int32} (hw : WL w) : ∃ W, iter (Mod_costOf_b2 274 v1 v2) Lmax (0, hp w) = some (nI 4, hp W) ∧ WL W ∧ Fr w W 287 288 ∧ ∀ p, p < 4 → zA W 287 p = 0 := by
  obtain ⟨q, i1, W, rfl, hW⟩ := iter_I (body := Mod_costOf_b2 274 v1 v2) (fun j st => ∃ W, st = (nI j, hp W) ∧ WL W ∧ Fr w W 287 288 ∧ ∀ p, p < j → zA W 287 p = 0) (fun q => ∃ W, q = (nI 4, hp W) ∧ WL W ∧ Fr w W 287 288 ∧ ∀ p, p < 4 → zA W 287 p = 0) 4 (s0 := (0, hp w)) (by omega) ⟨w, rfl, hw, Fr.rfl', fun _ h => absurd h (by omega)⟩ (by
    rintro j st hj ⟨W, rfl, hW, hF, h0⟩
    left
    have hcn : ¬ (4 : Int32) ≤ nI j := nI_ge (b := 4) hj (by omega)
    have L := l287 hW
    simp only [Mod_costOf_b2, if_neg hcn, c274_23, Option.bind_some]
    rw [ast_w (j := j) s287 rfl (by omega) (by omega)]
    simp only [Option.bind_some, nI_1]
    refine ⟨_, rfl, _, rfl, hW.S, Fr.cA hF (by omega) (by omega), fun p hp' => ?_⟩
    unfold zA
    rw [wA_s, gD_set]
    by_cases h : j = p
    · subst h; rw [if_pos ⟨rfl, by omega⟩]; rfl
    · rw [if_neg (fun h' => h h'.1)]; exact h0 p (by omega)) (by
    rintro st ⟨W, rfl, h⟩
    exact ⟨(nI 4, hp W), by simp only [Mod_costOf_b2, if_pos (show (4 : Int32) ≤ nI 4 by decide)], W, rfl, h⟩)
  exact ⟨W, i1, hW⟩
theorem cost_up {w : Wd} {v1 v2 r : Int32} {Q : Nat} (hw : WL w) (hQ : Q < 16) (hu : uOk w) (hr : 1 ≤ r.toInt ∧ r.toInt ≤ 1000000000) : ∃ W, iter (Mod_costOf_b46 274 v1 v2 (nI Q) r) Lmax (0, hp w) = some (nI 4, hp W) ∧ WL W ∧ Fr w W 287 288 ∧ ∀ p, p < 4 → zA W 287 p = upX (zA w 287) (fun p => Q.testBit p) r.toInt p := by
  obtain ⟨q, i1, W, rfl, hW, hF, h0, _⟩ := iter_I (body := Mod_costOf_b46 274 v1 v2 (nI Q) r) (fun j st => ∃ W, st = (nI j, hp W) ∧ WL W ∧ Fr w W 287 288 ∧ (∀ p, p < j → zA W 287 p = upX (zA w 287) (fun p => Q.testBit p) r.toInt p) ∧ ∀ p, j ≤ p → (W.1 287).getD p 0 = (w.1 287).getD p 0) (fun q => ∃ W, q = (nI 4, hp W) ∧ WL W ∧ Fr w W 287 288 ∧ (∀ p, p < 4 → zA W 287 p = upX (zA w 287) (fun p => Q.testBit p) r.toInt p) ∧ True) 4 (s0 := (0, hp w)) (by omega) ⟨w, rfl, hw, Fr.rfl', fun _ h => absurd h (by omega), fun _ _ => rfl⟩ (by
    rintro j st hj ⟨W, rfl, hW, hF, h0, hs⟩
    left
    have hcn : ¬ (4 : Int32) ≤ nI j := nI_ge (b := 4) hj (by omega)
    have L := l287 hW
    have a : ald 0 (hp W) 287 (nI j) = some ((w.1 287).getD j 0) := by rw [ald_w (j := j) s287 rfl (by omega) (by omega), hs j (Nat.le_refl _)]
    simp only [Mod_costOf_b46, if_neg hcn, c274_23, Option.bind_some, a, bit_at (show Q < 64 by omega) (show j < 6 by omega), Mod_costOf_j76]
    have fin : ∀ y : Int32, ((w.1 287).getD j 0 + y).toInt = upX (zA w 287) (fun p => Q.testBit p) r.toInt j → ∃ s', (ast 0 (hp W) 287 (nI j) ((w.1 287).getD j 0 + y)).bind (fun h10 => some (Sum.inl (nI j + 1, h10))) = some (Sum.inl s' : (Int32 × AHeap) ⊕ (Int32 × AHeap)) ∧ ∃ W, s' = (nI (j + 1), hp W) ∧ WL W ∧ Fr w W 287 288 ∧ (∀ p, p < j + 1 → zA W 287 p = upX (zA w 287) (fun p => Q.testBit p) r.toInt p) ∧ ∀ p, j + 1 ≤ p → (W.1 287).getD p 0 = (w.1 287).getD p 0 := by
      intro y hy
      rw [ast_w (j := j) s287 rfl (by omega) (by omega)]
      simp only [Option.bind_some, nI_1]
      refine ⟨_, rfl, _, rfl, hW.S, Fr.cA hF (by omega) (by omega), fun p hp' => ?_, fun p hp' => ?_⟩
      · unfold zA
        rw [wA_s, gD_set]
        by_cases h : j = p
        · subst h; rw [if_pos ⟨rfl, by omega⟩]; exact hy
        · rw [if_neg (fun h' => h h'.1)]; exact h0 p (by omega)
      · rw [wA_s, gD_set, if_neg (by omega)]; exact hs p (by omega)
    have hj2 := hu j hj
    unfold zA at hj2
    by_cases hb : Q.testBit j = true
    · rw [if_neg (by rw [hb]; decide)]
      refine fin r ?_
      unfold upX zA
      rw [if_pos hb]
      exact ti_add (by omega) (by omega)
    · have hb' : Q.testBit j = false := by simpa using hb
      rw [if_pos (by rw [hb']; decide)]
      refine fin 0 ?_
      unfold upX zA
      rw [if_neg hb, Int32.add_zero]
      omega) (by
    rintro st ⟨W, rfl, hW, hF, h0, hs⟩
    exact ⟨(nI 4, hp W), by simp only [Mod_costOf_b46, if_pos (show (4 : Int32) ≤ nI 4 by decide)], W, rfl, hW, hF, h0, trivial⟩)
  exact ⟨W, i1, hW, hF, h0⟩
theorem Mod_costOf_w {w : Wd} {c : Nat} {plan : Int32} {ws : Nat → Int} (hw : WL w) (hg : wfP (mdG (w.1 279))) (hc : c < 4) (hl : lackP (mdG (w.1 279)) c plan ≤ 0) (hws : LM (mdG (w.1 279)) (zK (mdG (w.1 279)) plan) (zN (mdG (w.1 279)) c) ws) (hw297 : ∀ p, p < 4 → ws p ≤ 297) : ∃ w' x, Mod_costOf 274 (nI c) plan (hp w) = some (x, hp w') ∧ WL w' ∧ Fr w w' 287 290 ∧ (∀ p, p < 4 → zA w' 287 p = ws p) ∧ (∀ s, s < 6 → zA w' 288 s = vZ (mdG (w.1 279)) ws s) ∧ x.toInt = DZ (mdG (w.1 279)) (zK (mdG (w.1 279)) plan) (zN (mdG (w.1 279)) c) ws := by
  have hR := road_of hg hc hl
  have hN : ∀ s, s < 6 → 0 ≤ zN (mdG (w.1 279)) c s := fun s hs => (zN_rng hg hc hs).1
  obtain ⟨W1, z1, z2, z3, z4⟩ := cost_zero (v1 := nI c) (v2 := plan) hw
  have f1 : W1.1 279 = w.1 279 := (z3 279 (by omega)).1
  have u1 : uOk W1 := fun p hp' => by rw [z4 p hp']; omega
  obtain ⟨W2, y1, y2, y3, y4⟩ := Mod_laysNearest_w z2 (by rw [f1]; exact hg) u1
  have f2 : W2.1 279 = w.1 279 := by rw [(y3 279 (by omega)).1, f1]
  have e2 : zA W2 287 = zA W1 287 := by funext p; exact zA_fr y3 (by omega)
  have l2 : layd W2 := fun s hs => by rw [f2, e2]; have := y4 s hs; rw [f1] at this; exact this
  obtain ⟨L0, hL0, s1, s2⟩ := Mod_scarce_w (plan := plan) y2 (by rw [f2]; exact hg) l2 hc (by rw [f2]; exact hR)
  rw [f2] at s2
  obtain ⟨q, i1, W, rfl, hW, hF, hle, hly, hsc⟩ := iter_I (body := Mod_costOf_b31 274 (nI c) plan) (fun j st => ∃ W L, st = (nI L, hp W) ∧ L < 16 ∧ WL W ∧ Fr w W 287 290 ∧ (∀ p, p < 4 → 0 ≤ zA W 287 p ∧ zA W 287 p ≤ ws p) ∧ layd W ∧ isSc (mdG (w.1 279)) (zK (mdG (w.1 279)) plan) (zN (mdG (w.1 279)) c) (zA W 287) (fun p => L.testBit p) ∧ (j : Int) ≤ colZ (fun p _ => zA W 287 p) 0) (fun q => ∃ W, q = (0, hp W) ∧ WL W ∧ Fr w W 287 290 ∧ (∀ p, p < 4 → 0 ≤ zA W 287 p ∧ zA W 287 p ≤ ws p) ∧ layd W ∧ isSc (mdG (w.1 279)) (zK (mdG (w.1 279)) plan) (zN (mdG (w.1 279)) c) (zA W 287) (fun p => (0 : Nat).testBit p)) 1200 (s0 := (nI L0, hp W2)) (by omega) ⟨W2, L0, rfl, hL0, y2, (z3.mono (by omega) (by omega)).tr (y3.mono (by omega) (by omega)), fun p hp' => by rw [e2, z4 p hp']; exact ⟨Int.le_refl _, hws.1 p hp'⟩, l2, s2, by
      simp only [colZ]; rw [e2, z4 0 (by omega), z4 1 (by omega), z4 2 (by omega), z4 3 (by omega)]; omega⟩ (by
    rintro j st hj ⟨W, L, rfl, hL, hW, hF, hle, hly, hsc, hsum⟩
    have fW : W.1 279 = w.1 279 := (hF 279 (by omega)).1
    have uW : uOk W := fun p hp' => by have := hle p hp'; have := hw297 p hp'; omega
    by_cases hL0 : L = 0
    · right
      subst hL0
      exact ⟨(0, hp W), by simp only [Mod_costOf_b31, if_pos (show nI 0 = 0 from rfl)]; rfl, W, rfl, hW, hF, hle, hly, hsc⟩
    · left
      have hLn : ¬ nI L = 0 := fun h => hL0 ((nI_eq (b := 0) (by omega) (by omega)).mp h)
      have hX : ∃ p, p < 4 ∧ L.testBit p = true := by
        apply Classical.byContradiction
        intro h
        apply hL0
        apply Nat.eq_of_testBit_eq
        intro i
        rw [Nat.zero_testBit]
        cases hb : L.testBit i
        · rfl
        · have := bit_hi (n := 4) hL hb
          exact absurd ⟨i, this, hb⟩ h
      obtain ⟨r, r1, r2, r3, r4⟩ := Mod_riseOf_w (c := c) (Q := L) hW (by rw [fW]; exact hg) uW hly hc hL
      rw [fW] at r4
      obtain ⟨V, v1, v2, v3, v4⟩ := cost_up (v1 := nI c) (v2 := plan) hW hL uW ⟨r2, r3⟩
      have hrise : ∀ p, p < 4 → zA V 287 p ≤ ws p := fun p hp' => by
        rw [v4 p hp']
        have h := rise_le hN hR hws (fun p hp' => (hle p hp').2) hsc hX r4 r.toInt.toNat (by omega) p hp'
        rw [show ((r.toInt.toNat : Nat) : Int) = r.toInt by omega] at h
        exact h
      have hge : ∀ p, p < 4 → zA W 287 p ≤ zA V 287 p := fun p hp' => by
        rw [v4 p hp']
        unfold upX
        split <;> omega
      have uV : uOk V := fun p hp' => by have := hrise p hp'; have := hw297 p hp'; have := hge p hp'; have := (hle p hp').1; omega
      have fV : V.1 279 = w.1 279 := by rw [(v3 279 (by omega)).1, fW]
      obtain ⟨Y, n1, n2, n3, n4⟩ := Mod_laysNearest_w v2 (by rw [fV]; exact hg) uV
      have fY : Y.1 279 = w.1 279 := by rw [(n3 279 (by omega)).1, fV]
      have eY : zA Y 287 = zA V 287 := by funext p; exact zA_fr n3 (by omega)
      have lY : layd Y := fun s hs => by rw [fY, eY]; have := n4 s hs; rw [fV] at this; exact this
      obtain ⟨L', hL', m1, m2⟩ := Mod_scarce_w (plan := plan) n2 (by rw [fY]; exact hg) lY hc (by rw [fY]; exact hR)
      rw [fY] at m2
      simp only [Mod_costOf_b31, if_neg hLn, k274, Option.bind_some, r1, bnd2_some, v1, Mod_costOf_j84, n1, m1]
      refine ⟨_, rfl, Y, L', rfl, hL', n2, hF.tr ((v3.mono (by omega) (by omega)).tr (n3.mono (by omega) (by omega))), fun p hp' => ?_, lY, m2, ?_⟩
      · rw [eY]
        exact ⟨by have := hge p hp'; have := (hle p hp').1; omega, hrise p hp'⟩
      · obtain ⟨p, hp', hb⟩ := hX
        have hup : zA W 287 p + 1 ≤ zA V 287 p := by
          rw [v4 p hp']
          unfold upX
          rw [if_pos hb]
          omega
        have g0 := hge 0 (by omega); have g1 := hge 1 (by omega); have g2 := hge 2 (by omega); have g3 := hge 3 (by omega)
        rw [eY]
        simp only [colZ] at hsum ⊢
        have : p = 0 ∨ p = 1 ∨ p = 2 ∨ p = 3 := by omega
        rcases this with rfl | rfl | rfl | rfl <;> omega) (by
    rintro st ⟨W, L, rfl, hL, hW, hF, hle, hly, hsc, hsum⟩
    exfalso
    simp only [colZ] at hsum
    have a0 := (hle 0 (by omega)).2; have a1 := (hle 1 (by omega)).2; have a2 := (hle 2 (by omega)).2; have a3 := (hle 3 (by omega)).2
    have b0 := hw297 0 (by omega); have b1 := hw297 1 (by omega); have b2 := hw297 2 (by omega); have b3 := hw297 3 (by omega)
    omega)
  have fW : W.1 279 = w.1 279 := (hF 279 (by omega)).1
  have ask0 : ∀ Y : Nat → Bool, askZ (mdG (w.1 279)) (zK (mdG (w.1 279)) plan) (zN (mdG (w.1 279)) c) (zA W 287) Y ≤ 0 := by
    rcases hsc with ⟨_, h⟩ | ⟨h, _⟩
    · exact h
    · rw [ask_0 hR] at h; omega
  have eu : ∀ p, p < 4 → zA W 287 p = ws p := scarce_end hN hws (fun p hp' => (hle p hp').1) (fun p hp' => (hle p hp').2) (fun Y => by rw [D_up1 hR]; have := ask0 Y; omega)
  have ev : ∀ s, s < 6 → zA W 288 s = vZ (mdG (w.1 279)) ws s := fun s hs => by
    rw [(hly s hs).1, fW]
    exact vZ_congr eu
  have vr : ∀ s, s < 6 → 0 ≤ zA W 288 s ∧ zA W 288 s ≤ 396 := fun s hs => by
    rw [ev s hs]
    rcases vZ_spec (mdG (w.1 279)) ws s with ⟨_, h⟩ | ⟨⟨p, hp', hT, h⟩, _⟩
    · rw [h]; omega
    · rw [h]
      have := hws.1 p hp'
      have := hw297 p hp'
      have := zT_rng hg hp' hs
      omega
  have L8 := l288 hW
  have L7 := l287 hW
  have h1 : iter (Mod_costOf_b104 274 (nI c) plan 0) Lmax (0, 0, hp W) = some (sumN (fun s => pNeed (mdG (w.1 279)) c s * (W.1 288).getD s 0) 6, nI 6, hp W) := by
    refine iter_L (fun j => (sumN (fun s => pNeed (mdG (w.1 279)) c s * (W.1 288).getD s 0) j, nI j, hp W)) 6 (by omega) ?_ ?_
    · intro j hj
      have hcn : ¬ (6 : Int32) ≤ nI j := nI_ge (b := 6) hj (by omega)
      have nd := Mod_needOf_w (w := W) hW hc hj
      rw [fW] at nd
      have a : ald 0 (hp W) 288 (nI j) = some ((W.1 288).getD j 0) := ald_w (j := j) s288 rfl (by omega) (by omega)
      simp only [Mod_costOf_b104, if_neg hcn, k274, Option.bind_some, nd, bnd2_some, c274_24, a, nI_1]
      rfl
    · simp only [Mod_costOf_b104, if_pos (show (6 : Int32) ≤ nI 6 by decide)]
  have h2 : ∀ B : Int32, iter (Mod_costOf_b140 274 (nI c) plan 0) Lmax (B, 0, hp W) = some (B - sumN (fun p => stockP (mdG (w.1 279)) plan p * (W.1 287).getD p 0) 4, nI 4, hp W) := by
    intro B
    have e : (B, (0 : Int32), hp W) = (B - sumN (fun p => stockP (mdG (w.1 279)) plan p * (W.1 287).getD p 0) 0, nI 0, hp W) := by
      simp [sumN, nI_0]
    rw [e]
    refine iter_L (fun j => (B - sumN (fun p => stockP (mdG (w.1 279)) plan p * (W.1 287).getD p 0) j, nI j, hp W)) 4 (by omega) ?_ ?_
    · intro j hj
      have hcn : ¬ (4 : Int32) ≤ nI j := nI_ge (b := 4) hj (by omega)
      have sk := Mod_stockOf_w (w := W) (plan := plan) hW (by rw [fW]; exact hg) hj
      rw [fW] at sk
      have a : ald 0 (hp W) 287 (nI j) = some ((W.1 287).getD j 0) := ald_w (j := j) s287 rfl (by omega) (by omega)
      have eB : ∀ x y : Int32, B - x - y = B - (x + y) := fun x y => by grind
      simp only [Mod_costOf_b140, if_neg hcn, k274, Option.bind_some, sk, bnd2_some, c274_23, a, nI_1, sumN, eB]
    · simp only [Mod_costOf_b140, if_pos (show (4 : Int32) ≤ nI 4 by decide)]
  refine ⟨W, _, by simp only [Mod_costOf, z1, Option.bind_some, Mod_costOf_j20, k274, y1, bnd2_some, s1, i1, Mod_costOf_j98, h1, Mod_costOf_j137, h2, Mod_costOf_j172]; rfl, hW, hF, eu, ev, ?_⟩
  have t1 : ∀ s, s < 6 → (pNeed (mdG (w.1 279)) c s * (W.1 288).getD s 0).toInt = zN (mdG (w.1 279)) c s * vZ (mdG (w.1 279)) ws s ∧ 0 ≤ (pNeed (mdG (w.1 279)) c s * (W.1 288).getD s 0).toInt ∧ (pNeed (mdG (w.1 279)) c s * (W.1 288).getD s 0).toInt ≤ 7920 := fun s hs => by
    have r1 := zN_rng hg hc hs
    have r2 := vr s hs
    have r3 := mul_rng r1.1 r1.2 r2.1 r2.2
    rw [← ev s hs]
    unfold zN zA at r3 ⊢
    rw [ti_mul (by omega) (by omega)]
    exact ⟨rfl, r3.1, by omega⟩
  have t2 : ∀ p, p < 4 → (stockP (mdG (w.1 279)) plan p * (W.1 287).getD p 0).toInt = zK (mdG (w.1 279)) plan p * ws p ∧ 0 ≤ (stockP (mdG (w.1 279)) plan p * (W.1 287).getD p 0).toInt ∧ (stockP (mdG (w.1 279)) plan p * (W.1 287).getD p 0).toInt ≤ 17820 := fun p hp' => by
    have r1 := (zK_eq hg (plan := plan) hp').2
    have r2 := hle p hp'
    have r2' := hw297 p hp'
    have r3 := mul_rng r1.1 r1.2 r2.1 (show zA W 287 p ≤ 297 by omega)
    rw [← eu p hp']
    unfold zK zA at r3 ⊢
    rw [ti_mul (by omega) (by omega)]
    exact ⟨rfl, r3.1, by omega⟩
  have q1 := sumN_ti (f := fun s => pNeed (mdG (w.1 279)) c s * (W.1 288).getD s 0) (B := 7920) 6 (fun s hs => (t1 s hs).2) (by omega) (by omega)
  have q2 := sumN_ti (f := fun p => stockP (mdG (w.1 279)) plan p * (W.1 287).getD p 0) (B := 17820) 4 (fun p hp' => (t2 p hp').2) (by omega) (by omega)
  rw [ti_sub (by omega) (by omega), q1.1, q2.1]
  unfold DZ
  rw [sumZ_congr (h := fun s => zN (mdG (w.1 279)) c s * vZ (mdG (w.1 279)) ws s) 6 (fun s hs => (t1 s hs).1), sumZ_congr (h := fun p => zK (mdG (w.1 279)) plan p * ws p) 4 (fun p hp' => (t2 p hp').1), sumZ_row (by omega) (fun s hs h => absurd hs (by omega)), sumZ_col (by omega) (fun s hs h => absurd hs (by omega))]
