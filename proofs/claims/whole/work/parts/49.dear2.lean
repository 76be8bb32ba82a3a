def rndI (w R0 W : Wd) (π : Nat → Int) (mv : Int32) (D : Nat → Nat → Prop) : Prop := dearI w W π ∧ (∀ x, x < 4 → zA W 28 x ≤ zA R0 28 x) ∧ (∀ q p, q < 4 → p < 4 → D q p → zA R0 28 q < 1000000 → dC w q p < 1000000 → zA W 28 p ≤ zA R0 28 q + dC w q p) ∧ (mv = 1 ∨ (mv = 0 ∧ ∀ x, zA W 28 x = zA R0 28 x))
theorem rnd_step {w R0 W : Wd} {π : Nat → Int} {mv v2 : Int32} {D : Nat → Nat → Prop} {q p : Nat} (hπ : potOk w π) (hq : q < 4) (hp' : p < 4) (h : rndI w R0 W π mv D) : ∃ W' mv', Frt_findDear_b59 19 v2 (nI q) (mv, nI p, hp W) = some (.inl (mv', nI (p + 1), hp W')) ∧ rndI w R0 W' π mv' (fun q' p' => D q' p' ∨ (q' = q ∧ p' = p)) := by
  obtain ⟨h1, h2, h3, h4⟩ := h
  obtain ⟨W', mv', f1, f2, f3, f4, f5⟩ := dear_step (mv := mv) (v2 := v2) hπ hq hp' h1
  refine ⟨W', mv', f1, f2, ?_, ?_, ?_⟩
  · intro x hx
    exact Int.le_trans (f3 x hx) (h2 x hx)
  · intro q' p' hq' hp2 hD k1 k2
    rcases hD with hD | ⟨rfl, rfl⟩
    · exact Int.le_trans (f3 p' hp2) (h3 q' p' hq' hp2 hD k1 k2)
    · have := h2 q' hq'
      have := f4 (by omega) k2
      omega
  · rcases f5 with ⟨rfl, f5⟩ | f5
    · rcases h4 with h4 | ⟨h4, h5⟩
      · exact Or.inl h4
      · exact Or.inr ⟨h4, fun x => by rw [f5 x, h5 x]⟩
    · exact Or.inl f5
theorem rndI.mono {w R0 W : Wd} {π : Nat → Int} {mv : Int32} {D E : Nat → Nat → Prop} (h : rndI w R0 W π mv D) (he : ∀ q p, q < 4 → p < 4 → E q p → D q p) : rndI w R0 W π mv E :=
  ⟨h.1, h.2.1, fun q p hq hp' hE => h.2.2.1 q p hq hp' (he q p hq hp' hE), h.2.2.2⟩
theorem rnd_row {w R0 W : Wd} {π : Nat → Int} {mv v2 : Int32} {q : Nat} (hπ : potOk w π) (hq : q < 4) (h : rndI w R0 W π mv (fun q' _ => q' < q)) : ∃ W' mv', iter (Frt_findDear_b59 19 v2 (nI q)) Lmax (mv, 0, hp W) = some (mv', nI 4, hp W') ∧ rndI w R0 W' π mv' (fun q' _ => q' < q + 1) := by
  obtain ⟨r, i1, mv', W', rfl, hR⟩ := iter_I (body := Frt_findDear_b59 19 v2 (nI q)) (fun j st => ∃ mv W, st = (mv, nI j, hp W) ∧ rndI w R0 W π mv (fun q' p' => q' < q ∨ (q' = q ∧ p' < j))) (fun r => ∃ mv W, r = (mv, nI 4, hp W) ∧ rndI w R0 W π mv (fun q' _ => q' < q + 1)) 4 (s0 := (mv, 0, hp W)) (by omega) ⟨mv, W, rfl, h.mono (fun q' p' _ _ h => by omega)⟩ (by
    rintro j st hj ⟨mv, W, rfl, hR⟩
    left
    obtain ⟨W', mv', f1, f2⟩ := rnd_step (v2 := v2) hπ hq hj hR
    exact ⟨_, f1, mv', W', rfl, f2.mono (fun q' p' _ _ h => by omega)⟩) (by
    rintro st ⟨mv, W, rfl, hR⟩
    exact ⟨_, by simp only [Frt_findDear_b59, if_pos (show (4 : Int32) ≤ nI 4 by decide)], mv, W, rfl, hR.mono (fun q' p' _ _ h => by omega)⟩)
  exact ⟨W', mv', i1, hR⟩
theorem rnd_all {w R0 : Wd} {π : Nat → Int} {v2 : Int32} (hπ : potOk w π) (h : dearI w R0 π) : ∃ W' mv', iter (Frt_findDear_b51 19 v2) Lmax (0, 0, hp R0) = some (mv', nI 4, hp W') ∧ rndI w R0 W' π mv' (fun _ _ => True) := by
  obtain ⟨r, i1, mv', W', rfl, hR⟩ := iter_I (body := Frt_findDear_b51 19 v2) (fun j st => ∃ mv W, st = (mv, nI j, hp W) ∧ rndI w R0 W π mv (fun q' _ => q' < j)) (fun r => ∃ mv W, r = (mv, nI 4, hp W) ∧ rndI w R0 W π mv (fun _ _ => True)) 4 (s0 := (0, 0, hp R0)) (by omega) ⟨0, R0, rfl, h, fun _ _ => Int.le_refl _, fun q p _ _ hD => absurd hD (by omega), Or.inr ⟨rfl, fun _ => rfl⟩⟩ (by
    rintro j st hj ⟨mv, W, rfl, hR⟩
    left
    obtain ⟨W', mv', f1, f2⟩ := rnd_row (v2 := v2) hπ hj hR
    have hcp : ¬ (4 : Int32) ≤ nI j := nI_ge (b := 4) hj (by omega)
    refine ⟨_, ?_, mv', W', rfl, f2⟩
    simp only [Frt_findDear_b51, if_neg hcp, f1, Option.bind_some, Frt_findDear_j147, nI_1]) (by
    rintro st ⟨mv, W, rfl, hR⟩
    exact ⟨_, by simp only [Frt_findDear_b51, if_pos (show (4 : Int32) ≤ nI 4 by decide)], mv, W, rfl, hR.mono (fun q' p' h _ _ => by omega)⟩)
  exact ⟨W', mv', i1, hR⟩
def dClosed (w W : Wd) : Prop := ∀ q p, q < 4 → p < 4 → zA W 28 q < 1000000 → dC w q p < 1000000 → zA W 28 p ≤ zA W 28 q + dC w q p
theorem rounds_all {w R : Wd} {π : Nat → Int} (hπ : potOk w π) (h : dearI w R π) (h0 : ∀ p x, p < 4 → Wk (dSrc w) (dC w) 0 p x → zA R 28 p ≤ x) : ∃ W' m k, iter (Frt_findDear_b38 19) Lmax (1, 0, hp R) = some (m, k, hp W') ∧ dearI w W' π ∧ dClosed w W' := by
  have hc1 : ∀ q p, q < 4 → p < 4 → dC w q p < 1000000 → π p ≤ π q + dC w q p := fun q p h1 h2 h3 => (hπ.2.2 q p h1 h2 h3).1
  have hc2 : ∀ q p, q < 4 → p < 4 → dC w q p < 1000000 → dC w q p ≤ 99 := fun q p h1 h2 h3 => (hπ.2.2 q p h1 h2 h3).2.1
  obtain ⟨r, i1, W', m, k, rfl, hR, hC⟩ := iter_I (body := Frt_findDear_b38 19) (fun j st => ∃ mv W, st = (mv, nI j, hp W) ∧ dearI w W π ∧ (∀ p x, p < 4 → Wk (dSrc w) (dC w) j p x → zA W 28 p ≤ x) ∧ (mv = 1 ∨ (mv = 0 ∧ dClosed w W))) (fun r => ∃ W m k, r = (m, k, hp W) ∧ dearI w W π ∧ dClosed w W) 4 (s0 := (1, 0, hp R)) (by omega) ⟨1, R, rfl, h, h0, Or.inl rfl⟩ (by
    rintro j st hj ⟨mv, W, rfl, hI, hP, hmv⟩
    have hcp : ¬ (4 : Int32) ≤ nI j := nI_ge (b := 4) hj (by omega)
    rcases hmv with rfl | ⟨rfl, hC⟩
    · left
      obtain ⟨W', mv', f1, f2⟩ := rnd_all (v2 := nI j) hπ hI
      refine ⟨(mv', nI (j + 1), hp W'), ?_, mv', W', rfl, f2.1, ?_, ?_⟩
      · simp only [Frt_findDear_b38, if_neg hcp, if_neg (show ¬ (1 : Int32) = 0 by decide), f1, Option.bind_some, Frt_findDear_j153, nI_1]
      · intro p x hp' hk
        rcases hk with hk | ⟨q, y, hq, hk, hc, rfl⟩
        · exact Int.le_trans (f2.2.1 p hp') (hP p x hp' hk)
        · have u := Wk_ub hc2 j q y hq hk
          have v := hP q y hq hk
          have := f2.2.2.1 q p hq hp' trivial (by omega) hc
          omega
      · rcases f2.2.2.2 with h | ⟨h, h'⟩
        · exact Or.inl h
        · right
          refine ⟨h, ?_⟩
          intro q p hq hp' k1 k2
          have := f2.2.2.1 q p hq hp' trivial (by rw [← h' q]; exact k1) k2
          rw [h' q]; exact this
    · right
      exact ⟨(0, nI j, hp W), by simp only [Frt_findDear_b38, if_neg hcp, ↓reduceIte], W, _, _, rfl, hI, hC⟩) (by
    rintro st ⟨mv, W, rfl, hI, hP, hmv⟩
    refine ⟨(mv, nI 4, hp W), by simp only [Frt_findDear_b38, if_pos (show (4 : Int32) ≤ nI 4 by decide)], W, _, _, rfl, hI, ?_⟩
    intro q p hq hp' k1 k2
    obtain ⟨i, hi⟩ := (hI.2.2.1 q hq).2.2 k1
    obtain ⟨y, hy, hw3⟩ := Wk_all hc1 i q _ hq hi
    have := hP p _ hp' (Wk_edge hw3 hq k2)
    omega)
  exact ⟨W', m, k, i1, hR, hC⟩
/-- what finding dear leaves -/
def dearR (w W : Wd) (π : Nat → Int) : Prop := WL W ∧ Fr w W 28 30 ∧ (∀ p, p < 4 → 0 ≤ zA W 28 p ∧ zA W 28 p ≤ 1000000 ∧ (zA W 28 p < 1000000 → π p ≤ zA W 28 p ∧ zA W 28 p ≤ 297) ∧ (dSrc w p → zA W 28 p = 0)) ∧ dClosed w W ∧ (∀ p, p < 4 → ((W.1 29).getD p 0 = -1 ∧ zA W 28 p = dInit w p) ∨ ∃ q, q < 4 ∧ (W.1 29).getD p 0 = nI q ∧ dC w q p < 1000000 ∧ zA W 28 p = zA W 28 q + dC w q p ∧ zA W 28 p < 1000000 ∧ zA W 28 q < 1000000) ∧ ∃ rk : Nat → Nat, ∀ p q, p < 4 → q < 4 → (W.1 29).getD p 0 = nI q → rk q < rk p
theorem Frt_findDear_w {w : Wd} {π : Nat → Int} (hw : WL w) (hπ : potOk w π) (hh : ∀ p, p < 4 → (w.1 29).getD p 0 = -1) : ∃ w', Frt_findDear 19 (hp w) = some ((), hp w') ∧ dearR w w' π := by
  obtain ⟨r, i1, W, rfl, hW, hF, hd⟩ := iter_I (body := Frt_findDear_b2 19) (fun j st => ∃ W, st = (nI j, hp W) ∧ WL W ∧ Fr w W 28 29 ∧ ∀ p, p < j → zA W 28 p = dInit w p) (fun r => ∃ W, r = (nI 4, hp W) ∧ WL W ∧ Fr w W 28 29 ∧ ∀ p, p < 4 → zA W 28 p = dInit w p) 4 (s0 := (0, hp w)) (by omega) ⟨w, rfl, hw, Fr.rfl', fun _ h => absurd h (by omega)⟩ (by
    rintro j st hj ⟨W, rfl, hW, hF, hd⟩
    left
    have hcp : ¬ (4 : Int32) ≤ nI j := nI_ge (b := 4) hj (by omega)
    have L24 := l24 hW
    have L28 := l28 hW
    simp only [Frt_findDear_b2, if_neg hcp, c19_8, c19_4, Option.bind_some]
    rw [ald_w (j := j) s24 rfl (by omega) (by omega)]
    simp only [Option.bind_some]
    have step : ∀ y : Int32, y.toInt = dInit w j → ∃ s', Frt_findDear_j27 19 (nI j) 28 (nI j) y (hp W) = some (Sum.inl s') ∧ ∃ W, s' = (nI (j + 1), hp W) ∧ WL W ∧ Fr w W 28 29 ∧ ∀ p, p < j + 1 → zA W 28 p = dInit w p := by
      intro y hy
      unfold Frt_findDear_j27
      rw [ast_w (j := j) s28 rfl (by omega) (by omega)]
      simp only [Option.bind_some, nI_1]
      refine ⟨_, rfl, _, rfl, hW.S, Fr.cA hF (by omega) (by omega), ?_⟩
      intro p hp'
      unfold zA
      rw [wA_s, gD_set]
      by_cases h : j = p
      · subst h; rw [if_pos ⟨rfl, by omega⟩]; exact hy
      · rw [if_neg (fun h' => h h'.1)]; exact hd p (by omega)
    have e24 : W.1 24 = w.1 24 := (hF 24 (by omega)).1
    have Z : (0 : Int32).toInt = 0 := rfl
    by_cases h : (W.1 24).getD j 0 ≤ 0
    · rw [if_pos h]
      rw [ti_le, Z, e24] at h
      exact step 1000000 (by unfold dInit zA; rw [if_neg (by omega)]; rfl)
    · rw [if_neg h]
      rw [ti_le, Z, e24] at h
      exact step 0 (by unfold dInit zA; rw [if_pos (by omega)]; rfl)) (by
    rintro st ⟨W, rfl, hW, hF, hd⟩
    exact ⟨_, by simp only [Frt_findDear_b2, if_pos (show (4 : Int32) ≤ nI 4 by decide)], W, rfl, hW, hF, hd⟩)
  have e29 : W.1 29 = w.1 29 := (hF 29 (by omega)).1
  have hI : dearI w W π := by
    refine ⟨hW, hF.mono (by omega) (by omega), ?_, fun _ => 0, 1, fun _ _ => Nat.zero_lt_one, fun p hp' => Or.inl ⟨by rw [e29]; exact hh p hp', hd p hp'⟩⟩
    intro p hp'
    rw [hd p hp']
    refine ⟨by unfold dInit; split <;> omega, Int.le_refl _, fun h => ⟨0, ?_⟩⟩
    unfold dInit at *
    by_cases h2 : 0 < zA w 24 p
    · rw [if_pos h2]; exact ⟨h2, rfl⟩
    · rw [if_neg h2] at h; omega
  obtain ⟨W', m, k, f1, f3, f4⟩ := rounds_all hπ hI (by
    rintro p x hp' ⟨h1, rfl⟩
    rw [hd p hp']
    unfold dInit
    rw [if_pos (show 0 < zA w 24 p from h1)]; exact Int.le_refl _)
  refine ⟨W', ?_, ?_⟩
  · simp only [Frt_findDear, i1, Option.bind_some, Frt_findDear_j34, f1, Frt_findDear_j159]
  · obtain ⟨g1, g2, g3, τ, t, g4, g5⟩ := f3
    have hc1 : ∀ q p, q < 4 → p < 4 → dC w q p < 1000000 → π p ≤ π q + dC w q p := fun q p h1 h2 h3 => (hπ.2.2 q p h1 h2 h3).1
    have hlb : ∀ p, p < 4 → zA W' 28 p < 1000000 → π p ≤ zA W' 28 p := by
      intro p hp' h
      obtain ⟨i, hi⟩ := (g3 p hp').2.2 h
      exact Wk_lb (fun p h1 h2 => Int.le_of_eq (hπ.2.1 p h1 h2)) hc1 i p _ hp' hi
    have hsrc : ∀ p, p < 4 → dSrc w p → zA W' 28 p = 0 := by
      intro p hp' hs
      have a := g3 p hp'
      have : dInit w p = 0 := by unfold dInit dSrc at *; rw [if_pos hs]
      omega
    have hc2 : ∀ q p, q < 4 → p < 4 → dC w q p < 1000000 → dC w q p ≤ 99 := fun q p h1 h2 h3 => (hπ.2.2 q p h1 h2 h3).2.1
    have hub : ∀ (i p : Nat) (x : Int), i ≤ 3 → p < 4 → Wk (dSrc w) (dC w) i p x → zA W' 28 p ≤ x := by
      intro i
      induction i with
      | zero => rintro p x _ hp' ⟨h1, rfl⟩; rw [hsrc p hp' h1]; exact Int.le_refl _
      | succ i ih =>
        intro p x hi3 hp' h
        rcases h with h | ⟨q, y, hq, h, h2, rfl⟩
        · exact ih p x (by omega) hp' h
        · have a := ih q y (by omega) hq h
          have b := Wk_ub hc2 i q y hq h
          have := f4 q p hq hp' (by omega) h2
          omega
    refine ⟨g1, g2, ?_, f4, ?_, fun p => (zA W' 28 p - π p).toNat * t + τ p, ?_⟩
    · intro p hp'
      have a := g3 p hp'
      have b : dInit w p ≤ 1000000 := by unfold dInit; split <;> omega
      refine ⟨a.1, by omega, fun h => ⟨hlb p hp' h, ?_⟩, hsrc p hp'⟩
      obtain ⟨i, hi⟩ := a.2.2 h
      obtain ⟨y, hy, hw3⟩ := Wk_all hc1 i p _ hp' hi
      have := hub 3 p y (by omega) hp' hw3
      have := Wk_ub hc2 3 p y hp' hw3
      omega
    · intro p hp'
      rcases g5 p hp' with h | ⟨q, k1, k2, k3, k4, k5, k6, k7⟩
      · exact Or.inl h
      · right
        have := f4 q p k1 hp' k6 k3
        exact ⟨q, k1, k2, k3, by omega, k5, k6⟩
    · intro p q hp' hq heq
      rcases g5 p hp' with ⟨h, _⟩ | ⟨q', k1, k2, k3, k4, k5, k6, k7⟩
      · exfalso
        rw [h] at heq
        have : q = 0 ∨ q = 1 ∨ q = 2 ∨ q = 3 := by omega
        rcases this with rfl | rfl | rfl | rfl <;> exact absurd heq (by decide)
      · have : q' = q := by
          rw [k2] at heq
          exact (nI_eq (by omega) (by omega)).mp heq
        subst this
        have b1 := hlb p hp' k5
        have b2 := hlb q' hq k6
        have t1 := g4 p hp'
        have t2 := g4 q' hq
        show (zA W' 28 q' - π q').toNat * t + τ q' < (zA W' 28 p - π p).toNat * t + τ p
        rcases k7 with k7 | ⟨k7, k8⟩
        · have hlt : (zA W' 28 q' - π q').toNat + 1 ≤ (zA W' 28 p - π p).toNat := by omega
          have := Nat.mul_le_mul_right t hlt
          rw [Nat.add_mul] at this
          omega
        · rw [k7]; omega
