/-- in the middle of finding dear: left and swaps are those of w -/
def dInit (w : Wd) (p : Nat) : Int := if 0 < zA w 24 p then 0 else 1000000
def dSrc (w : Wd) (p : Nat) : Prop := 0 < zA w 24 p
def dC (w : Wd) (q p : Nat) : Int := zA w 26 (q * 4 + p)
def potOk (w : Wd) (π : Nat → Int) : Prop := (∀ p, p < 4 → 0 ≤ π p) ∧ (∀ p, p < 4 → dSrc w p → π p = 0) ∧ (∀ q p, q < 4 → p < 4 → dC w q p < 1000000 → π p ≤ π q + dC w q p ∧ dC w q p ≤ 99 ∧ -99 ≤ dC w q p)
def helpI (w W : Wd) (π : Nat → Int) (τ : Nat → Nat) (p : Nat) : Prop := ((W.1 29).getD p 0 = -1 ∧ zA W 28 p = dInit w p) ∨ ∃ q, q < 4 ∧ (W.1 29).getD p 0 = nI q ∧ dC w q p < 1000000 ∧ zA W 28 q + dC w q p ≤ zA W 28 p ∧ zA W 28 p < 1000000 ∧ zA W 28 q < 1000000 ∧ (zA W 28 q - π q < zA W 28 p - π p ∨ (zA W 28 q - π q = zA W 28 p - π p ∧ τ q < τ p))
def dearI (w W : Wd) (π : Nat → Int) : Prop := WL W ∧ Fr w W 28 30 ∧ (∀ p, p < 4 → 0 ≤ zA W 28 p ∧ zA W 28 p ≤ dInit w p ∧ (zA W 28 p < 1000000 → ∃ i, Wk (dSrc w) (dC w) i p (zA W 28 p))) ∧ ∃ (τ : Nat → Nat) (t : Nat), (∀ p, p < 4 → τ p < t) ∧ ∀ p, p < 4 → helpI w W π τ p
/-- one pair -/
theorem dear_step {w W : Wd} {π : Nat → Int} {q p : Nat} {mv v2 : Int32} (hπ : potOk w π) (hq : q < 4) (hp' : p < 4) (hI : dearI w W π) : ∃ W' mv', Frt_findDear_b59 19 v2 (nI q) (mv, nI p, hp W) = some (.inl (mv', nI (p + 1), hp W')) ∧ dearI w W' π ∧ (∀ x, x < 4 → zA W' 28 x ≤ zA W 28 x) ∧ (zA W 28 q < 1000000 → dC w q p < 1000000 → zA W' 28 p ≤ zA W 28 q + dC w q p) ∧ ((mv' = mv ∧ ∀ x, zA W' 28 x = zA W 28 x) ∨ mv' = 1) := by
  have hI0 := hI
  obtain ⟨hW, hF, hd, τ, t, ht, hh⟩ := hI
  have L26 := l26 hW
  have L28 := l28 hW
  have L29 := l29 hW
  have e26 : W.1 26 = w.1 26 := (hF 26 (by omega)).1
  have hcp : ¬ (4 : Int32) ≤ nI p := nI_ge (b := 4) hp' (by omega)
  have dq := hd q hq
  have dp := hd p hp'
  have iq : dInit w q ≤ 1000000 := by unfold dInit; split <;> omega
  have ip : dInit w p ≤ 1000000 := by unfold dInit; split <;> omega
  have M : (1000000 : Int32).toInt = 1000000 := rfl
  have stay : (zA W 28 q < 1000000 → dC w q p < 1000000 → zA W 28 p ≤ zA W 28 q + dC w q p) → ∃ W' mv', (some (Sum.inl (mv, nI (p + 1), hp W)) : Option ((Int32 × Int32 × AHeap) ⊕ (Int32 × Int32 × AHeap))) = some (.inl (mv', nI (p + 1), hp W')) ∧ dearI w W' π ∧ (∀ x, x < 4 → zA W' 28 x ≤ zA W 28 x) ∧ (zA W 28 q < 1000000 → dC w q p < 1000000 → zA W' 28 p ≤ zA W 28 q + dC w q p) ∧ ((mv' = mv ∧ ∀ x, zA W' 28 x = zA W 28 x) ∨ mv' = 1) :=
    fun h => ⟨W, mv, rfl, hI0, fun x _ => Int.le_refl _, h, Or.inl ⟨rfl, fun _ => rfl⟩⟩
  simp only [Frt_findDear_b59, if_neg hcp, c19_6, c19_8, Option.bind_some, nI_m4]
  rw [ald_w (j := q * 4 + p) s26 rfl (by omega) (by omega)]
  simp only [Option.bind_some]
  rw [ald_w (j := q) s28 rfl (by omega) (by omega)]
  simp only [Option.bind_some]
  by_cases h1 : (1000000 : Int32) ≤ (W.1 28).getD q 0
  · rw [if_pos h1]
    simp only [Frt_findDear_j141, nI_1]
    rw [ti_le, M] at h1
    exact stay (fun h => by unfold zA at h; omega)
  · rw [if_neg h1]
    by_cases h2 : (1000000 : Int32) ≤ (W.1 26).getD (q * 4 + p) 0
    · rw [if_pos h2]
      simp only [Frt_findDear_j141, nI_1]
      rw [ti_le, M, e26] at h2
      exact stay (fun _ h => by unfold dC zA at h; omega)
    · rw [if_neg h2]
      rw [ald_w (j := p) s28 rfl (by omega) (by omega)]
      simp only [Option.bind_some]
      rw [ti_le, M] at h1 h2
      rw [e26] at h2
      have hcl : dC w q p < 1000000 := by unfold dC zA; omega
      have hql : zA W 28 q < 1000000 := by unfold zA; omega
      have hb := hπ.2.2 q p hq hp' hcl
      have ea : ((W.1 28).getD q 0 + (W.1 26).getD (q * 4 + p) 0).toInt = zA W 28 q + dC w q p := by
        rw [e26]
        unfold zA dC zA at *
        rw [ti_add (by omega) (by omega)]
      by_cases h3 : (W.1 28).getD p 0 ≤ (W.1 28).getD q 0 + (W.1 26).getD (q * 4 + p) 0
      · rw [if_pos h3]
        simp only [Frt_findDear_j141, nI_1]
        rw [ti_le, ea] at h3
        exact stay (fun _ _ => h3)
      · rw [if_neg h3]
        clear stay
        rw [ti_le, ea] at h3
        rw [ast_w (j := p) s28 rfl (by omega) (by omega)]
        simp only [c19_9, Option.bind_some]
        rw [ast_w (j := p) s29 rfl (by rw [wA_n (by omega)]; omega) (by omega)]
        simp only [Option.bind_some, Frt_findDear_j141, nI_1]
        have h3' : zA W 28 q + dC w q p < zA W 28 p := by unfold zA at *; omega
        have hpq : q ≠ p := by
          intro h
          subst h
          have := hb.1
          omega
        have key : ∀ x, zA (wA (wA W 28 ((W.1 28).set p (nar 0 ((W.1 28).getD q 0 + (W.1 26).getD (q * 4 + p) 0)))) 29 (((wA W 28 ((W.1 28).set p (nar 0 ((W.1 28).getD q 0 + (W.1 26).getD (q * 4 + p) 0)))).1 29).set p (nar 0 (nI q)))) 28 x = if x = p then zA W 28 q + dC w q p else zA W 28 x := by
          intro x
          unfold zA
          rw [wA_n (by omega), wA_s, gD_set]
          by_cases hx : p = x
          · subst hx
            rw [if_pos ⟨rfl, by omega⟩, if_pos rfl]
            exact ea
          · rw [if_neg (fun h => hx h.1), if_neg (fun h => hx h.symm)]
        have keyh : ∀ x, (((wA (wA W 28 ((W.1 28).set p (nar 0 ((W.1 28).getD q 0 + (W.1 26).getD (q * 4 + p) 0)))) 29 (((wA W 28 ((W.1 28).set p (nar 0 ((W.1 28).getD q 0 + (W.1 26).getD (q * 4 + p) 0)))).1 29).set p (nar 0 (nI q)))).1 29).getD x 0) = if x = p then nI q else (W.1 29).getD x 0 := by
          intro x
          rw [wA_s, wA_n (by omega), gD_set]
          by_cases hx : p = x
          · subst hx
            rw [if_pos ⟨rfl, by omega⟩, if_pos rfl]
            rfl
          · rw [if_neg (fun h => hx h.1), if_neg (fun h => hx h.symm)]
        have hWL : WL (wA (wA W 28 ((W.1 28).set p (nar 0 ((W.1 28).getD q 0 + (W.1 26).getD (q * 4 + p) 0)))) 29 (((wA W 28 ((W.1 28).set p (nar 0 ((W.1 28).getD q 0 + (W.1 26).getD (q * 4 + p) 0)))).1 29).set p (nar 0 (nI q)))) := hW.S.S
        have hFr : Fr w (wA (wA W 28 ((W.1 28).set p (nar 0 ((W.1 28).getD q 0 + (W.1 26).getD (q * 4 + p) 0)))) 29 (((wA W 28 ((W.1 28).set p (nar 0 ((W.1 28).getD q 0 + (W.1 26).getD (q * 4 + p) 0)))).1 29).set p (nar 0 (nI q)))) 28 30 := Fr.cA (Fr.cA hF (by omega) (by omega)) (by omega) (by omega)
        refine ⟨_, 1, rfl, ?_⟩
        generalize wA (wA W 28 ((W.1 28).set p (nar 0 ((W.1 28).getD q 0 + (W.1 26).getD (q * 4 + p) 0)))) 29 (((wA W 28 ((W.1 28).set p (nar 0 ((W.1 28).getD q 0 + (W.1 26).getD (q * 4 + p) 0)))).1 29).set p (nar 0 (nI q))) = V at key keyh hWL hFr
        have hpp := hπ.1 p hp'
        have lbq : ∃ i, Wk (dSrc w) (dC w) i q (zA W 28 q) := dq.2.2 hql
        obtain ⟨i, hi⟩ := lbq
        have hwk : Wk (dSrc w) (dC w) (i + 1) p (zA W 28 q + dC w q p) := Wk_edge hi hq hcl
        have hlb := Wk_lb (fun p h1 h2 => Int.le_of_eq (hπ.2.1 p h1 h2)) (fun q p h1 h2 h3 => (hπ.2.2 q p h1 h2 h3).1) (i + 1) p _ hp' hwk
        have hlbq := Wk_lb (fun p h1 h2 => Int.le_of_eq (hπ.2.1 p h1 h2)) (fun q p h1 h2 h3 => (hπ.2.2 q p h1 h2 h3).1) i q _ hq hi
        refine ⟨⟨hWL, hFr, ?_, fun x => if x = p then t else τ x, t + 1, ?_, ?_⟩, ?_, ?_, Or.inr rfl⟩
        · intro x hx
          rw [key x]
          by_cases hxp : x = p
          · subst hxp
            rw [if_pos rfl]
            exact ⟨by omega, by omega, fun _ => ⟨i + 1, hwk⟩⟩
          · rw [if_neg hxp]; exact hd x hx
        · intro x hx
          have := ht x hx
          show (if x = p then t else τ x) < t + 1
          split <;> omega
        · intro x hx
          unfold helpI
          rw [keyh x, key x]
          by_cases hxp : x = p
          · subst hxp
            right
            refine ⟨q, hq, by rw [if_pos rfl], hcl, ?_⟩
            rw [key q, if_neg hpq, if_pos rfl]
            have := ht q hq
            simp only [if_neg hpq, ↓reduceIte]
            omega
          · rw [if_neg hxp, if_neg hxp]
            rcases hh x hx with h | ⟨r, k1, k2, k3, k4, k5, k6, k7⟩
            · exact Or.inl h
            · right
              refine ⟨r, k1, k2, k3, ?_⟩
              rw [key r]
              by_cases hrp : r = p
              · subst hrp
                simp only [↓reduceIte, if_neg hxp]
                omega
              · simp only [if_neg hrp, if_neg hxp]
                exact ⟨k4, k5, k6, k7⟩
        · intro x hx
          rw [key x]
          by_cases hxp : x = p
          · subst hxp; rw [if_pos rfl]; omega
          · rw [if_neg hxp]; exact Int.le_refl _
        · intro _ _
          rw [key p, if_pos rfl]; exact Int.le_refl _
