/-! bringing by cheapest ways: numbers as Int -/
theorem ti_add {x y : Int32} (h1 : -2147483648 ≤ x.toInt + y.toInt) (h2 : x.toInt + y.toInt < 2147483648) : (x + y).toInt = x.toInt + y.toInt := by
  rw [Int32.toInt_add]
  exact Int.bmod_eq_of_le (by omega) (by omega)
theorem ti_sub {x y : Int32} (h1 : -2147483648 ≤ x.toInt - y.toInt) (h2 : x.toInt - y.toInt < 2147483648) : (x - y).toInt = x.toInt - y.toInt := by
  rw [Int32.toInt_sub]
  exact Int.bmod_eq_of_le (by omega) (by omega)
theorem ti_mul {x y : Int32} (h1 : -2147483648 ≤ x.toInt * y.toInt) (h2 : x.toInt * y.toInt < 2147483648) : (x * y).toInt = x.toInt * y.toInt := by
  rw [Int32.toInt_mul]
  exact Int.bmod_eq_of_le (by omega) (by omega)
theorem ti_le {x y : Int32} : x ≤ y ↔ x.toInt ≤ y.toInt := Int32.le_iff_toInt_le
theorem ti_lt {x y : Int32} : x < y ↔ x.toInt < y.toInt := Int32.lt_iff_toInt_lt
theorem ti_eq {x y : Int32} : x = y ↔ x.toInt = y.toInt := Int32.toInt_inj.symm
def zT (g : PD) (p s : Nat) : Int := (pToll g p s).toInt
def zA (w : Wd) (a i : Nat) : Int := ((w.1 a).getD i 0).toInt
theorem zT_rng {g : PD} (hg : wfP g) {p s : Nat} (hp' : p < 4) (hs : s < 6) : -1 ≤ zT g p s ∧ zT g p s ≤ 99 := hg.2.2.2.2.2.1 p s hp' hs
theorem zT_out {g : PD} (hg : wfP g) {p s : Nat} (hp' : p < 4) (hs : s < 6) (h : pNp g ≤ p ∨ pNs g ≤ s) : zT g p s = -1 := by
  unfold zT; rw [hg.2.2.2.2.2.2.1 p s hp' hs h]; rfl
theorem toll_m1 {g : PD} {p s : Nat} : pToll g p s = -1 ↔ zT g p s = -1 := by
  unfold zT; rw [ti_eq]; rfl
theorem Frt_cheapestFor_w {w : Wd} {s : Nat} (hw : WL w) (hg : wfP (pdW w 2)) (hs : s < 6) (hd : ∀ p, p < 4 → 0 ≤ zA w 28 p ∧ zA w 28 p ≤ 1000000) : ∃ r, Frt_cheapestFor 19 2 (nI s) (hp w) = some (r, hp w) ∧ ((r = -1 ∧ ∀ p, p < 4 → zT (pdW w 2) p s ≠ -1 → 1000000 ≤ zA w 28 p + zT (pdW w 2) p s) ∨ ∃ p, p < 4 ∧ r = nI p ∧ zT (pdW w 2) p s ≠ -1 ∧ zA w 28 p + zT (pdW w 2) p s < 1000000 ∧ ∀ q, q < 4 → zT (pdW w 2) q s ≠ -1 → zA w 28 p + zT (pdW w 2) p s ≤ zA w 28 q + zT (pdW w 2) q s) := by
  have hnp := hg.1.1
  have e0 : w.2 2 0 = nI (pNp (pdW w 2)) := hnp.1
  have L6 : (w.1 6).length = 24 := hg.2.1.2.2.2.1
  have L28 := l28 hw
  obtain ⟨q, i1, r, l, rfl, h⟩ := iter_I (body := Frt_cheapestFor_b9 19 2 (nI s) (hp w)) (fun j st => ∃ r l : Int32, st = (r, l, nI j) ∧ ((r = -1 ∧ l.toInt = 1000000 ∧ ∀ p, p < j → zT (pdW w 2) p s ≠ -1 → 1000000 ≤ zA w 28 p + zT (pdW w 2) p s) ∨ ∃ p, p < 4 ∧ r = nI p ∧ zT (pdW w 2) p s ≠ -1 ∧ l.toInt = zA w 28 p + zT (pdW w 2) p s ∧ l.toInt < 1000000 ∧ ∀ q, q < j → zT (pdW w 2) q s ≠ -1 → l.toInt ≤ zA w 28 q + zT (pdW w 2) q s)) (fun q => ∃ r l : Int32, q = (r, l, nI (pNp (pdW w 2))) ∧ ((r = -1 ∧ l.toInt = 1000000 ∧ ∀ p, p < pNp (pdW w 2) → zT (pdW w 2) p s ≠ -1 → 1000000 ≤ zA w 28 p + zT (pdW w 2) p s) ∨ ∃ p, p < 4 ∧ r = nI p ∧ zT (pdW w 2) p s ≠ -1 ∧ l.toInt = zA w 28 p + zT (pdW w 2) p s ∧ l.toInt < 1000000 ∧ ∀ q, q < pNp (pdW w 2) → zT (pdW w 2) q s ≠ -1 → l.toInt ≤ zA w 28 q + zT (pdW w 2) q s)) (pNp (pdW w 2)) (s0 := ((-1), 1000000, 0)) (by omega) ⟨-1, 1000000, rfl, Or.inl ⟨rfl, rfl, fun _ h => absurd h (by omega)⟩⟩ (by
    rintro j st hj ⟨r, l, rfl, h⟩
    left
    have hcn : ¬ nI (pNp (pdW w 2)) ≤ nI j := nI_ge hj (by omega)
    have hj4 : j < 4 := by omega
    have hT := zT_rng hg hj4 hs
    have hD := hd j hj4
    simp only [Frt_cheapestFor_b9, c2_0, Option.bind_some, e0, if_neg hcn, c2_6, nI_m6]
    rw [ald_w (j := j * 6 + s) s6 rfl (by omega) (by omega)]
    simp only [Option.bind_some]
    have et : (w.1 6).getD (j * 6 + s) 0 = pToll (pdW w 2) j s := rfl
    rw [et]
    by_cases h1 : pToll (pdW w 2) j s = -1
    · rw [if_pos h1]
      simp only [Frt_cheapestFor_j68, nI_1]
      have h1' := toll_m1.mp h1
      refine ⟨_, rfl, r, l, rfl, ?_⟩
      rcases h with ⟨a1, a2, a3⟩ | ⟨p, a1, a2, a3, a4, a5, a6⟩
      · left
        refine ⟨a1, a2, fun p hp' ht => ?_⟩
        by_cases hpj : p = j
        · subst hpj; exact absurd h1' ht
        · exact a3 p (by omega) ht
      · right
        refine ⟨p, a1, a2, a3, a4, a5, fun q hq ht => ?_⟩
        by_cases hpj : q = j
        · subst hpj; exact absurd h1' ht
        · exact a6 q (by omega) ht
    · rw [if_neg h1]
      have h1' : zT (pdW w 2) j s ≠ -1 := fun h => h1 (toll_m1.mpr h)
      simp only [c19_8, Option.bind_some]
      rw [ald_w (j := j) s28 rfl (by omega) (by omega)]
      simp only [Option.bind_some]
      have ea : ((w.1 28).getD j 0 + pToll (pdW w 2) j s).toInt = zA w 28 j + zT (pdW w 2) j s := by
        unfold zA zT at *
        rw [ti_add (by omega) (by omega)]
      by_cases h2 : l ≤ (w.1 28).getD j 0 + pToll (pdW w 2) j s
      · rw [if_pos h2]
        simp only [Frt_cheapestFor_j68, nI_1]
        rw [ti_le, ea] at h2
        refine ⟨_, rfl, r, l, rfl, ?_⟩
        rcases h with ⟨a1, a2, a3⟩ | ⟨p, a1, a2, a3, a4, a5, a6⟩
        · left
          refine ⟨a1, a2, fun p hp' ht => ?_⟩
          by_cases hpj : p = j
          · subst hpj; omega
          · exact a3 p (by omega) ht
        · right
          refine ⟨p, a1, a2, a3, a4, a5, fun q hq ht => ?_⟩
          by_cases hpj : q = j
          · subst hpj; omega
          · exact a6 q (by omega) ht
      · rw [if_neg h2]
        simp only [Frt_cheapestFor_j68, nI_1]
        rw [ti_le, ea] at h2
        refine ⟨_, rfl, _, _, rfl, ?_⟩
        right
        refine ⟨j, hj4, rfl, h1', ea, ?_, ?_⟩
        · rw [ea]
          rcases h with ⟨a1, a2, a3⟩ | ⟨p, a1, a2, a3, a4, a5, a6⟩ <;> omega
        · intro q hq ht
          rw [ea]
          by_cases hpj : q = j
          · subst hpj; omega
          · rcases h with ⟨a1, a2, a3⟩ | ⟨p, a1, a2, a3, a4, a5, a6⟩
            · have := a3 q (by omega) ht
              omega
            · have := a6 q (by omega) ht
              omega) (by
    rintro st ⟨r, l, rfl, h⟩
    exact ⟨_, by simp only [Frt_cheapestFor_b9, c2_0, Option.bind_some, e0, if_pos (nI_le (Nat.le_refl _) (show pNp (pdW w 2) < 2 ^ 31 by omega))], r, l, rfl, h⟩)
  refine ⟨r, by simp only [Frt_cheapestFor, i1, Option.bind_some, Frt_cheapestFor_j74], ?_⟩
  have lt : ∀ p, p < 4 → zT (pdW w 2) p s ≠ -1 → p < pNp (pdW w 2) := fun p hp' ht => by
    apply Decidable.byContradiction
    intro hn
    exact ht (zT_out hg hp' hs (Or.inl (by omega)))
  rcases h with ⟨a1, a2, a3⟩ | ⟨p, a1, a2, a3, a4, a5, a6⟩
  · left
    exact ⟨a1, fun p hp' ht => a3 p (lt p hp' ht) ht⟩
  · right
    exact ⟨p, a1, a2, a3, by omega, fun q hq ht => by rw [← a4]; exact a6 q (lt q hq ht) ht⟩
