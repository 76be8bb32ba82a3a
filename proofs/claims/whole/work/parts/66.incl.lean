theorem units_nI : ∀ plan : Fin 256, ∀ p : Fin 4, unitsI (nI plan.1) p.1 = nI (plan.1 / 4 ^ p.1 % 4) := by decide +kernel
theorem units_d {plan p : Nat} (h : plan < 256) (hp' : p < 4) : unitsI (nI plan) p = nI (plan / 4 ^ p % 4) := units_nI ⟨plan, h⟩ ⟨p, hp'⟩
/-- values of a cut by digits -/
theorem val_digits {g : PD} (hg : wfP g) {cut : List Int32} {a b c d : Nat} (ha : a < 4) (hb : b < 4) (hc : c < 4) (hd : d < 4) : valP g cut (nI (64 * d + 16 * c + 4 * b + a)) = baseP g cut - nI d * slopeP g cut 3 - nI c * slopeP g cut 2 - nI b * slopeP g cut 1 - nI a * slopeP g cut 0 := by
  have hn := hg.1.1.2
  have hp : 64 * d + 16 * c + 4 * b + a < 256 := by omega
  have u0 := units_d hp (show 0 < 4 by omega)
  have u1 := units_d hp (show 1 < 4 by omega)
  have u2 := units_d hp (show 2 < 4 by omega)
  have u3 := units_d hp (show 3 < 4 by omega)
  rw [show (64 * d + 16 * c + 4 * b + a) / 4 ^ 0 % 4 = a by omega] at u0
  rw [show (64 * d + 16 * c + 4 * b + a) / 4 ^ 1 % 4 = b by omega] at u1
  rw [show (64 * d + 16 * c + 4 * b + a) / 4 ^ 2 % 4 = c by omega] at u2
  rw [show (64 * d + 16 * c + 4 * b + a) / 4 ^ 3 % 4 = d by omega] at u3
  have z : ∀ p, p < 4 → pNp g ≤ p → slopeP g cut p = 0 := by
    intro p hp' h
    unfold slopeP
    rw [(hg.2.2.2.2.1 p h hp').2.1, Int32.zero_mul]
  unfold valP
  have : pNp g = 0 ∨ pNp g = 1 ∨ pNp g = 2 ∨ pNp g = 3 ∨ pNp g = 4 := by omega
  rcases this with h | h | h | h | h <;> rw [h] at z ⊢ <;> simp only [sumN, u0, u1, u2, u3]
  · rw [z 0 (by omega) (by omega), z 1 (by omega) (by omega), z 2 (by omega) (by omega), z 3 (by omega) (by omega)]; grind
  · rw [z 1 (by omega) (by omega), z 2 (by omega) (by omega), z 3 (by omega) (by omega)]; grind
  · rw [z 2 (by omega) (by omega), z 3 (by omega) (by omega)]; grind
  · rw [z 3 (by omega) (by omega)]; grind
  · grind
def incI (w W : Wd) (g : PD) (cs : List (List Int32)) (cut : List Int32) (n : Nat) : Prop := WL W ∧ Fr w W 34 36 ∧ ∀ plan, plan < 256 → isPlanP g (nI plan) = true → (W.1 35).getD plan 0 = b2i (barP g (if plan < n then cs ++ [cut] else cs) (nI plan)) ∧ ∀ c, c < 4 → (W.1 34).getD (c * 256 + plan) 0 = rchP g (if plan < n then cs ++ [cut] else cs) c (nI plan)
theorem incI.jump {w W : Wd} {g : PD} {cs : List (List Int32)} {cut : List Int32} {n m : Nat} (h : incI w W g cs cut n) (hj : ∀ plan, plan < 256 → isPlanP g (nI plan) = true → (plan < n ↔ plan < m)) : incI w W g cs cut m := by
  refine ⟨h.1, h.2.1, fun plan hp' hv => ?_⟩
  have a := h.2.2 plan hp' hv
  have b := hj plan hp' hv
  by_cases hn : plan < n
  · rw [if_pos hn] at a
    rw [if_pos (b.mp hn)]; exact a
  · rw [if_neg hn] at a
    rw [if_neg (fun h' => hn (b.mpr h'))]; exact a
theorem plan_digit {g : PD} {plan p : Nat} (h : plan < 256) (hv : isPlanP g (nI plan) = true) (hp' : p < 4) : nI (plan / 4 ^ p % 4) ≤ pMost g p := by
  unfold isPlanP at hv
  rw [Bool.and_eq_true, List.all_eq_true] at hv
  have := hv.2 p (List.mem_range.mpr hp')
  rw [← units_d h hp']
  simpa using this
