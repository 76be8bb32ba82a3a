/-! no lack, by sets -/
theorem sumN_ti {f : Nat → Int32} {B : Int} : ∀ n : Nat, (∀ k, k < n → 0 ≤ (f k).toInt ∧ (f k).toInt ≤ B) → B * n < 2147483648 → 0 ≤ B → (sumN f n).toInt = sumZ (fun k => (f k).toInt) n ∧ 0 ≤ (sumN f n).toInt ∧ (sumN f n).toInt ≤ B * n := by
  intro n
  induction n with
  | zero => intro _ _ _; exact ⟨rfl, by show 0 ≤ (0 : Int32).toInt; decide, by show (0 : Int32).toInt ≤ B * 0; rw [Int.mul_zero]; decide⟩
  | succ n ih =>
    intro h hB h0
    have e : B * ((n + 1 : Nat) : Int) = B * n + B := by
      rw [Int.natCast_add, Int.mul_add]; omega
    rw [e] at hB ⊢
    obtain ⟨i1, i2, i3⟩ := ih (fun k hk => h k (by omega)) (by omega) h0
    have a := h n (by omega)
    have s : (sumN f n + f n).toInt = (sumN f n).toInt + (f n).toInt := ti_add (by omega) (by omega)
    show (sumN f n + f n).toInt = sumZ _ n + _ ∧ _ ∧ _
    refine ⟨?_, ?_, ?_⟩
    · rw [s, i1]
    · show 0 ≤ (sumN f n + f n).toInt; rw [s]; omega
    · show (sumN f n + f n).toInt ≤ _; rw [s]; omega
theorem maxN_ge {f : Nat → Int32} : ∀ n : Nat, (∀ k, k < n → (f k).toInt ≤ (maxN f n).toInt) ∧ 0 ≤ (maxN f n).toInt := by
  intro n
  induction n with
  | zero => exact ⟨fun k hk => absurd hk (by omega), by show 0 ≤ (0 : Int32).toInt; decide⟩
  | succ n ih =>
    unfold maxN
    by_cases h : maxN f n < f n
    · rw [if_pos h]
      rw [ti_lt] at h
      refine ⟨fun k hk => ?_, by omega⟩
      by_cases hkn : k = n
      · subst hkn; exact Int.le_refl _
      · have := ih.1 k (by omega); omega
    · rw [if_neg h]
      rw [ti_lt] at h
      refine ⟨fun k hk => ?_, ih.2⟩
      by_cases hkn : k = n
      · subst hkn; omega
      · exact ih.1 k (by omega)
theorem maxN_at {f : Nat → Int32} : ∀ n : Nat, maxN f n = 0 ∨ ∃ k, k < n ∧ maxN f n = f k := by
  intro n
  induction n with
  | zero => exact Or.inl rfl
  | succ n ih =>
    unfold maxN
    by_cases h : maxN f n < f n
    · rw [if_pos h]; exact Or.inr ⟨n, by omega, rfl⟩
    · rw [if_neg h]
      rcases ih with ih | ⟨k, h1, h2⟩
      · exact Or.inl ih
      · exact Or.inr ⟨k, by omega, h2⟩
theorem sumZ_congr {f h : Nat → Int} : ∀ n : Nat, (∀ k, k < n → f k = h k) → sumZ f n = sumZ h n := by
  intro n
  induction n with
  | zero => intro _; rfl
  | succ n ih => intro H; show sumZ f n + f n = sumZ h n + h n; rw [ih (fun k hk => H k (by omega)), H n (by omega)]
theorem sumZ_row {F : Nat → Int} {n : Nat} (hn : n ≤ 6) (h0 : ∀ s, s < 6 → n ≤ s → F s = 0) : sumZ F n = rowZ (fun _ s => F s) 0 := by
  have : n = 0 ∨ n = 1 ∨ n = 2 ∨ n = 3 ∨ n = 4 ∨ n = 5 ∨ n = 6 := by omega
  unfold rowZ
  rcases this with rfl | rfl | rfl | rfl | rfl | rfl | rfl <;> simp only [sumZ]
  · rw [h0 0 (by omega) (by omega), h0 1 (by omega) (by omega), h0 2 (by omega) (by omega), h0 3 (by omega) (by omega), h0 4 (by omega) (by omega), h0 5 (by omega) (by omega)]; rfl
  · rw [h0 1 (by omega) (by omega), h0 2 (by omega) (by omega), h0 3 (by omega) (by omega), h0 4 (by omega) (by omega), h0 5 (by omega) (by omega)]; omega
  · rw [h0 2 (by omega) (by omega), h0 3 (by omega) (by omega), h0 4 (by omega) (by omega), h0 5 (by omega) (by omega)]; omega
  · rw [h0 3 (by omega) (by omega), h0 4 (by omega) (by omega), h0 5 (by omega) (by omega)]; omega
  · rw [h0 4 (by omega) (by omega), h0 5 (by omega) (by omega)]; omega
  · rw [h0 5 (by omega) (by omega)]; omega
  · omega
def rdN (g : PD) (s p : Nat) : Nat := if zT g p s = -1 then 0 else 1
def mN (g : PD) (s : Nat) : Nat := rdN g s 0 + 2 * rdN g s 1 + 4 * rdN g s 2 + 8 * rdN g s 3
theorem mask_nI {g : PD} (hg : wfP g) {s : Nat} (hs : s < 6) : maskP g s = nI (mN g s) := by
  have hnp := hg.1.1.2
  have out : ∀ p, p < 4 → pNp g ≤ p → zT g p s = -1 := fun p hp' h => zT_out hg hp' hs (Or.inl h)
  have e : ∀ p, (pToll g p s = -1) = (zT g p s = -1) := fun p => propext toll_m1
  unfold maskP mN rdN
  have : pNp g = 0 ∨ pNp g = 1 ∨ pNp g = 2 ∨ pNp g = 3 ∨ pNp g = 4 := by omega
  rcases this with h | h | h | h | h <;> rw [h] at out ⊢ <;> simp only [orN, e]
  · rw [out 0 (by omega) (by omega), out 1 (by omega) (by omega), out 2 (by omega) (by omega), out 3 (by omega) (by omega)]
    rfl
  · rw [out 1 (by omega) (by omega), out 2 (by omega) (by omega), out 3 (by omega) (by omega)]
    by_cases h0 : zT g 0 s = -1 <;> simp only [h0, ↓reduceIte] <;> decide
  · rw [out 2 (by omega) (by omega), out 3 (by omega) (by omega)]
    by_cases h0 : zT g 0 s = -1 <;> by_cases h1 : zT g 1 s = -1 <;> simp only [h0, h1, ↓reduceIte] <;> decide
  · rw [out 3 (by omega) (by omega)]
    by_cases h0 : zT g 0 s = -1 <;> by_cases h1 : zT g 1 s = -1 <;> by_cases h2 : zT g 2 s = -1 <;> simp only [h0, h1, h2, ↓reduceIte] <;> decide
  · by_cases h0 : zT g 0 s = -1 <;> by_cases h1 : zT g 1 s = -1 <;> by_cases h2 : zT g 2 s = -1 <;> by_cases h3 : zT g 3 s = -1 <;> simp only [h0, h1, h2, h3, ↓reduceIte] <;> decide
theorem sub_bits : ∀ m : Fin 16, ∀ set : Fin 16, decide (nI m.1 &&& (nI set.1 ^^^ (-1)) = 0) = ((!m.1.testBit 0 || set.1.testBit 0) && (!m.1.testBit 1 || set.1.testBit 1) && (!m.1.testBit 2 || set.1.testBit 2) && (!m.1.testBit 3 || set.1.testBit 3)) := by decide +kernel
theorem mN_lt (g : PD) (s : Nat) : mN g s < 16 := by
  unfold mN rdN
  repeat' split
  all_goals omega
theorem mN_bit {g : PD} {s p : Nat} (hp' : p < 4) : (mN g s).testBit p = !decide (zT g p s = -1) := by
  unfold mN rdN
  by_cases h0 : zT g 0 s = -1 <;> by_cases h1 : zT g 1 s = -1 <;> by_cases h2 : zT g 2 s = -1 <;> by_cases h3 : zT g 3 s = -1 <;> simp only [h0, h1, h2, h3, ↓reduceIte] <;> (have : p = 0 ∨ p = 1 ∨ p = 2 ∨ p = 3 := by omega) <;> rcases this with rfl | rfl | rfl | rfl <;> simp only [h0, h1, h2, h3] <;> decide
/-- a set of plants served alone, by bits -/
theorem mask_in {g : PD} (hg : wfP g) {s set : Nat} (hs : s < 6) (hset : set < 16) : (maskP g s &&& (nI set ^^^ (-1)) = 0) ↔ inX g (fun p => set.testBit p) s = true := by
  have h := sub_bits ⟨mN g s, mN_lt g s⟩ ⟨set, hset⟩
  simp only at h
  rw [mask_nI hg hs, ← decide_eq_true_iff (p := nI (mN g s) &&& (nI set ^^^ (-1)) = 0), h]
  rw [mN_bit (by omega), mN_bit (by omega), mN_bit (by omega), mN_bit (by omega)]
  unfold inX
  by_cases h0 : zT g 0 s = -1 <;> by_cases h1 : zT g 1 s = -1 <;> by_cases h2 : zT g 2 s = -1 <;> by_cases h3 : zT g 3 s = -1 <;> simp [h0, h1, h2, h3]
theorem load_Z {g : PD} (hg : wfP g) {c set : Nat} (hc : c < 4) (hset : set < 16) : (loadP g c set).toInt = rowZ (fun _ s => if inX g (fun p => set.testBit p) s = true then zN g c s else 0) 0 ∧ 0 ≤ (loadP g c set).toInt ∧ (loadP g c set).toInt ≤ 120 := by
  have hns := hg.1.2.1.2
  have t : ∀ s, s < 6 → ((if maskP g s &&& (nI set ^^^ (-1)) = 0 then pNeed g c s else 0 : Int32)).toInt = if inX g (fun p => set.testBit p) s = true then zN g c s else 0 := by
    intro s hs
    by_cases h : maskP g s &&& (nI set ^^^ (-1)) = 0
    · rw [if_pos h, if_pos ((mask_in hg hs hset).mp h)]; rfl
    · rw [if_neg h, if_neg (fun h' => h ((mask_in hg hs hset).mpr h'))]; rfl
  have b : ∀ s, s < 6 → 0 ≤ (if inX g (fun p => set.testBit p) s = true then zN g c s else 0) ∧ (if inX g (fun p => set.testBit p) s = true then zN g c s else 0) ≤ 20 := by
    intro s hs
    have := zN_rng hg hc hs
    split <;> omega
  have out : ∀ s, s < 6 → pNs g ≤ s → (if inX g (fun p => set.testBit p) s = true then zN g c s else 0) = 0 := by
    intro s hs h
    rw [zN_out hg hc hs h]; split <;> rfl
  obtain ⟨h1, h2, h3⟩ := sumN_ti (f := fun s => if maskP g s &&& (nI set ^^^ (-1)) = 0 then pNeed g c s else 0) (B := 20) (pNs g) (fun s hs => by
    show 0 ≤ ((if maskP g s &&& (nI set ^^^ (-1)) = 0 then pNeed g c s else 0 : Int32)).toInt ∧ ((if maskP g s &&& (nI set ^^^ (-1)) = 0 then pNeed g c s else 0 : Int32)).toInt ≤ 20
    rw [t s (by omega)]; exact b s (by omega)) (by omega) (by omega)
  refine ⟨?_, h2, by unfold loadP; omega⟩
  unfold loadP
  rw [h1]
  rw [sumZ_congr (h := fun s => if inX g (fun p => set.testBit p) s = true then zN g c s else 0) (pNs g) (fun k hk => t k (by omega))]
  exact sumZ_row hns out
theorem pool_Z {g : PD} (hg : wfP g) {plan : Int32} {set : Nat} : (poolP g plan set).toInt = colZ (fun p _ => if set.testBit p = true then zK g plan p else 0) 0 ∧ 0 ≤ (poolP g plan set).toInt ∧ (poolP g plan set).toInt ≤ 240 := by
  have t : ∀ p, ((if set.testBit p = true then stockP g plan p else 0 : Int32)).toInt = if set.testBit p = true then zK g plan p else 0 := by
    intro p
    by_cases h : set.testBit p = true
    · rw [if_pos h, if_pos h]; rfl
    · rw [if_neg h, if_neg h]; rfl
  obtain ⟨h1, h2, h3⟩ := sumN_ti (f := fun p => if set.testBit p = true then stockP g plan p else 0) (B := 60) 4 (fun p hp' => by
    show 0 ≤ ((if set.testBit p = true then stockP g plan p else 0 : Int32)).toInt ∧ ((if set.testBit p = true then stockP g plan p else 0 : Int32)).toInt ≤ 60
    rw [t p]
    have := zK_eq hg (plan := plan) hp'
    split <;> omega) (by omega) (by omega)
  refine ⟨?_, h2, by unfold poolP; omega⟩
  unfold poolP
  rw [h1]
  simp only [sumZ, t, colZ]
  omega
def setN (X : Nat → Bool) : Nat := (if X 0 = true then 1 else 0) + (if X 1 = true then 2 else 0) + (if X 2 = true then 4 else 0) + (if X 3 = true then 8 else 0)
theorem setN_lt (X : Nat → Bool) : setN X < 16 := by
  unfold setN
  repeat' split
  all_goals omega
theorem setN_bit {X : Nat → Bool} {p : Nat} (hp' : p < 4) : (setN X).testBit p = X p := by
  unfold setN
  have : p = 0 ∨ p = 1 ∨ p = 2 ∨ p = 3 := by omega
  cases h0 : X 0 <;> cases h1 : X 1 <;> cases h2 : X 2 <;> cases h3 : X 3 <;> rcases this with rfl | rfl | rfl | rfl <;> simp only [h0, h1, h2, h3] <;> decide
theorem inX_congr {g : PD} {X Y : Nat → Bool} {s : Nat} (h : ∀ p, p < 4 → X p = Y p) : inX g X s = inX g Y s := by
  unfold inX; rw [h 0 (by omega), h 1 (by omega), h 2 (by omega), h 3 (by omega)]
/-- a set's load less its pool, as numbers -/
theorem lack_Z {g : PD} (hg : wfP g) {c set : Nat} {plan : Int32} (hc : c < 4) (hset : set < 16) : (loadP g c set - poolP g plan set).toInt = rowZ (fun _ s => if inX g (fun p => set.testBit p) s = true then zN g c s else 0) 0 - colZ (fun p _ => if set.testBit p = true then zK g plan p else 0) 0 := by
  have a := load_Z hg hc hset
  have b := pool_Z hg (plan := plan) (set := set)
  rw [ti_sub (by omega) (by omega), a.1, b.1]
theorem hall_of {g : PD} (hg : wfP g) {c : Nat} {plan : Int32} (hc : c < 4) (hl : lackP g c plan ≤ 0) : hall g (zK g plan) (zN g c) := by
  intro X
  have h := (maxN_ge (f := fun set => loadP g c set - poolP g plan set) 16).1 (setN X) (setN_lt X)
  rw [ti_le] at hl
  have Z : (0 : Int32).toInt = 0 := rfl
  unfold lackP at hl
  have e := lack_Z hg (plan := plan) hc (setN_lt X)
  have h' : (loadP g c (setN X) - poolP g plan (setN X)).toInt ≤ 0 := by
    have : (loadP g c (setN X) - poolP g plan (setN X)).toInt ≤ (maxN (fun set => loadP g c set - poolP g plan set) 16).toInt := h
    omega
  rw [e] at h'
  have e1 : ∀ s, inX g (fun p => (setN X).testBit p) s = inX g X s := fun s => inX_congr (fun p hp' => setN_bit hp')
  unfold rowZ colZ at h' ⊢
  simp only [e1, setN_bit (X := X) (show 0 < 4 by omega), setN_bit (X := X) (show 1 < 4 by omega), setN_bit (X := X) (show 2 < 4 by omega), setN_bit (X := X) (show 3 < 4 by omega)] at h'
  dsimp only
  omega
