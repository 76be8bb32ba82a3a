/-! prices that rise -/
def upX (u : Nat → Int) (X : Nat → Bool) (j : Int) : Nat → Int := fun p => u p + if X p = true then j else 0
def near (g : PD) (u : Nat → Int) (s p : Nat) : Prop := zT g p s ≠ -1 ∧ u p + zT g p s = vZ g u s
theorem vZ_le {g : PD} {u : Nat → Int} {s p : Nat} (hp' : p < 4) (hT : zT g p s ≠ -1) : vZ g u s ≤ u p + zT g p s := by
  rcases vZ_spec g u s with ⟨k, _⟩ | ⟨_, k⟩
  · exact absurd (k p hp') hT
  · exact k p hp' hT
theorem vZ_at {g : PD} {u : Nat → Int} {s q : Nat} (hq : q < 4) (hT : zT g q s ≠ -1) : ∃ p, p < 4 ∧ near g u s p := by
  rcases vZ_spec g u s with ⟨k, _⟩ | ⟨⟨p, k1, k2, k3⟩, _⟩
  · exact absurd (k q hq) hT
  · exact ⟨p, k1, k2, k3.symm⟩
theorem vZ_congr {g : PD} {u w : Nat → Int} {s : Nat} (h : ∀ p, p < 4 → u p = w p) : vZ g u s = vZ g w s := by
  rcases vZ_spec g w s with ⟨k, e⟩ | ⟨⟨p, k1, k2, k3⟩, k4⟩
  · rw [e, vZ_no k]
  · exact vZ_of ⟨⟨p, k1, k2, by rw [h p k1]; exact k3⟩, fun q hq hT => by rw [h q hq]; exact k4 q hq hT⟩
/-- meet and join -/
theorem vZ_lat {g : PD} {a b m j : Nat → Int} {s : Nat} (h : ∀ p, p < 4 → (m p = a p ∧ j p = b p ∧ a p ≤ b p) ∨ (m p = b p ∧ j p = a p ∧ b p ≤ a p)) : vZ g a s + vZ g b s ≤ vZ g m s + vZ g j s := by
  by_cases hr : ∀ p, p < 4 → zT g p s = -1
  · rw [vZ_no hr, vZ_no hr, vZ_no hr, vZ_no hr]; omega
  · have : ∃ q, q < 4 ∧ zT g q s ≠ -1 := by
      apply Decidable.byContradiction
      intro hn
      exact hr (fun p hp' => Decidable.byContradiction (fun hT => hn ⟨p, hp', hT⟩))
    obtain ⟨q, hq, hT⟩ := this
    obtain ⟨p, p1, p2, p3⟩ := vZ_at (u := m) hq hT
    obtain ⟨r, r1, r2, r3⟩ := vZ_at (u := j) hq hT
    have a1 := vZ_le (u := a) p1 p2
    have a2 := vZ_le (u := b) p1 p2
    have a3 := vZ_le (u := a) r1 r2
    have a4 := vZ_le (u := b) r1 r2
    have h1 := h p p1
    have h2 := h r r1
    omega
theorem D_lat {g : PD} {K N a b m j : Nat → Int} (hN : ∀ s, s < 6 → 0 ≤ N s) (h : ∀ p, p < 4 → (m p = a p ∧ j p = b p ∧ a p ≤ b p) ∨ (m p = b p ∧ j p = a p ∧ b p ≤ a p)) : DZ g K N a + DZ g K N b ≤ DZ g K N m + DZ g K N j := by
  have e : ∀ s, s < 6 → N s * vZ g a s + N s * vZ g b s ≤ N s * vZ g m s + N s * vZ g j s := by
    intro s hs
    rw [← Int.mul_add, ← Int.mul_add]
    exact Int.mul_le_mul_of_nonneg_left (vZ_lat h) (hN s hs)
  have k : ∀ p, p < 4 → K p * a p + K p * b p = K p * m p + K p * j p := by
    intro p hp'
    rcases h p hp' with ⟨h1, h2, _⟩ | ⟨h1, h2, _⟩ <;> rw [h1, h2]
    exact Int.add_comm _ _
  have e0 := e 0 (by omega)
  have e1 := e 1 (by omega)
  have e2 := e 2 (by omega)
  have e3 := e 3 (by omega)
  have e4 := e 4 (by omega)
  have e5 := e 5 (by omega)
  have k0 := k 0 (by omega)
  have k1 := k 1 (by omega)
  have k2 := k 2 (by omega)
  have k3 := k 3 (by omega)
  unfold DZ rowZ colZ
  dsimp only
  omega
/-- the other law: those furthest behind come one step nearer -/
theorem vZ_step {g : PD} {u w : Nat → Int} {X : Nat → Bool} {c : Int} {s : Nat} (hX : ∀ p, p < 4 → (X p = true ↔ w p - u p = c)) (hc : ∀ p, p < 4 → w p - u p ≤ c) : vZ g u s + vZ g w s ≤ vZ g (upX u X 1) s + vZ g (upX w X (-1)) s := by
  by_cases hr : ∀ p, p < 4 → zT g p s = -1
  · rw [vZ_no hr, vZ_no hr, vZ_no hr, vZ_no hr]; omega
  · have : ∃ q, q < 4 ∧ zT g q s ≠ -1 := by
      apply Decidable.byContradiction
      intro hn
      exact hr (fun p hp' => Decidable.byContradiction (fun hT => hn ⟨p, hp', hT⟩))
    obtain ⟨q, hq, hT⟩ := this
    obtain ⟨p, p1, p2, p3⟩ := vZ_at (u := upX u X 1) hq hT
    obtain ⟨r, r1, r2, r3⟩ := vZ_at (u := upX w X (-1)) hq hT
    have a1 := vZ_le (u := u) p1 p2
    have a2 := vZ_le (u := w) p1 p2
    have a3 := vZ_le (u := u) r1 r2
    have a4 := vZ_le (u := w) r1 r2
    have h1 := hX p p1
    have h2 := hX r r1
    have c1 := hc p p1
    have c2 := hc r r1
    have ep : upX u X 1 p = u p + if X p = true then 1 else 0 := rfl
    have er : upX w X (-1) r = w r + if X r = true then -1 else 0 := rfl
    rw [ep] at p3
    rw [er] at r3
    by_cases x1 : X p = true
    · rw [if_pos x1] at p3
      split at r3 <;> omega
    · rw [if_neg x1] at p3
      have n1 : ¬ w p - u p = c := fun h => x1 (h1.mpr h)
      by_cases x2 : X r = true
      · rw [if_pos x2] at r3
        have := h2.mp x2
        omega
      · rw [if_neg x2] at r3
        omega
theorem D_step {g : PD} {K N u w : Nat → Int} {X : Nat → Bool} {c : Int} (hN : ∀ s, s < 6 → 0 ≤ N s) (hX : ∀ p, p < 4 → (X p = true ↔ w p - u p = c)) (hc : ∀ p, p < 4 → w p - u p ≤ c) : DZ g K N u + DZ g K N w ≤ DZ g K N (upX u X 1) + DZ g K N (upX w X (-1)) := by
  have e : ∀ s, s < 6 → N s * vZ g u s + N s * vZ g w s ≤ N s * vZ g (upX u X 1) s + N s * vZ g (upX w X (-1)) s := by
    intro s hs
    rw [← Int.mul_add, ← Int.mul_add]
    exact Int.mul_le_mul_of_nonneg_left (vZ_step hX hc) (hN s hs)
  have k : ∀ p, K p * u p + K p * w p = K p * upX u X 1 p + K p * upX w X (-1) p := by
    intro p
    rw [← Int.mul_add, ← Int.mul_add]
    congr 1
    unfold upX
    split <;> omega
  have e0 := e 0 (by omega)
  have e1 := e 1 (by omega)
  have e2 := e 2 (by omega)
  have e3 := e 3 (by omega)
  have e4 := e 4 (by omega)
  have e5 := e 5 (by omega)
  have k0 := k 0
  have k1 := k 1
  have k2 := k 2
  have k3 := k 3
  unfold DZ rowZ colZ
  dsimp only
  omega
theorem D_congr {g : PD} {K N u w : Nat → Int} (h : ∀ p, p < 4 → u p = w p) : DZ g K N u = DZ g K N w := by
  unfold DZ rowZ colZ
  simp only [vZ_congr h, h 0 (by omega), h 1 (by omega), h 2 (by omega), h 3 (by omega)]
/-- the least plants of which most more is asked than they have -/
def isScarce (g : PD) (K N u : Nat → Int) (X : Nat → Bool) : Prop := ((∀ p, p < 4 → X p = false) ∧ ∀ Y : Nat → Bool, DZ g K N (upX u Y 1) ≤ DZ g K N u) ∨ (DZ g K N u < DZ g K N (upX u X 1) ∧ ∀ Y : Nat → Bool, DZ g K N (upX u Y 1) ≤ DZ g K N (upX u X 1) ∧ (DZ g K N (upX u Y 1) = DZ g K N (upX u X 1) → ∀ p, p < 4 → X p = true → Y p = true))
theorem scarce_up {g : PD} {K N u w : Nat → Int} {X : Nat → Bool} (hN : ∀ s, s < 6 → 0 ≤ N s) (hw : LM g K N w) (hu : ∀ p, p < 4 → u p ≤ w p) (hS : isScarce g K N u X) : ∀ p, p < 4 → upX u X 1 p ≤ w p := by
  rcases hS with ⟨h1, _⟩ | ⟨h1, h2⟩
  · intro p hp'
    unfold upX
    rw [h1 p hp', if_neg (by decide)]
    have := hu p hp'
    omega
  · intro p hp'
    apply Decidable.byContradiction
    intro hn
    have hXp : X p = true := by
      apply Decidable.byContradiction
      intro hx
      unfold upX at hn
      rw [if_neg hx] at hn
      have := hu p hp'
      omega
    have hpw : u p = w p := by
      unfold upX at hn
      rw [if_pos hXp] at hn
      have := hu p hp'
      omega
    -- Y: those of X that lie below w
    obtain ⟨Y, hY⟩ : ∃ Y : Nat → Bool, ∀ q, Y q = (X q && decide (u q < w q)) := ⟨fun q => X q && decide (u q < w q), fun _ => rfl⟩
    obtain ⟨j, hj⟩ : ∃ j : Nat → Int, ∀ q, j q = if w q < upX u X 1 q then upX u X 1 q else w q := ⟨fun q => if w q < upX u X 1 q then upX u X 1 q else w q, fun _ => rfl⟩
    have hlat := D_lat (g := g) (K := K) (N := N) (a := upX u X 1) (b := w) (m := upX u Y 1) (j := j) hN (by
      intro q hq
      have a := hu q hq
      rw [hj q]
      unfold upX
      rw [hY q]
      by_cases x : X q = true
      · by_cases y : u q < w q
        · simp only [x, y, decide_true, Bool.and_self, ↓reduceIte]
          rw [if_neg (by omega)]
          left
          exact ⟨trivial, rfl, by omega⟩
        · simp only [x, y, decide_false, Bool.and_false, ↓reduceIte, Bool.false_eq_true]
          rw [if_pos (by omega)]
          right
          exact ⟨by omega, rfl, by omega⟩
      · have x' : X q = false := by simpa using x
        simp only [x', Bool.false_and, Bool.false_eq_true, ↓reduceIte]
        rw [if_neg (by omega)]
        left
        exact ⟨trivial, rfl, by omega⟩)
    have hj0 : ∀ q, q < 4 → 0 ≤ j q := by
      intro q hq
      have := hw.1 q hq
      rw [hj q]
      split <;> omega
    have hjm := (hw.2 j hj0).1
    have h3 := h2 Y
    have h4 := h3.2 (by omega) p hp' hXp
    rw [hY p, hpw] at h4
    simp at h4
theorem scarce_end {g : PD} {K N u w : Nat → Int} (hN : ∀ s, s < 6 → 0 ≤ N s) (hw : LM g K N w) (h0 : ∀ p, p < 4 → 0 ≤ u p) (hu : ∀ p, p < 4 → u p ≤ w p) (hS : ∀ Y : Nat → Bool, DZ g K N (upX u Y 1) ≤ DZ g K N u) : ∀ p, p < 4 → u p = w p := by
  intro p hp'
  apply Decidable.byContradiction
  intro hne
  -- the greatest distance
  obtain ⟨c, hc1, q, hq, hc2⟩ : ∃ c : Int, (∀ x, x < 4 → w x - u x ≤ c) ∧ ∃ q, q < 4 ∧ w q - u q = c := by
    obtain ⟨m01, a1, a2, a3⟩ : ∃ m : Int, (w 0 - u 0 ≤ m) ∧ (w 1 - u 1 ≤ m) ∧ (m = w 0 - u 0 ∨ m = w 1 - u 1) := by
      by_cases h : w 0 - u 0 ≤ w 1 - u 1
      · exact ⟨w 1 - u 1, h, Int.le_refl _, Or.inr rfl⟩
      · exact ⟨w 0 - u 0, Int.le_refl _, by omega, Or.inl rfl⟩
    obtain ⟨m23, b1, b2, b3⟩ : ∃ m : Int, (w 2 - u 2 ≤ m) ∧ (w 3 - u 3 ≤ m) ∧ (m = w 2 - u 2 ∨ m = w 3 - u 3) := by
      by_cases h : w 2 - u 2 ≤ w 3 - u 3
      · exact ⟨w 3 - u 3, h, Int.le_refl _, Or.inr rfl⟩
      · exact ⟨w 2 - u 2, Int.le_refl _, by omega, Or.inl rfl⟩
    have four : ∀ m : Int, m01 ≤ m → m23 ≤ m → ∀ x, x < 4 → w x - u x ≤ m := by
      intro m h1 h2 x hx
      have : x = 0 ∨ x = 1 ∨ x = 2 ∨ x = 3 := by omega
      rcases this with rfl | rfl | rfl | rfl <;> omega
    by_cases h : m01 ≤ m23
    · refine ⟨m23, four m23 h (Int.le_refl _), ?_⟩
      rcases b3 with b3 | b3
      · exact ⟨2, by omega, b3.symm⟩
      · exact ⟨3, by omega, b3.symm⟩
    · refine ⟨m01, four m01 (Int.le_refl _) (by omega), ?_⟩
      rcases a3 with a3 | a3
      · exact ⟨0, by omega, a3.symm⟩
      · exact ⟨1, by omega, a3.symm⟩
  have hcp : 0 < c := by
    have := hc1 p hp'
    have := hu p hp'
    omega
  obtain ⟨X, hX⟩ : ∃ X : Nat → Bool, ∀ x, X x = decide (w x - u x = c) := ⟨fun x => decide (w x - u x = c), fun _ => rfl⟩
  have hXi : ∀ x, x < 4 → (X x = true ↔ w x - u x = c) := fun x _ => by rw [hX x]; simp
  have hst := D_step (g := g) (K := K) (N := N) hN hXi hc1
  have hS' := hS X
  have hw0 : ∀ x, x < 4 → 0 ≤ upX w X (-1) x := by
    intro x hx
    have a := h0 x hx
    have b := hw.1 x hx
    unfold upX
    by_cases hx' : X x = true
    · rw [if_pos hx']
      have := (hXi x hx).mp hx'
      omega
    · rw [if_neg hx']; omega
  have hm := hw.2 _ hw0
  have := hm.2 (by omega) q hq
  unfold upX at this
  rw [if_pos ((hXi q hq).mpr hc2)] at this
  omega
