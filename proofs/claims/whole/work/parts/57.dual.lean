/-! prices and what is brought -/
def DZ (g : PD) (K N : Nat → Int) (u : Nat → Int) : Int := rowZ (fun _ s => N s * vZ g u s) 0 - colZ (fun p _ => K p * u p) 0
def sig (g : PD) (f : Nat → Nat → Int) (w : Nat → Int) (p s : Nat) : Int := f p s * w p + f p s * zT g p s - f p s * vZ g w s
theorem slack {g : PD} {K N lf w : Nat → Int} {f : Nat → Nat → Int} (hc : ∀ s, s < 6 → colZ f s = N s) (hl : ∀ p, p < 4 → lf p + rowZ f p = K p) : costZ g f = DZ g K N w + colZ (fun p _ => rowZ (sig g f w) p) 0 + colZ (fun p _ => lf p * w p) 0 := by
  have n0 := hc 0 (by omega)
  have n1 := hc 1 (by omega)
  have n2 := hc 2 (by omega)
  have n3 := hc 3 (by omega)
  have n4 := hc 4 (by omega)
  have n5 := hc 5 (by omega)
  have k0 := hl 0 (by omega)
  have k1 := hl 1 (by omega)
  have k2 := hl 2 (by omega)
  have k3 := hl 3 (by omega)
  unfold costZ DZ colZ rowZ sig
  simp only [← n0, ← n1, ← n2, ← n3, ← n4, ← n5, ← k0, ← k1, ← k2, ← k3, colZ, rowZ, Int.add_mul]
  omega
theorem sig_nn {g : PD} {f : Nat → Nat → Int} {w : Nat → Int} {p s : Nat} (hp' : p < 4) (hf : 0 ≤ f p s) (hT : 0 < f p s → zT g p s ≠ -1) : 0 ≤ sig g f w p s := by
  unfold sig
  rw [← Int.mul_add, ← Int.mul_sub]
  by_cases h : 0 < f p s
  · rcases vZ_spec g w s with ⟨k, _⟩ | ⟨_, k⟩
    · exact absurd (k p hp') (hT h)
    · have := k p hp' (hT h)
      exact Int.mul_nonneg hf (by omega)
  · have : f p s = 0 := by omega
    rw [this]; omega
theorem sig_0 {g : PD} {f : Nat → Nat → Int} {w : Nat → Int} {p s : Nat} (hp' : p < 4) (hf : 0 ≤ f p s) (ht : 0 < f p s → tight g w p s) : sig g f w p s = 0 := by
  unfold sig
  rw [← Int.mul_add, ← Int.mul_sub]
  by_cases h : 0 < f p s
  · obtain ⟨h1, h2⟩ := ht h
    rw [vZ_of (g := g) (u := w) (s := s) (m := w p + zT g p s) ⟨⟨p, hp', h1, rfl⟩, h2⟩]
    have : w p + zT g p s - (w p + zT g p s) = 0 := by omega
    rw [this, Int.mul_zero]
  · have : f p s = 0 := by omega
    rw [this]; omega
theorem sig_tight {g : PD} {f : Nat → Nat → Int} {w : Nat → Int} {p s : Nat} (hp' : p < 4) (hT : zT g p s ≠ -1) (hf : 0 < f p s) (h0 : sig g f w p s = 0) : tight g w p s := by
  unfold sig at h0
  rw [← Int.mul_add, ← Int.mul_sub] at h0
  have h1 : w p + zT g p s - vZ g w s = 0 := by
    rcases Int.mul_eq_zero.mp h0 with h | h
    · omega
    · exact h
  refine ⟨hT, fun q hq hTq => ?_⟩
  rcases vZ_spec g w s with ⟨k, _⟩ | ⟨_, k⟩
  · exact absurd (k p hp') hT
  · have := k q hq hTq
    omega
theorem col4_nn {f : Nat → Nat → Int} {s : Nat} (h : ∀ p, p < 4 → 0 ≤ f p s) : 0 ≤ colZ f s := by
  unfold colZ
  have h0 := h 0 (by omega)
  have h1 := h 1 (by omega)
  have h2 := h 2 (by omega)
  have h3 := h 3 (by omega)
  omega
theorem row6_nn {f : Nat → Nat → Int} {p : Nat} (h : ∀ s, s < 6 → 0 ≤ f p s) : 0 ≤ rowZ f p := by
  unfold rowZ
  have h0 := h 0 (by omega)
  have h1 := h 1 (by omega)
  have h2 := h 2 (by omega)
  have h3 := h 3 (by omega)
  have h4 := h 4 (by omega)
  have h5 := h 5 (by omega)
  omega
theorem row_ge {f : Nat → Nat → Int} {p s : Nat} (hs : s < 6) (h : ∀ s, s < 6 → 0 ≤ f p s) : f p s ≤ rowZ f p := by
  unfold rowZ
  have h0 := h 0 (by omega)
  have h1 := h 1 (by omega)
  have h2 := h 2 (by omega)
  have h3 := h 3 (by omega)
  have h4 := h 4 (by omega)
  have h5 := h 5 (by omega)
  have : s = 0 ∨ s = 1 ∨ s = 2 ∨ s = 3 ∨ s = 4 ∨ s = 5 := by omega
  rcases this with rfl | rfl | rfl | rfl | rfl | rfl <;> omega
/-- the least prices that tell most -/
def LM (g : PD) (K N u : Nat → Int) : Prop := (∀ p, p < 4 → 0 ≤ u p) ∧ ∀ w : Nat → Int, (∀ p, p < 4 → 0 ≤ w p) → DZ g K N w ≤ DZ g K N u ∧ (DZ g K N w = DZ g K N u → ∀ p, p < 4 → u p ≤ w p)
theorem dual_LM {g : PD} {K N lf u : Nat → Int} {f : Nat → Nat → Int} (hf : ∀ x s, x < 4 → s < 6 → 0 ≤ f x s) (hc : ∀ s, s < 6 → colZ f s = N s) (hl : ∀ p, p < 4 → 0 ≤ lf p ∧ lf p + rowZ f p = K p) (hu : ∀ p, p < 4 → 0 ≤ u p ∧ (0 < lf p → u p = 0)) (ht : ∀ x s, x < 4 → s < 6 → 0 < f x s → tight g u x s) (hmin : ∀ π' : Nat → Int, (∀ p, p < 4 → 0 ≤ π' p) → (∀ x s, x < 4 → s < 6 → 0 < f x s → tight g π' x s) → ∀ p, p < 4 → u p ≤ π' p) : costZ g f = DZ g K N u ∧ LM g K N u := by
  have hT : ∀ x s, x < 4 → s < 6 → 0 < f x s → zT g x s ≠ -1 := fun x s hx hs h => (ht x s hx hs h).1
  have hl2 : ∀ p, p < 4 → lf p + rowZ f p = K p := fun p hp' => (hl p hp').2
  have ea : costZ g f = DZ g K N u := by
    have s0 : ∀ p s, p < 4 → s < 6 → sig g f u p s = 0 := fun p s hp' hs => sig_0 hp' (hf p s hp' hs) (ht p s hp' hs)
    have l0 : ∀ p, p < 4 → lf p * u p = 0 := by
      intro p hp'
      by_cases h : 0 < lf p
      · rw [(hu p hp').2 h, Int.mul_zero]
      · have := (hl p hp').1
        have : lf p = 0 := by omega
        rw [this, Int.zero_mul]
    have r0 : ∀ p, p < 4 → rowZ (sig g f u) p = 0 := by
      intro p hp'
      unfold rowZ
      rw [s0 p 0 hp' (by omega), s0 p 1 hp' (by omega), s0 p 2 hp' (by omega), s0 p 3 hp' (by omega), s0 p 4 hp' (by omega), s0 p 5 hp' (by omega)]
      rfl
    rw [slack (w := u) hc hl2]
    unfold colZ
    simp only [r0 0 (by omega), r0 1 (by omega), r0 2 (by omega), r0 3 (by omega), l0 0 (by omega), l0 1 (by omega), l0 2 (by omega), l0 3 (by omega)]
    omega
  refine ⟨ea, fun p hp' => (hu p hp').1, fun w hw => ?_⟩
  have sn : ∀ p s, p < 4 → s < 6 → 0 ≤ sig g f w p s := fun p s hp' hs => sig_nn hp' (hf p s hp' hs) (hT p s hp' hs)
  have rn : ∀ p, p < 4 → 0 ≤ rowZ (sig g f w) p := fun p hp' => row6_nn (fun s hs => sn p s hp' hs)
  have ln : ∀ p, p < 4 → 0 ≤ lf p * w p := fun p hp' => Int.mul_nonneg (hl p hp').1 (hw p hp')
  have e := slack (g := g) (w := w) hc hl2
  have c1 : 0 ≤ colZ (fun p _ => rowZ (sig g f w) p) 0 := col4_nn (f := fun p _ => rowZ (sig g f w) p) (fun p hp' => rn p hp')
  have c2 : 0 ≤ colZ (fun p _ => lf p * w p) 0 := col4_nn (f := fun p _ => lf p * w p) (fun p hp' => ln p hp')
  refine ⟨by omega, fun heq => hmin w hw ?_⟩
  intro x s hx hs hfx
  refine sig_tight hx (hT x s hx hs hfx) hfx ?_
  have a := row_ge (f := sig g f w) (p := x) hs (fun s hs => sn x s hx hs)
  have b := col_ge (f := fun p _ => rowZ (sig g f w) p) (s := 0) hx (fun p hp' => rn p hp')
  have b' : rowZ (sig g f w) x ≤ colZ (fun p _ => rowZ (sig g f w) p) 0 := b
  have d := sn x s hx hs
  omega
