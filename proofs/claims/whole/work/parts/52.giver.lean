/-- what is brought so far; K: stocks; r: what sites have got -/
def flI (w W : Wd) (K r : Nat → Int) : Prop := WL W ∧ Fr w W 24 30 ∧ (∀ x s, x < 4 → s < 6 → 0 ≤ fl W x s) ∧ (∀ s, s < 6 → colZ (fl W) s = r s) ∧ (∀ p, p < 4 → 0 ≤ zA W 24 p ∧ zA W 24 p + rowZ (fl W) p = K p) ∧ ∃ π : Nat → Int, (∀ p, p < 4 → 0 ≤ π p ∧ (0 < zA W 24 p → π p = 0)) ∧ ∀ x s, x < 4 → s < 6 → 0 < fl W x s → tight (pdW w 2) π x s
def inX (g : PD) (X : Nat → Bool) (s : Nat) : Bool := (X 0 || decide (zT g 0 s = -1)) && (X 1 || decide (zT g 1 s = -1)) && (X 2 || decide (zT g 2 s = -1)) && (X 3 || decide (zT g 3 s = -1))
theorem inX_iff {g : PD} {X : Nat → Bool} {s : Nat} : inX g X s = true ↔ ∀ p, p < 4 → zT g p s ≠ -1 → X p = true := by
  unfold inX
  simp only [Bool.and_eq_true, Bool.or_eq_true, decide_eq_true_eq]
  constructor
  · rintro ⟨⟨⟨h0, h1⟩, h2⟩, h3⟩ p hp' ht
    have : p = 0 ∨ p = 1 ∨ p = 2 ∨ p = 3 := by omega
    rcases this with rfl | rfl | rfl | rfl
    · exact h0.resolve_right ht
    · exact h1.resolve_right ht
    · exact h2.resolve_right ht
    · exact h3.resolve_right ht
  · intro h
    have k : ∀ p, p < 4 → X p = true ∨ zT g p s = -1 := fun p hp' => by
      by_cases ht : zT g p s = -1
      · exact Or.inr ht
      · exact Or.inl (h p hp' ht)
    exact ⟨⟨⟨k 0 (by omega), k 1 (by omega)⟩, k 2 (by omega)⟩, k 3 (by omega)⟩
def hall (g : PD) (K N : Nat → Int) : Prop := ∀ X : Nat → Bool, rowZ (fun _ s => if inX g X s = true then N s else 0) 0 ≤ colZ (fun p _ => if X p = true then K p else 0) 0
/-- some plant with a road can be freed -/
theorem hall_use {g : PD} {K N r : Nat → Int} {f : Nat → Nat → Int} {lf : Nat → Int} {X : Nat → Bool} {s : Nat} (hh : hall g K N) (hs : s < 6) (hr : ∀ t, t < 6 → r t ≤ N t) (hrs : r s < N s) (hf : ∀ x t, x < 4 → t < 6 → 0 ≤ f x t) (hT : ∀ x t, x < 4 → t < 6 → 0 < f x t → zT g x t ≠ -1) (hc : ∀ t, t < 6 → colZ f t = r t) (hl : ∀ p, p < 4 → lf p + rowZ f p = K p) (h0 : ∀ p, p < 4 → X p = true → lf p = 0) (hX : ∀ x t, x < 4 → t < 6 → X x = true → 0 < f x t → inX g X t = true) (hsX : inX g X s = true) : False := by
  obtain ⟨φ, hφ⟩ : ∃ φ : Nat → Nat → Int, ∀ x t, φ x t = if X x = true ∧ inX g X t = true then f x t else 0 := ⟨fun x t => if X x = true ∧ inX g X t = true then f x t else 0, fun _ _ => rfl⟩
  obtain ⟨nn, hnn⟩ : ∃ nn : Nat → Int, ∀ t, nn t = if inX g X t = true then N t else 0 := ⟨fun t => if inX g X t = true then N t else 0, fun _ => rfl⟩
  obtain ⟨kk, hkk⟩ : ∃ kk : Nat → Int, ∀ x, kk x = if X x = true then K x else 0 := ⟨fun x => if X x = true then K x else 0, fun _ => rfl⟩
  obtain ⟨rr, hrr⟩ : ∃ rr : Nat → Int, ∀ t, rr t = if inX g X t = true then r t else 0 := ⟨fun t => if inX g X t = true then r t else 0, fun _ => rfl⟩
  have F : ∀ x t, x < 4 → t < 6 → ((X x = true → f x t = φ x t) ∧ (inX g X t = true → f x t = φ x t)) := by
    intro x t hx ht
    rw [hφ x t]
    constructor
    · intro h1
      by_cases h2 : inX g X t = true
      · rw [if_pos ⟨h1, h2⟩]
      · rw [if_neg (fun h => h2 h.2)]
        have a := hf x t hx ht
        by_cases h3 : 0 < f x t
        · exact absurd (hX x t hx ht h1 h3) h2
        · omega
    · intro h2
      by_cases h1 : X x = true
      · rw [if_pos ⟨h1, h2⟩]
      · rw [if_neg (fun h => h1 h.1)]
        have a := hf x t hx ht
        by_cases h3 : 0 < f x t
        · exact absurd (inX_iff.mp h2 x hx (hT x t hx ht h3)) h1
        · omega
  have R : ∀ x, x < 4 → rowZ φ x = kk x := by
    intro x hx
    rw [hkk x]
    by_cases h1 : X x = true
    · rw [if_pos h1, ← hl x hx, h0 x hx h1]
      rw [← row_congr (f := f) (g := φ) (fun t ht => (F x t hx ht).1 h1)]
      omega
    · rw [if_neg h1]
      unfold rowZ
      simp [hφ, h1]
  have C : ∀ t, t < 6 → colZ φ t = rr t := by
    intro t ht
    rw [hrr t]
    by_cases h1 : inX g X t = true
    · rw [if_pos h1, ← hc t ht]
      rw [← col_congr (f := f) (g := φ) (fun x hx => (F x t hx ht).2 h1)]
    · rw [if_neg h1]
      unfold colZ
      simp [hφ, h1]
  have H : nn 0 + nn 1 + nn 2 + nn 3 + nn 4 + nn 5 ≤ kk 0 + kk 1 + kk 2 + kk 3 := by
    have := hh X
    simp only [hnn, hkk]
    exact this
  have D : ∀ t, t < 6 → rr t ≤ nn t := by
    intro t ht
    rw [hrr, hnn]
    have := hr t ht
    split <;> omega
  have Ds : rr s < nn s := by
    rw [hrr, hnn, if_pos hsX, if_pos hsX]; exact hrs
  have r0 := R 0 (by omega)
  have r1 := R 1 (by omega)
  have r2 := R 2 (by omega)
  have r3 := R 3 (by omega)
  have c0 := C 0 (by omega)
  have c1 := C 1 (by omega)
  have c2 := C 2 (by omega)
  have c3 := C 3 (by omega)
  have c4 := C 4 (by omega)
  have c5 := C 5 (by omega)
  unfold rowZ at r0 r1 r2 r3
  unfold colZ at c0 c1 c2 c3 c4 c5
  have d0 := D 0 (by omega)
  have d1 := D 1 (by omega)
  have d2 := D 2 (by omega)
  have d3 := D 3 (by omega)
  have d4 := D 4 (by omega)
  have d5 := D 5 (by omega)
  clear R C D F hφ hnn hkk hrr hh hX hl hc hT hf hr hrs h0
  have : s = 0 ∨ s = 1 ∨ s = 2 ∨ s = 3 ∨ s = 4 ∨ s = 5 := by omega
  rcases this with rfl | rfl | rfl | rfl | rfl | rfl <;> omega
