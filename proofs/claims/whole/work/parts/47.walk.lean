/-! walks over four plants -/
def Wk (S : Nat → Prop) (c : Nat → Nat → Int) : Nat → Nat → Int → Prop
  | 0, p, x => S p ∧ x = 0
  | i + 1, p, x => Wk S c i p x ∨ ∃ q y, q < 4 ∧ Wk S c i q y ∧ c q p < 1000000 ∧ x = y + c q p
section Wk
variable {S : Nat → Prop} {c : Nat → Nat → Int}
theorem Wk_mono {i p : Nat} {x : Int} (h : Wk S c i p x) : Wk S c (i + 1) p x := Or.inl h
theorem Wk_edge {i q p : Nat} {y : Int} (h : Wk S c i q y) (hq : q < 4) (hc : c q p < 1000000) : Wk S c (i + 1) p (y + c q p) := Or.inr ⟨q, y, hq, h, hc, rfl⟩
theorem Wk_0 {p : Nat} (h : S p) : Wk S c 0 p 0 := ⟨h, rfl⟩
theorem Wk_ub (hc : ∀ q p, q < 4 → p < 4 → c q p < 1000000 → c q p ≤ 99) : ∀ (i p : Nat) (x : Int), p < 4 → Wk S c i p x → x ≤ 99 * i := by
  intro i
  induction i with
  | zero => intro p x _ h; obtain ⟨_, rfl⟩ := h; omega
  | succ i ih =>
    intro p x hp' h
    rcases h with h | ⟨q, y, hq, h, h2, rfl⟩
    · have := ih p x hp' h; omega
    · have := ih q y hq h
      have := hc q p hq hp' h2
      omega
theorem Wk_lb99 (hc : ∀ q p, q < 4 → p < 4 → c q p < 1000000 → -99 ≤ c q p) : ∀ (i p : Nat) (x : Int), p < 4 → Wk S c i p x → -99 * i ≤ x := by
  intro i
  induction i with
  | zero => intro p x _ h; obtain ⟨_, rfl⟩ := h; omega
  | succ i ih =>
    intro p x hp' h
    rcases h with h | ⟨q, y, hq, h, h2, rfl⟩
    · have := ih p x hp' h; omega
    · have := ih q y hq h
      have := hc q p hq hp' h2
      omega
theorem Wk_lb {π : Nat → Int} (hs : ∀ p, p < 4 → S p → π p ≤ 0) (hc : ∀ q p, q < 4 → p < 4 → c q p < 1000000 → π p ≤ π q + c q p) : ∀ (i p : Nat) (x : Int), p < 4 → Wk S c i p x → π p ≤ x := by
  intro i
  induction i with
  | zero => intro p x hp' h; obtain ⟨h1, rfl⟩ := h; have := hs p hp' h1; omega
  | succ i ih =>
    intro p x hp' h
    rcases h with h | ⟨q, y, hq, h, h2, rfl⟩
    · exact ih p x hp' h
    · have := ih q y hq h
      have := hc q p hq hp' h2
      omega
theorem Wk_43 {π : Nat → Int} (hc : ∀ q p, q < 4 → p < 4 → c q p < 1000000 → π p ≤ π q + c q p) {p : Nat} {x : Int} (hp' : p < 4) (h : Wk S c 4 p x) : ∃ y, y ≤ x ∧ Wk S c 3 p y := by
  rcases h with h | ⟨q3, y3, h3, k3, e3, rfl⟩
  · exact ⟨x, Int.le_refl _, h⟩
  rcases k3 with k3 | ⟨q2, y2, h2, k2, e2, rfl⟩
  · exact ⟨_, Int.le_refl _, Wk_edge k3 h3 e3⟩
  rcases k2 with k2 | ⟨q1, y1, h1, k1, e1, rfl⟩
  · exact ⟨_, Int.le_refl _, Wk_edge (Wk_edge k2 h2 e2) h3 e3⟩
  rcases k1 with k1 | ⟨q0, y0, h0, ⟨k0, rfl⟩, e0, rfl⟩
  · exact ⟨_, Int.le_refl _, Wk_edge (Wk_edge (Wk_edge k1 h1 e1) h2 e2) h3 e3⟩
  have d0 := hc q0 q1 h0 h1 e0
  have d1 := hc q1 q2 h1 h2 e1
  have d2 := hc q2 q3 h2 h3 e2
  have d3 := hc q3 p h3 hp' e3
  have w0 : Wk S c 0 q0 0 := ⟨k0, rfl⟩
  have hcase : q0 = q1 ∨ q0 = q2 ∨ q0 = q3 ∨ q0 = p ∨ q1 = q2 ∨ q1 = q3 ∨ q1 = p ∨ q2 = q3 ∨ q2 = p ∨ q3 = p := by omega
  rcases hcase with h | h | h | h | h | h | h | h | h | h <;> subst h
  · exact ⟨0 + c q0 q2 + c q2 q3 + c q3 p, by omega, Wk_edge (Wk_edge (Wk_edge w0 h0 e1) h2 e2) h3 e3⟩
  · exact ⟨0 + c q0 q3 + c q3 p, by omega, Wk_mono (Wk_edge (Wk_edge w0 h0 e2) h3 e3)⟩
  · exact ⟨0 + c q0 p, by omega, Wk_mono (Wk_mono (Wk_edge w0 h0 e3))⟩
  · exact ⟨0, by omega, Wk_mono (Wk_mono (Wk_mono w0))⟩
  · exact ⟨0 + c q0 q1 + c q1 q3 + c q3 p, by omega, Wk_edge (Wk_edge (Wk_edge w0 h0 e0) h1 e2) h3 e3⟩
  · exact ⟨0 + c q0 q1 + c q1 p, by omega, Wk_mono (Wk_edge (Wk_edge w0 h0 e0) h1 e3)⟩
  · exact ⟨0 + c q0 q1, by omega, Wk_mono (Wk_mono (Wk_edge w0 h0 e0))⟩
  · exact ⟨0 + c q0 q1 + c q1 q2 + c q2 p, by omega, Wk_edge (Wk_edge (Wk_edge w0 h0 e0) h1 e1) h2 e3⟩
  · exact ⟨0 + c q0 q1 + c q1 q2, by omega, Wk_mono (Wk_edge (Wk_edge w0 h0 e0) h1 e1)⟩
  · exact ⟨0 + c q0 q1 + c q1 q2 + c q2 q3, by omega, Wk_edge (Wk_edge (Wk_edge w0 h0 e0) h1 e1) h2 e2⟩
theorem Wk_all {π : Nat → Int} (hc : ∀ q p, q < 4 → p < 4 → c q p < 1000000 → π p ≤ π q + c q p) : ∀ (i p : Nat) (x : Int), p < 4 → Wk S c i p x → ∃ y, y ≤ x ∧ Wk S c 3 p y := by
  intro i
  induction i with
  | zero => intro p x _ h; exact ⟨x, Int.le_refl _, Wk_mono (Wk_mono (Wk_mono h))⟩
  | succ i ih =>
    intro p x hp' h
    rcases h with h | ⟨q, y, hq, h, h2, rfl⟩
    · exact ih p x hp' h
    · obtain ⟨z, h3, h4⟩ := ih q y hq h
      obtain ⟨z', h5, h6⟩ := Wk_43 hc hp' (Wk_edge h4 hq h2)
      exact ⟨z', by omega, h6⟩
end Wk
