/-! flows: rows and columns -/
def rowZ (f : Nat → Nat → Int) (p : Nat) : Int := f p 0 + f p 1 + f p 2 + f p 3 + f p 4 + f p 5
def colZ (f : Nat → Nat → Int) (s : Nat) : Int := f 0 s + f 1 s + f 2 s + f 3 s
def updZ (f : Nat → Nat → Int) (a t : Nat) (d : Int) : Nat → Nat → Int := fun x s => if x = a ∧ s = t then f x s + d else f x s
theorem row_upd {f : Nat → Nat → Int} {a t p : Nat} {d : Int} (ht : t < 6) : rowZ (updZ f a t d) p = rowZ f p + if p = a then d else 0 := by
  unfold rowZ updZ
  have : t = 0 ∨ t = 1 ∨ t = 2 ∨ t = 3 ∨ t = 4 ∨ t = 5 := by omega
  by_cases h : p = a
  · rcases this with rfl | rfl | rfl | rfl | rfl | rfl <;> simp [h] <;> omega
  · simp [h]
theorem col_upd {f : Nat → Nat → Int} {a t s : Nat} {d : Int} (ha : a < 4) : colZ (updZ f a t d) s = colZ f s + if s = t then d else 0 := by
  unfold colZ updZ
  have : a = 0 ∨ a = 1 ∨ a = 2 ∨ a = 3 := by omega
  by_cases h : s = t
  · rcases this with rfl | rfl | rfl | rfl <;> simp [h] <;> omega
  · simp [h]
theorem col_ge {f : Nat → Nat → Int} {s p : Nat} (hp' : p < 4) (h : ∀ x, x < 4 → 0 ≤ f x s) : f p s ≤ colZ f s := by
  unfold colZ
  have h0 := h 0 (by omega)
  have h1 := h 1 (by omega)
  have h2 := h 2 (by omega)
  have h3 := h 3 (by omega)
  have : p = 0 ∨ p = 1 ∨ p = 2 ∨ p = 3 := by omega
  rcases this with rfl | rfl | rfl | rfl <;> omega
def fl (w : Wd) (p s : Nat) : Int := zA w 25 (p * 6 + s)
def cnt4 (rk : Nat → Nat) (r : Nat) : Nat := (if rk 0 < r then 1 else 0) + (if rk 1 < r then 1 else 0) + (if rk 2 < r then 1 else 0) + (if rk 3 < r then 1 else 0)
theorem cnt4_lt {rk : Nat → Nat} {q r : Nat} (hq : q < 4) (h : rk q < r) : cnt4 rk (rk q) + 1 ≤ cnt4 rk r := by
  unfold cnt4
  have : q = 0 ∨ q = 1 ∨ q = 2 ∨ q = 3 := by omega
  rcases this with rfl | rfl | rfl | rfl <;> (repeat' split) <;> omega
theorem cnt4_le {rk : Nat → Nat} {q : Nat} (hq : q < 4) : cnt4 rk (rk q) ≤ 3 := by
  unfold cnt4
  have : q = 0 ∨ q = 1 ∨ q = 2 ∨ q = 3 := by omega
  rcases this with rfl | rfl | rfl | rfl <;> (repeat' split) <;> omega
/-- tight under prices -/
def tight (g : PD) (π : Nat → Int) (x s : Nat) : Prop := zT g x s ≠ -1 ∧ ∀ q, q < 4 → zT g q s ≠ -1 → π x + zT g x s ≤ π q + zT g q s
/-- who helps whom -/
def helpR (w : Wd) (δ : Nat → Int) (rk : Nat → Nat) : Prop := ∀ p, p < 4 → δ p < 1000000 → ((w.1 29).getD p 0 = -1 ∧ 0 < zA w 24 p) ∨ ∃ q t, q < 4 ∧ t < 6 ∧ (w.1 29).getD p 0 = nI q ∧ (w.1 27).getD (q * 4 + p) 0 = nI t ∧ 0 < fl w p t ∧ zT (pdW w 2) q t ≠ -1 ∧ δ p + zT (pdW w 2) p t = δ q + zT (pdW w 2) q t ∧ δ q < 1000000 ∧ rk q < rk p
theorem nI_ne_m1 {q : Nat} (hq : q < 4) : ¬ nI q = -1 := by
  have : q = 0 ∨ q = 1 ∨ q = 2 ∨ q = 3 := by omega
  rcases this with rfl | rfl | rfl | rfl <;> decide
def nx (w : Wd) (p : Nat) : Nat := ((w.1 29).getD p 0).toNatClampNeg
def nxs (w : Wd) (p : Nat) : Nat → Nat
  | 0 => p
  | j + 1 => nx w (nxs w p j)
/-- the chain from a giver: k steps, then one that has some left -/
theorem chain {w : Wd} {δ : Nat → Int} {rk : Nat → Nat} {a : Nat} (hh : helpR w δ rk) (ha : a < 4) (hd : δ a < 1000000) : ∃ k, k ≤ 3 ∧ (∀ j, j ≤ k → nxs w a j < 4 ∧ δ (nxs w a j) < 1000000) ∧ (w.1 29).getD (nxs w a k) 0 = -1 ∧ 0 < zA w 24 (nxs w a k) ∧ (∀ j, j < k → ∃ t, t < 6 ∧ (w.1 29).getD (nxs w a j) 0 = nI (nxs w a (j + 1)) ∧ (w.1 27).getD (nxs w a (j + 1) * 4 + nxs w a j) 0 = nI t ∧ 0 < fl w (nxs w a j) t ∧ zT (pdW w 2) (nxs w a (j + 1)) t ≠ -1 ∧ δ (nxs w a j) + zT (pdW w 2) (nxs w a j) t = δ (nxs w a (j + 1)) + zT (pdW w 2) (nxs w a (j + 1)) t ∧ rk (nxs w a (j + 1)) < rk (nxs w a j)) := by
  have key : ∀ n b, b < 4 → δ b < 1000000 → cnt4 rk (rk b) ≤ n → ∃ k, k ≤ n ∧ (∀ j, j ≤ k → nxs w b j < 4 ∧ δ (nxs w b j) < 1000000) ∧ (w.1 29).getD (nxs w b k) 0 = -1 ∧ 0 < zA w 24 (nxs w b k) ∧ (∀ j, j < k → ∃ t, t < 6 ∧ (w.1 29).getD (nxs w b j) 0 = nI (nxs w b (j + 1)) ∧ (w.1 27).getD (nxs w b (j + 1) * 4 + nxs w b j) 0 = nI t ∧ 0 < fl w (nxs w b j) t ∧ zT (pdW w 2) (nxs w b (j + 1)) t ≠ -1 ∧ δ (nxs w b j) + zT (pdW w 2) (nxs w b j) t = δ (nxs w b (j + 1)) + zT (pdW w 2) (nxs w b (j + 1)) t ∧ rk (nxs w b (j + 1)) < rk (nxs w b j)) := by
    intro n
    induction n with
    | zero =>
      intro b hb hdb hc
      rcases hh b hb hdb with ⟨h1, h2⟩ | ⟨q, t, h1, h2, h3, h4, h5, h6, h7, h8, h9⟩
      · exact ⟨0, Nat.le_refl _, fun j hj => by
          have : j = 0 := by omega
          subst this; exact ⟨hb, hdb⟩, h1, h2, fun j hj => absurd hj (by omega)⟩
      · have := cnt4_lt h1 h9
        omega
    | succ n ih =>
      intro b hb hdb hc
      rcases hh b hb hdb with ⟨h1, h2⟩ | ⟨q, t, h1, h2, h3, h4, h5, h6, h7, h8, h9⟩
      · exact ⟨0, Nat.zero_le _, fun j hj => by
          have : j = 0 := by omega
          subst this; exact ⟨hb, hdb⟩, h1, h2, fun j hj => absurd hj (by omega)⟩
      · have hcq := cnt4_lt h1 h9
        obtain ⟨k, k1, k2, k3, k4, k5⟩ := ih q h1 h8 (by omega)
        have eq : nx w b = q := by unfold nx; rw [h3, nI_clamp (by omega)]
        have sh : ∀ j, nxs w b (j + 1) = nxs w q j := by
          intro j
          induction j with
          | zero => exact eq
          | succ j ihj => show nx w (nxs w b (j + 1)) = nx w (nxs w q j); rw [ihj]
        refine ⟨k + 1, by omega, ?_, by rw [sh]; exact k3, by rw [sh]; exact k4, ?_⟩
        · intro j hj
          match j with
          | 0 => exact ⟨hb, hdb⟩
          | j + 1 => rw [sh]; exact k2 j (by omega)
        · intro j hj
          match j with
          | 0 =>
            rw [sh 0]
            exact ⟨t, h2, h3, h4, h5, h6, h7, h9⟩
          | j + 1 =>
            rw [sh, sh]
            exact k5 j (by omega)
  exact key 3 a ha hd (cnt4_le ha)
