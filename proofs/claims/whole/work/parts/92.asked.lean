/-! what is asked of plants more than they have -/
def nrIn (g : PD) (u : Nat → Int) (s : Nat) (Y : Nat → Bool) : Bool := (!nrB g u s 0 || Y 0) && (!nrB g u s 1 || Y 1) && (!nrB g u s 2 || Y 2) && (!nrB g u s 3 || Y 3)
theorem nrIn_iff {g : PD} {u : Nat → Int} {s : Nat} {Y : Nat → Bool} : nrIn g u s Y = true ↔ ∀ p, p < 4 → nrB g u s p = true → Y p = true := by
  unfold nrIn
  constructor
  · intro h p hp' hn
    simp only [Bool.and_eq_true, Bool.or_eq_true, Bool.not_eq_true'] at h
    have : p = 0 ∨ p = 1 ∨ p = 2 ∨ p = 3 := by omega
    rcases this with rfl | rfl | rfl | rfl
    · rcases h.1.1.1 with h | h
      · rw [h] at hn; exact absurd hn (by decide)
      · exact h
    · rcases h.1.1.2 with h | h
      · rw [h] at hn; exact absurd hn (by decide)
      · exact h
    · rcases h.1.2 with h | h
      · rw [h] at hn; exact absurd hn (by decide)
      · exact h
    · rcases h.2 with h | h
      · rw [h] at hn; exact absurd hn (by decide)
      · exact h
  · intro h
    have f : ∀ p, p < 4 → (!nrB g u s p || Y p) = true := fun p hp' => by
      cases hb : nrB g u s p
      · rfl
      · rw [h p hp' hb]; rfl
    rw [f 0 (by omega), f 1 (by omega), f 2 (by omega), f 3 (by omega)]; rfl
theorem nrB_iff {g : PD} {u : Nat → Int} {s p : Nat} : nrB g u s p = true ↔ near g u s p := by
  unfold nrB near
  rw [decide_eq_true_iff]
/-- one up: a site's rate goes up if all its nearest plants do -/
theorem vZ_up1 {g : PD} {u : Nat → Int} {s : Nat} {Y : Nat → Bool} (hr : ∃ q, q < 4 ∧ zT g q s ≠ -1) : vZ g (upX u Y 1) s = vZ g u s + if nrIn g u s Y = true then 1 else 0 := by
  obtain ⟨q, hq, hT⟩ := hr
  obtain ⟨p, hp', hn⟩ := vZ_at (u := u) hq hT
  have lo : ∀ t, t < 4 → zT g t s ≠ -1 → vZ g u s ≤ u t + zT g t s := fun t ht hTt => vZ_le ht hTt
  apply vZ_of
  by_cases hin : nrIn g u s Y = true
  · rw [if_pos hin]
    have hi := nrIn_iff.mp hin
    refine ⟨⟨p, hp', hn.1, ?_⟩, fun t ht hTt => ?_⟩
    · unfold upX
      rw [if_pos (hi p hp' (nrB_iff.mpr hn))]
      have := hn.2
      omega
    · unfold upX
      have h1 := lo t ht hTt
      by_cases hY : Y t = true
      · rw [if_pos hY]; omega
      · rw [if_neg hY]
        have : u t + zT g t s ≠ vZ g u s := fun h => hY (hi t ht (nrB_iff.mpr ⟨hTt, h⟩))
        omega
  · rw [if_neg hin]
    have : ∃ t, t < 4 ∧ nrB g u s t = true ∧ Y t = false := by
      apply Classical.byContradiction
      intro h
      apply hin
      rw [nrIn_iff]
      intro t ht hb
      cases hY : Y t
      · exact absurd ⟨t, ht, hb, hY⟩ h
      · rfl
    obtain ⟨t, ht, hb, hY⟩ := this
    have hnt := nrB_iff.mp hb
    refine ⟨⟨t, ht, hnt.1, ?_⟩, fun t' ht' hTt => ?_⟩
    · unfold upX
      rw [hY, if_neg (by decide)]
      have := hnt.2
      omega
    · unfold upX
      have h1 := lo t' ht' hTt
      split <;> omega
def askZ (g : PD) (K N u : Nat → Int) (Y : Nat → Bool) : Int := rowZ (fun _ s => if nrIn g u s Y = true then N s else 0) 0 - colZ (fun p _ => if Y p = true then K p else 0) 0
theorem D_up1 {g : PD} {K N u : Nat → Int} {Y : Nat → Bool} (hN : ∀ s, s < 6 → N s ≠ 0 → ∃ q, q < 4 ∧ zT g q s ≠ -1) : DZ g K N (upX u Y 1) = DZ g K N u + askZ g K N u Y := by
  have h1 : rowZ (fun _ s => N s * vZ g (upX u Y 1) s) 0 = rowZ (fun _ s => N s * vZ g u s + if nrIn g u s Y = true then N s else 0) 0 := by
    refine row_congr (fun s hs => ?_)
    show N s * vZ g (upX u Y 1) s = N s * vZ g u s + if nrIn g u s Y = true then N s else 0
    by_cases h0 : N s = 0
    · rw [h0, Int.zero_mul, Int.zero_mul, ite_self]; rfl
    · rw [vZ_up1 (hN s hs h0), Int.mul_add]
      split <;> omega
  have h2 : colZ (fun p _ => K p * upX u Y 1 p) 0 = colZ (fun p _ => K p * u p + if Y p = true then K p else 0) 0 := by
    refine col_congr (fun p hp' => ?_)
    show K p * (u p + if Y p = true then 1 else 0) = K p * u p + if Y p = true then K p else 0
    rw [Int.mul_add]
    split <;> omega
  unfold DZ askZ
  rw [h1, h2]
  simp only [rowZ, colZ]
  omega
theorem ask_congr {g : PD} {K N u u' : Nat → Int} {Y : Nat → Bool} (h : ∀ s, s < 6 → N s ≠ 0 → ∀ p, p < 4 → nrB g u' s p = nrB g u s p) : askZ g K N u' Y = askZ g K N u Y := by
  have : rowZ (fun _ s => if nrIn g u' s Y = true then N s else 0) 0 = rowZ (fun _ s => if nrIn g u s Y = true then N s else 0) 0 := by
    refine row_congr (fun s hs => ?_)
    show (if nrIn g u' s Y = true then N s else 0) = if nrIn g u s Y = true then N s else 0
    by_cases h0 : N s = 0
    · rw [h0, ite_self, ite_self]
    · have : nrIn g u' s Y = nrIn g u s Y := by
        unfold nrIn
        rw [h s hs h0 0 (by omega), h s hs h0 1 (by omega), h s hs h0 2 (by omega), h s hs h0 3 (by omega)]
      rw [this]
  unfold askZ
  rw [this]
/-- a set that is scarce by what is asked -/
def isSc (g : PD) (K N u : Nat → Int) (X : Nat → Bool) : Prop := ((∀ p, p < 4 → X p = false) ∧ ∀ Y : Nat → Bool, askZ g K N u Y ≤ 0) ∨ (0 < askZ g K N u X ∧ ∀ Y : Nat → Bool, askZ g K N u Y ≤ askZ g K N u X ∧ (askZ g K N u Y = askZ g K N u X → ∀ p, p < 4 → X p = true → Y p = true))
theorem sc_of {g : PD} {K N u : Nat → Int} {X : Nat → Bool} (hN : ∀ s, s < 6 → N s ≠ 0 → ∃ q, q < 4 ∧ zT g q s ≠ -1) (h : isSc g K N u X) : isScarce g K N u X := by
  rcases h with ⟨h1, h2⟩ | ⟨h1, h2⟩
  · exact Or.inl ⟨h1, fun Y => by rw [D_up1 hN]; have := h2 Y; omega⟩
  · refine Or.inr ⟨by rw [D_up1 hN]; omega, fun Y => ?_⟩
    rw [D_up1 hN, D_up1 hN]
    have := h2 Y
    exact ⟨by omega, fun h => this.2 (by omega)⟩
/-- by how much prices may rise -/
def okRise (g : PD) (N u : Nat → Int) (X : Nat → Bool) (r : Int) : Prop := ∀ s, s < 6 → N s ≠ 0 → (∃ p, p < 4 ∧ nrB g u s p = true ∧ X p = true) → r = 1 ∨ (nrIn g u s X = true ∧ ∀ p, p < 4 → X p = false → zT g p s ≠ -1 → r ≤ u p + zT g p s - vZ g u s)
theorem near_up {g : PD} {N u : Nat → Int} {X : Nat → Bool} {r j : Int} (hr : okRise g N u X r) (hj : 0 ≤ j) (hjr : j < r) {s : Nat} (hs : s < 6) (h0 : N s ≠ 0) {p : Nat} (hp' : p < 4) : nrB g (upX u X j) s p = nrB g u s p := by
  have lo : ∀ t, t < 4 → zT g t s ≠ -1 → vZ g u s ≤ u t + zT g t s := fun t ht hTt => vZ_le ht hTt
  by_cases hroad : ∃ q, q < 4 ∧ zT g q s ≠ -1
  · obtain ⟨q, hq, hT⟩ := hroad
    obtain ⟨m, hm, hn⟩ := vZ_at (u := u) hq hT
    by_cases hX : ∃ p, p < 4 ∧ nrB g u s p = true ∧ X p = true
    · rcases hr s hs h0 hX with h1 | ⟨hin, hlow⟩
      · have : j = 0 := by omega
        subst this
        have e : upX u X 0 = u := by funext t; unfold upX; split <;> omega
        rw [e]
      · have hi := nrIn_iff.mp hin
        have ev : vZ g (upX u X j) s = vZ g u s + j := by
          apply vZ_of
          refine ⟨⟨m, hm, hn.1, ?_⟩, fun t ht hTt => ?_⟩
          · unfold upX
            rw [if_pos (hi m hm (nrB_iff.mpr hn))]
            have := hn.2
            omega
          · unfold upX
            have h1 := lo t ht hTt
            by_cases hY : X t = true
            · rw [if_pos hY]; omega
            · rw [if_neg hY]
              have := hlow t ht (by simpa using hY) hTt
              omega
        rw [Bool.eq_iff_iff, nrB_iff, nrB_iff]
        unfold near
        rw [ev]
        unfold upX
        by_cases hY : X p = true
        · rw [if_pos hY]
          constructor
          · rintro ⟨a, b⟩; exact ⟨a, by omega⟩
          · rintro ⟨a, b⟩; exact ⟨a, by omega⟩
        · rw [if_neg hY]
          constructor
          · rintro ⟨a, b⟩
            have := hlow p hp' (by simpa using hY) a
            omega
          · rintro ⟨a, b⟩
            exact absurd (hi p hp' (nrB_iff.mpr ⟨a, b⟩)) hY
    · have hX' : ∀ t, t < 4 → near g u s t → X t = false := fun t ht hnt => by
        cases hY : X t
        · rfl
        · exact absurd ⟨t, ht, nrB_iff.mpr hnt, hY⟩ hX
      have ev : vZ g (upX u X j) s = vZ g u s := by
        apply vZ_of
        refine ⟨⟨m, hm, hn.1, ?_⟩, fun t ht hTt => ?_⟩
        · unfold upX
          rw [hX' m hm hn, if_neg (by decide)]
          have := hn.2
          omega
        · unfold upX
          have h1 := lo t ht hTt
          split <;> omega
      rw [Bool.eq_iff_iff, nrB_iff, nrB_iff]
      unfold near
      rw [ev]
      unfold upX
      by_cases hY : X p = true
      · rw [if_pos hY]
        constructor
        · rintro ⟨a, b⟩
          have h1 := lo p hp' a
          refine ⟨a, by omega⟩
        · rintro ⟨a, b⟩
          exact absurd hY (by rw [hX' p hp' ⟨a, b⟩]; decide)
      · rw [if_neg hY]
        constructor
        · rintro ⟨a, b⟩; exact ⟨a, by omega⟩
        · rintro ⟨a, b⟩; exact ⟨a, by omega⟩
  · have hnr : ∀ q, q < 4 → zT g q s = -1 := fun q hq => by
      apply Classical.byContradiction
      intro h
      exact hroad ⟨q, hq, h⟩
    unfold nrB
    rw [decide_eq_false (fun h => h.1 (hnr p hp')), decide_eq_false (fun h => h.1 (hnr p hp'))]
/-- prices that rise by so much stay below the least that tell most -/
theorem rise_le {g : PD} {K N u w : Nat → Int} {X : Nat → Bool} {r : Int} (hN : ∀ s, s < 6 → 0 ≤ N s) (hR : ∀ s, s < 6 → N s ≠ 0 → ∃ q, q < 4 ∧ zT g q s ≠ -1) (hw : LM g K N w) (hu : ∀ p, p < 4 → u p ≤ w p) (hS : isSc g K N u X) (hX : ∃ p, p < 4 ∧ X p = true) (hr : okRise g N u X r) : ∀ j : Nat, (j : Int) ≤ r → ∀ p, p < 4 → upX u X j p ≤ w p := by
  intro j
  induction j with
  | zero =>
    intro _ p hp'
    have := hu p hp'
    unfold upX
    split <;> omega
  | succ j ih =>
    intro hj p hp'
    have h1 := ih (by omega)
    have hSj : isSc g K N (upX u X j) X := by
      have e : ∀ Y, askZ g K N (upX u X j) Y = askZ g K N u Y := fun Y => ask_congr (fun s hs h0 q hq => near_up hr (by omega) (by omega) hs h0 hq)
      rcases hS with ⟨h2, _⟩ | ⟨h2, h3⟩
      · obtain ⟨q, hq, hq2⟩ := hX
        rw [h2 q hq] at hq2
        exact absurd hq2 (by decide)
      · exact Or.inr ⟨by rw [e]; exact h2, fun Y => by rw [e, e]; exact h3 Y⟩
    have h2 := scarce_up hN hw h1 (sc_of hR hSj) p hp'
    unfold upX at h2 ⊢
    by_cases hXp : X p = true
    · simp only [if_pos hXp] at h2 ⊢
      omega
    · simp only [if_neg hXp] at h2 ⊢
      omega
