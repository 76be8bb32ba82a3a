/-! the lack and the ray: by sets of sites as by sets of plants -/
theorem inX_rs {g : PD} {S s : Nat} (hs : s < 6) (hb : S.testBit s = true) : inX g (fun p => (rsN g S 6).testBit p) s = true := inX_iff.mpr (fun p hp' hT => (rsN_bit hp' 6).mpr ⟨s, hs, hb, hT⟩)
theorem nd_le {g : PD} (hg : wfP g) {c S : Nat} (hc : c < 4) : ndZ g c S ≤ ldZ g c (rsN g S 6) := by
  refine row_mono (fun s hs => ?_)
  show (if S.testBit s = true then zN g c s else 0) ≤ (if inX g (fun p => (rsN g S 6).testBit p) s = true then zN g c s else 0)
  have := (zN_rng hg hc hs).1
  by_cases hb : S.testBit s = true
  · rw [if_pos hb, if_pos (inX_rs hs hb)]; exact Int.le_refl _
  · rw [if_neg hb]; split <;> omega
theorem col_mono {f h : Nat → Nat → Int} {s : Nat} (hh : ∀ p, p < 4 → f p s ≤ h p s) : colZ f s ≤ colZ h s := by
  have a0 := hh 0 (by omega); have a1 := hh 1 (by omega); have a2 := hh 2 (by omega); have a3 := hh 3 (by omega)
  unfold colZ; omega
theorem pl_mono {g : PD} (hg : wfP g) {plan : Int32} {A B : Nat} (h : ∀ p, p < 4 → A.testBit p = true → B.testBit p = true) : plZ g plan A ≤ plZ g plan B := by
  refine col_mono (fun p hp' => ?_)
  show (if A.testBit p = true then zK g plan p else 0) ≤ (if B.testBit p = true then zK g plan p else 0)
  have := (zK_eq hg (plan := plan) hp').2.1
  by_cases ha : A.testBit p = true
  · rw [if_pos ha, if_pos (h p hp' ha)]; exact Int.le_refl _
  · rw [if_neg ha]; split <;> omega
theorem bits6_hi {P : Nat → Bool} {n : Nat} (hn : n ≤ 6) (h : ∀ s, n ≤ s → s < 6 → P s = false) : bits6 P < 2 ^ n := by
  apply Nat.lt_pow_two_of_testBit
  intro i hi
  by_cases h6 : i < 6
  · rw [bits6_bit h6]; exact h i hi h6
  · apply Nat.testBit_lt_two_pow
    have h1 := bits6_lt P
    have h2 := Nat.pow_le_pow_right (show 0 < 2 by omega) (show 6 ≤ i by omega)
    omega
/-- all sites that some plants serve alone -/
def sQ (g : PD) (Q : Nat) : Nat := bits6 (fun s => decide (s < pNs g) && inX g (fun p => Q.testBit p) s)
theorem sQ_lt {g : PD} (hg : wfP g) (Q : Nat) : sQ g Q < 2 ^ pNs g := bits6_hi hg.1.2.1.2 (fun s h1 _ => by rw [decide_eq_false (by omega), Bool.false_and])
theorem sQ_F {g : PD} (hg : wfP g) {c Q : Nat} {plan : Int32} (hc : c < 4) : ldZ g c Q - plZ g plan Q ≤ FZ g c plan (sQ g Q) := by
  have e : ndZ g c (sQ g Q) = ldZ g c Q := by
    refine row_congr (fun s hs => ?_)
    show (if (sQ g Q).testBit s = true then zN g c s else 0) = (if inX g (fun p => Q.testBit p) s = true then zN g c s else 0)
    unfold sQ
    rw [bits6_bit hs]
    by_cases hsn : s < pNs g
    · rw [decide_eq_true hsn, Bool.true_and]
    · rw [zN_out hg hc hs (by omega)]
      split <;> split <;> rfl
  have m : plZ g plan (rsN g (sQ g Q) 6) ≤ plZ g plan Q := by
    refine pl_mono hg (fun p hp' hb => ?_)
    obtain ⟨s, hs, h1, h2⟩ := (rsN_bit hp' 6).mp hb
    unfold sQ at h1
    rw [bits6_bit hs, Bool.and_eq_true] at h1
    exact inX_iff.mp h1.2 p hp' h2
  unfold FZ
  omega
theorem lk_lack {g : PD} (hg : wfP g) {c L : Nat} {plan x : Int32} (hc : c < 4) (h : isLk g c plan (2 ^ pNs g) x.toInt L) : x = lackP g c plan := by
  obtain ⟨h1, ⟨S, h2, h2'⟩, _, _⟩ := h
  rw [ti_eq]
  apply Int.le_antisymm
  · have hQ := rsN_lt g S 6
    have e := lack_Z hg (plan := plan) hc hQ
    have m := (maxN_ge (f := fun set => loadP g c set - poolP g plan set) 16).1 _ hQ
    have n1 := nd_le hg (S := S) hc
    unfold FZ at h2'
    have e' : (loadP g c (rsN g S 6) - poolP g plan (rsN g S 6)).toInt = ldZ g c (rsN g S 6) - plZ g plan (rsN g S 6) := e
    show x.toInt ≤ (maxN (fun set => loadP g c set - poolP g plan set) 16).toInt
    omega
  · rcases maxN_at (f := fun set => loadP g c set - poolP g plan set) 16 with m | ⟨Q, hQ, m⟩
    · have := h1 0 Nat.one_le_two_pow
      rw [FZ_0] at this
      show (maxN (fun set => loadP g c set - poolP g plan set) 16).toInt ≤ x.toInt
      rw [m, ti_0]; exact this
    · have e : (loadP g c Q - poolP g plan Q).toInt = ldZ g c Q - plZ g plan Q := lack_Z hg (plan := plan) hc hQ
      have f1 := sQ_F hg (plan := plan) (Q := Q) hc
      have f2 := h1 (sQ g Q) (sQ_lt hg Q)
      show (maxN (fun set => loadP g c set - poolP g plan set) 16).toInt ≤ x.toInt
      rw [m, e]; omega
theorem row_gap {f h : Nat → Nat → Int} {p s : Nat} (hh : ∀ t, t < 6 → f p t ≤ h p t) (hs : s < 6) : rowZ f p + (h p s - f p s) ≤ rowZ h p := by
  have a0 := hh 0 (by omega); have a1 := hh 1 (by omega); have a2 := hh 2 (by omega); have a3 := hh 3 (by omega); have a4 := hh 4 (by omega); have a5 := hh 5 (by omega)
  have : s = 0 ∨ s = 1 ∨ s = 2 ∨ s = 3 ∨ s = 4 ∨ s = 5 := by omega
  unfold rowZ
  rcases this with rfl | rfl | rfl | rfl | rfl | rfl <;> omega
theorem bit_hi {S n s : Nat} (h : S < 2 ^ n) (hb : S.testBit s = true) : s < n := by
  apply Nat.lt_of_not_le
  intro h'
  have := Nat.testBit_lt_two_pow (x := S) (i := s) (Nat.lt_of_lt_of_le h (Nat.pow_le_pow_right (by omega) h'))
  rw [this] at hb
  exact absurd hb (by decide)
theorem rayS_iff {g : PD} (hg : wfP g) {c : Nat} {plan : Int32} (hc : c < 4) {s : Nat} (hs : s < 6) : rayS g c plan (lackP g c plan) s = true ↔ (0 < zN g c s ∧ ∀ Q, Q < 16 → ldZ g c Q - plZ g plan Q = (lackP g c plan).toInt → inX g (fun p => Q.testBit p) s = true) := by
  unfold rayS
  rw [Bool.and_eq_true, Bool.not_eq_true', decide_eq_false_iff_not, ti_le, ti_0, List.all_eq_true]
  have h1 : ¬ (pNeed g c s).toInt ≤ 0 ↔ 0 < zN g c s := by unfold zN; omega
  rw [h1]
  refine and_congr_right (fun _ => ?_)
  constructor
  · intro h Q hQ hm
    have h2 := h Q (List.mem_range.mpr hQ)
    unfold badSet at h2
    have e : loadP g c Q - poolP g plan Q = lackP g c plan := by rw [ti_eq, ← hm]; exact lack_Z hg (plan := plan) hc hQ
    rw [decide_eq_true e, Bool.true_and, Bool.not_not, decide_eq_true_iff] at h2
    exact (mask_in hg hs hQ).mp h2
  · intro h Q hQ
    have hQ' := List.mem_range.mp hQ
    unfold badSet
    by_cases e : loadP g c Q - poolP g plan Q = lackP g c plan
    · have h2 := h Q hQ' (by rw [← e]; exact (lack_Z hg (plan := plan) hc hQ').symm)
      rw [decide_eq_true ((mask_in hg hs hQ').mpr h2)]
      simp
    · rw [decide_eq_false e]
      simp
theorem lk_ray {g : PD} (hg : wfP g) {c L : Nat} {plan x : Int32} (hc : c < 4) (h : isLk g c plan (2 ^ pNs g) x.toInt L) {s : Nat} (hs : s < 6) : L.testBit s = (decide (s < pNs g) && rayS g c plan (lackP g c plan) s) := by
  have hx := lk_lack hg hc h
  obtain ⟨h1, ⟨S0, h2, h2'⟩, h3, h4⟩ := h
  have hM : ∀ Q, Q < 16 → ldZ g c Q - plZ g plan Q ≤ (lackP g c plan).toInt := fun Q hQ => by
    have e : (loadP g c Q - poolP g plan Q).toInt = ldZ g c Q - plZ g plan Q := lack_Z hg (plan := plan) hc hQ
    rw [← e]
    exact (maxN_ge (f := fun set => loadP g c set - poolP g plan set) 16).1 _ hQ
  rw [← hx] at hM
  rw [Bool.eq_iff_iff, Bool.and_eq_true, decide_eq_true_iff, rayS_iff hg hc hs, h3 s hs, ← hx]
  constructor
  · intro hb
    have hb0 := hb S0 h2 h2'
    refine ⟨bit_hi h2 hb0, ?_, fun Q hQ hq => ?_⟩
    · apply Int.lt_of_not_ge
      intro hz
      have hz0 : zN g c s = 0 := by have := (zN_rng hg hc hs).1; omega
      have hb1 := hb (bits6 (fun t => S0.testBit t && decide (t ≠ s))) (bits6_hi hg.1.2.1.2 (fun t ht1 ht2 => by
        cases hbt : S0.testBit t
        · rfl
        · exact absurd (bit_hi h2 hbt) (by omega))) (by
        apply Int.le_antisymm
        · refine h1 _ (bits6_hi hg.1.2.1.2 (fun t ht1 ht2 => ?_))
          cases hbt : S0.testBit t
          · rfl
          · exact absurd (bit_hi h2 hbt) (by omega)
        · rw [← h2']
          unfold FZ
          have e : ndZ g c (bits6 (fun t => S0.testBit t && decide (t ≠ s))) = ndZ g c S0 := by
            refine row_congr (fun t ht => ?_)
            show (if (bits6 (fun t => S0.testBit t && decide (t ≠ s))).testBit t = true then zN g c t else 0) = (if S0.testBit t = true then zN g c t else 0)
            rw [bits6_bit ht]
            by_cases hts : t = s
            · rw [hts, hz0, ite_self, ite_self]
            · rw [decide_eq_true hts, Bool.and_true]
          have m : plZ g plan (rsN g (bits6 (fun t => S0.testBit t && decide (t ≠ s))) 6) ≤ plZ g plan (rsN g S0 6) := by
            refine pl_mono hg (fun p hp' hbp => ?_)
            obtain ⟨t, ht, q1, q2⟩ := (rsN_bit hp' 6).mp hbp
            rw [bits6_bit ht, Bool.and_eq_true] at q1
            exact (rsN_bit hp' 6).mpr ⟨t, ht, q1.1, q2⟩
          omega)
      rw [bits6_bit hs, Bool.and_eq_true] at hb1
      simp at hb1
    · have f1 := sQ_F hg (plan := plan) (Q := Q) hc
      have f2 := h1 (sQ g Q) (sQ_lt hg Q)
      have := hb (sQ g Q) (sQ_lt hg Q) (by omega)
      unfold sQ at this
      rw [bits6_bit hs, Bool.and_eq_true] at this
      exact this.2
  · rintro ⟨hsn, hz, hQ⟩ S hS hF
    have q1 := rsN_lt g S 6
    have n1 := nd_le hg (S := S) hc
    have m1 := hM _ q1
    unfold FZ at hF
    have hin := hQ _ q1 (by omega)
    cases hb : S.testBit s
    · exfalso
      have gap := row_gap (f := fun _ t => if S.testBit t = true then zN g c t else 0) (h := fun _ t => if inX g (fun p => (rsN g S 6).testBit p) t = true then zN g c t else 0) (p := 0) (s := s) (fun t ht => by
        show (if S.testBit t = true then zN g c t else 0) ≤ (if inX g (fun p => (rsN g S 6).testBit p) t = true then zN g c t else 0)
        have := (zN_rng hg hc ht).1
        by_cases hbt : S.testBit t = true
        · rw [if_pos hbt, if_pos (inX_rs ht hbt)]; exact Int.le_refl _
        · rw [if_neg hbt]; split <;> omega) hs
      rw [if_pos hin, hb, if_neg (show ¬ false = true by decide)] at gap
      have g2 : ndZ g c S + (zN g c s - 0) ≤ ldZ g c (rsN g S 6) := gap
      omega
    · rfl
theorem lk_rayU {g : PD} (hg : wfP g) {c L : Nat} {plan x : Int32} (hc : c < 4) (h : isLk g c plan (2 ^ pNs g) x.toInt L) {p : Nat} (hp' : p < 4) : (rsN g L 6).testBit p = rayU g c plan (lackP g c plan) (pNs g) p := by
  have hns := hg.1.2.1.2
  rw [Bool.eq_iff_iff, rsN_bit hp' 6]
  unfold rayU
  rw [Bool.and_eq_true, decide_eq_true_iff, List.any_eq_true]
  constructor
  · rintro ⟨s, hs, h1, h2⟩
    rw [lk_ray hg hc h hs, Bool.and_eq_true, decide_eq_true_iff] at h1
    refine ⟨?_, s, List.mem_range.mpr h1.1, by rw [h1.2, (bitS_iff hg hs hp').mpr h2]; rfl⟩
    apply Nat.lt_of_not_le
    intro h'
    exact h2 (zT_out hg hp' hs (Or.inl h'))
  · rintro ⟨_, s, hs, h1⟩
    have hs' := List.mem_range.mp hs
    rw [Bool.and_eq_true] at h1
    have hs6 : s < 6 := by omega
    exact ⟨s, hs6, by rw [lk_ray hg hc h hs6, decide_eq_true hs', h1.1]; rfl, (bitS_iff hg hs6 hp').mp h1.2⟩
