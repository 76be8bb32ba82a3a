/-! a quotient that is 1 at most has an exponent of at most -23 -/
theorem i2f1_32 {a : Int32} (h0 : 0 < a.toInt) (h1 : a.toInt < 16777216) : ∃ (k c : Nat), k ≤ 23 ∧ 8388608 ≤ c ∧ c < 16777216 ∧ a.toInt.toNat * 2 ^ (23 - k) = c ∧ FP.i2f a = UInt32.ofNat (FP.Core.encode FP.Core.b32 (.fin false c ((k : Int) - 23))) := by
  generalize hn : a.toInt.natAbs = n
  have hnn : a.toInt.toNat = n := by omega
  have hn0 : n ≠ 0 := by omega
  have hn1 : n < 16777216 := by omega
  obtain ⟨b1, b2⟩ := (Nat.log2_eq_iff (k := n.log2) hn0).mp rfl
  have hk2 : n.log2 ≤ 23 := by
    have : n.log2 < 24 := (Nat.log2_lt hn0).mpr (by omega)
    omega
  generalize hk : n.log2 = k at b1 b2 hk2
  have e1 : 2 ^ k * 2 ^ (23 - k) = 8388608 := by rw [← Nat.pow_add, show k + (23 - k) = 23 by omega]
  have e2 : 2 ^ (k + 1) * 2 ^ (23 - k) = 16777216 := by rw [← Nat.pow_add, show k + 1 + (23 - k) = 24 by omega]
  have c1 : 8388608 ≤ n * 2 ^ (23 - k) := by rw [← e1]; exact Nat.mul_le_mul_right _ b1
  have c2 : n * 2 ^ (23 - k) < 16777216 := by rw [← e2]; exact Nat.mul_lt_mul_of_pos_right b2 (Nat.two_pow_pos _)
  refine ⟨k, n * 2 ^ (23 - k), hk2, c1, c2, by rw [hnn], ?_⟩
  have r : FP.Core.roundRatio FP.Core.b32 false n 1 0 = .fin false (n * 2 ^ (23 - k)) ((k : Int) - 23) := by
    unfold FP.Core.roundRatio
    rw [if_neg hn0]
    have l : FP.Core.leading n 1 = (k : Int) := by
      unfold FP.Core.leading
      rw [hk, show Nat.log2 1 = 0 by decide]
      simp only
      rw [show ((k : Int) - ((0 : Nat) : Int)).toNat = k by omega, show (-((k : Int) - ((0 : Nat) : Int))).toNat = 0 by omega, if_pos (by rw [Nat.one_mul, Nat.pow_zero, Nat.mul_one]; exact b1)]
      omega
    have q : FP.Core.quantum FP.Core.b32 n 1 0 = (k : Int) - 23 := by
      unfold FP.Core.quantum
      rw [l, show FP.Core.b32.p = 24 from rfl, show FP.Core.b32.qmin = -149 from rfl]
      omega
    rw [q]
    unfold FP.Core.roundAt FP.Core.unitsNum FP.Core.unitsDen
    rw [show ((0 : Int) - ((k : Int) - 23)).toNat = 23 - k by omega, show (((k : Int) - 23) - 0).toNat = 0 by omega, Nat.pow_zero, Nat.mul_one, near1_32, set32 c2 (by omega)]
  show UInt32.ofNat (FP.Core.encode FP.Core.b32 (FP.Core.round FP.Core.b32 (FP.Core.ofInt a.toInt))) = _
  unfold FP.Core.ofInt FP.Core.round
  simp only
  rw [show decide (a.toInt < 0) = false by simp; omega, hn, r]
theorem div1_32 {c d : Nat} {q r : Int} (c1 : 8388608 ≤ c) (c2 : c < 16777216) (d1 : 8388608 ≤ d) (d2 : d < 16777216) (hcd : c ≤ d) (hq : -100 ≤ q - r) (hq2 : q - r ≤ 100) : ∃ (m : Nat) (s : Int), 8388608 ≤ m ∧ m < 16777216 ∧ q - r - 24 ≤ s ∧ s ≤ q - r - 23 ∧ FP.Core.quotient FP.Core.b32 (.fin false c q) (.fin false d r) = .fin false m s := by
  have rr : FP.Core.quotient FP.Core.b32 (.fin false c q) (.fin false d r) = FP.Core.roundRatio FP.Core.b32 false c d (q - r) := by
    unfold FP.Core.quotient
    simp only
    rw [if_neg (by omega)]
    rfl
  rw [rr]
  unfold FP.Core.roundRatio
  rw [if_neg (by omega)]
  have l : FP.Core.leading c d = if d ≤ c then 0 else -1 := by
    unfold FP.Core.leading
    rw [log32 c1 c2, log32 d1 d2]
    simp only [Int.sub_self, Int.neg_zero, Int.toNat_zero, Nat.pow_zero, Nat.mul_one, Int.zero_sub]
  by_cases he : d ≤ c
  · rw [if_pos he] at l
    have ed : d = c := by omega
    have qq : FP.Core.quantum FP.Core.b32 c d (q - r) = q - r - 23 := by
      unfold FP.Core.quantum
      rw [l, show FP.Core.b32.p = 24 from rfl, show FP.Core.b32.qmin = -149 from rfl]
      omega
    rw [qq]
    unfold FP.Core.roundAt FP.Core.unitsNum FP.Core.unitsDen
    rw [show ((q - r) - (q - r - 23)).toNat = 23 by omega, show ((q - r - 23) - (q - r)).toNat = 0 by omega, Nat.pow_zero, Nat.mul_one, ed, show (2 : Nat) ^ 23 = 8388608 from rfl]
    have hm : FP.Core.nearest (c * 8388608) c = 8388608 := by
      unfold FP.Core.nearest
      rw [Nat.mul_mod_right, if_pos (by omega), Nat.mul_div_cancel_left _ (by omega)]
    rw [hm]
    exact ⟨_, _, by omega, by omega, by omega, by omega, set32 (by omega) (by omega)⟩
  · rw [if_neg he] at l
    have qq : FP.Core.quantum FP.Core.b32 c d (q - r) = q - r - 24 := by
      unfold FP.Core.quantum
      rw [l, show FP.Core.b32.p = 24 from rfl, show FP.Core.b32.qmin = -149 from rfl]
      omega
    rw [qq]
    unfold FP.Core.roundAt FP.Core.unitsNum FP.Core.unitsDen
    rw [show ((q - r) - (q - r - 24)).toNat = 24 by omega, show ((q - r - 24) - (q - r)).toNat = 0 by omega, Nat.pow_zero, Nat.mul_one]
    have nr := near_rng32 (A := c * 2 ^ 24) (B := d) (by omega) (by rw [show (2 : Nat) ^ 24 = 16777216 from rfl]; omega) (by rw [show (2 : Nat) ^ 24 = 16777216 from rfl]; omega)
    by_cases hm : FP.Core.nearest (c * 2 ^ 24) d < 16777216
    · exact ⟨_, _, nr.1, hm, by omega, by omega, set32 hm (by omega)⟩
    · refine ⟨8388608, q - r - 24 + 1, by omega, by omega, by omega, by omega, ?_⟩
      unfold FP.Core.settle FP.Core.bound
      rw [show FP.Core.b32.p = 24 from rfl, show FP.Core.b32.qmax = 104 from rfl, show FP.Core.b32.tails = 8388608 from rfl, if_neg (by omega), if_pos (by omega)]
/-- a whole number by one that isn't less -/
theorem quo1_32 {a b : Int32} (ha : 0 < a.toInt) (hab : a.toInt ≤ b.toInt) (hb2 : b.toInt < 16777216) : ∃ (m : Nat) (s : Int), 8388608 ≤ m ∧ m < 16777216 ∧ -100 - 23 ≤ s ∧ s ≤ -23 ∧ FP.fdiv (FP.i2f a) (FP.i2f b) = UInt32.ofNat (FP.Core.encode FP.Core.b32 (.fin false m s)) := by
  obtain ⟨k, c, hk, c1, c2, c3, e1⟩ := i2f1_32 ha (by omega)
  obtain ⟨j, d, hj, d1, d2, d3, e2⟩ := i2f1_32 (a := b) (by omega) hb2
  have hn : a.toInt.toNat ≤ b.toInt.toNat := by omega
  have hkj : k ≤ j := by
    apply Nat.le_of_not_lt
    intro hh
    have p : 2 ^ (23 - j) = 2 ^ (23 - k) * 2 ^ (k - j) := by rw [← Nat.pow_add, show 23 - k + (k - j) = 23 - j by omega]
    obtain ⟨i, hi⟩ : ∃ i, k - j = i + 1 := ⟨k - j - 1, by omega⟩
    have p1 : 2 ^ (23 - k) * 2 ≤ 2 ^ (23 - j) := by
      rw [p, hi, Nat.pow_succ]
      have := Nat.two_pow_pos i
      exact Nat.mul_le_mul_left _ (by omega)
    have p2 : a.toInt.toNat * (2 ^ (23 - k) * 2) ≤ b.toInt.toNat * 2 ^ (23 - j) := Nat.mul_le_mul hn p1
    rw [← Nat.mul_assoc, c3, d3] at p2
    omega
  have fin : ∃ (m : Nat) (s : Int), 8388608 ≤ m ∧ m < 16777216 ∧ -100 - 23 ≤ s ∧ s ≤ -23 ∧ FP.Core.quotient FP.Core.b32 (.fin false c ((k : Int) - 23)) (.fin false d ((j : Int) - 23)) = .fin false m s := by
    by_cases hlt : k < j
    · obtain ⟨m, s, m1, m2, s1, s2, e⟩ := div32 (q := (k : Int) - 23) (r := (j : Int) - 23) c1 c2 d1 d2 (by omega) (by omega)
      exact ⟨m, s, m1, m2, by omega, by omega, e⟩
    · have hkj2 : k = j := by omega
      have hcd : c ≤ d := by
        rw [← c3, ← d3, hkj2]
        exact Nat.mul_le_mul_right _ hn
      obtain ⟨m, s, m1, m2, s1, s2, e⟩ := div1_32 (q := (k : Int) - 23) (r := (j : Int) - 23) c1 c2 d1 d2 hcd (by omega) (by omega)
      exact ⟨m, s, m1, m2, by omega, by omega, e⟩
  obtain ⟨m, s, m1, m2, s1, s2, e⟩ := fin
  refine ⟨m, s, m1, m2, s1, s2, ?_⟩
  rw [e1, e2]
  show UInt32.ofNat (FP.Core.encode FP.Core.b32 (FP.Core.quotient FP.Core.b32 (FP.Core.decode FP.Core.b32 _) (FP.Core.decode FP.Core.b32 _))) = _
  rw [(bits32 c1 c2 (by omega) (by omega)).2, (bits32 d1 d2 (by omega) (by omega)).2, e]
