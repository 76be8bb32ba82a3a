/-! quotients of whole numbers, as floats and doubles -/
theorem enc32 {c : Nat} {q : Int} (h1 : 8388608 ≤ c) : FP.Core.encode FP.Core.b32 (.fin false c q) = ((q + 149).toNat + 1) * 8388608 + (c - 8388608) := by
  unfold FP.Core.encode
  rw [show FP.Core.b32.tails = 8388608 from rfl, show FP.Core.b32.qmin = -149 from rfl]
  simp only
  rw [if_neg (by omega)]
  unfold FP.Core.assemble
  rw [show FP.Core.b32.tails = 8388608 from rfl, show FP.Core.b32.exps = 256 from rfl, show (false : Bool).toNat = 0 from rfl, show q - -149 = q + 149 by omega]
  omega
theorem dec32 {e t : Nat} (he1 : 1 ≤ e) (he2 : e < 255) (ht : t < 8388608) : FP.Core.decode FP.Core.b32 (e * 8388608 + t) = .fin false (8388608 + t) ((e : Int) - 150) := by
  have f1 : FP.Core.fieldE FP.Core.b32 (e * 8388608 + t) = e := by
    unfold FP.Core.fieldE
    rw [show FP.Core.b32.tails = 8388608 from rfl, show FP.Core.b32.exps = 256 from rfl]
    omega
  have f2 : FP.Core.fieldT FP.Core.b32 (e * 8388608 + t) = t := by
    unfold FP.Core.fieldT
    rw [show FP.Core.b32.tails = 8388608 from rfl]
    omega
  have f3 : FP.Core.fieldS FP.Core.b32 (e * 8388608 + t) = false := by
    unfold FP.Core.fieldS
    rw [show FP.Core.b32.tails = 8388608 from rfl, show FP.Core.b32.exps = 256 from rfl, show (e * 8388608 + t) / 8388608 / 256 % 2 = 0 by omega]
    rfl
  unfold FP.Core.decode
  rw [f1, f2, f3, show FP.Core.b32.tails = 8388608 from rfl, show FP.Core.b32.exps = 256 from rfl, show FP.Core.b32.qmin = -149 from rfl, if_neg (by omega), if_neg (by omega), show (-149 : Int) + ((e : Int) - 1) = (e : Int) - 150 by omega]
theorem near1_32 (x : Nat) : FP.Core.nearest x 1 = x := by
  unfold FP.Core.nearest
  rw [if_pos (by omega), Nat.div_one]
theorem set32 {c : Nat} {q : Int} (h1 : c < 16777216) (h2 : q ≤ 104) : FP.Core.settle FP.Core.b32 false c q = .fin false c q := by
  unfold FP.Core.settle FP.Core.bound
  rw [show FP.Core.b32.p = 24 from rfl, show FP.Core.b32.qmax = 104 from rfl, if_pos (by omega), if_pos h2]
theorem log32 {c : Nat} (h1 : 8388608 ≤ c) (h2 : c < 16777216) : c.log2 = 23 := (Nat.log2_eq_iff (by omega)).mpr ⟨by omega, by omega⟩
/-- a whole number below the precision -/
theorem i2f32 {a : Int32} (h0 : 0 < a.toInt) (h1 : a.toInt < 16777216) : ∃ (k c : Nat), k ≤ 23 ∧ 8388608 ≤ c ∧ c < 16777216 ∧ FP.i2f a = UInt32.ofNat (FP.Core.encode FP.Core.b32 (.fin false c ((k : Int) - 23))) := by
  generalize hn : a.toInt.natAbs = n
  have hn0 : n ≠ 0 := by omega
  have hn1 : n < 16777216 := by omega
  obtain ⟨b1, b2⟩ := (Nat.log2_eq_iff (k := n.log2) hn0).mp rfl
  have hk2 : n.log2 ≤ 23 := by
    have : n.log2 < 24 := (Nat.log2_lt hn0).mpr (by omega)
    omega
  generalize hk : n.log2 = k at b1 b2 hk2
  have e1 : 2 ^ k * 2 ^ (23 - k) = 8388608 := by rw [← Nat.pow_add, show k + (23 - k) = 23 by omega]
  have e2 : 2 ^ (k + 1) * 2 ^ (23 - k) = 16777216 := by rw [← Nat.pow_add, show k + 1 + (23 - k) = 24 by omega]
  have c1 : 8388608 ≤ n * 2 ^ (23 - k) := by rw [← e1]; exact Nat.mul_le_mul_right _ b1
  have c2 : n * 2 ^ (23 - k) < 16777216 := by rw [← e2]; exact Nat.mul_lt_mul_of_pos_right b2 (Nat.two_pow_pos _)
  refine ⟨k, n * 2 ^ (23 - k), hk2, c1, c2, ?_⟩
  have r : FP.Core.roundRatio FP.Core.b32 false n 1 0 = .fin false (n * 2 ^ (23 - k)) ((k : Int) - 23) := by
    unfold FP.Core.roundRatio
    rw [if_neg hn0]
    have l : FP.Core.leading n 1 = (k : Int) := by
      unfold FP.Core.leading
      rw [hk, show Nat.log2 1 = 0 by decide]
      simp only
      rw [show ((k : Int) - ((0 : Nat) : Int)).toNat = k by omega, show (-((k : Int) - ((0 : Nat) : Int))).toNat = 0 by omega, if_pos (by rw [Nat.one_mul, Nat.pow_zero, Nat.mul_one]; exact b1)]
      omega
    have q : FP.Core.quantum FP.Core.b32 n 1 0 = (k : Int) - 23 := by
      unfold FP.Core.quantum
      rw [l, show FP.Core.b32.p = 24 from rfl, show FP.Core.b32.qmin = -149 from rfl]
      omega
    rw [q]
    unfold FP.Core.roundAt FP.Core.unitsNum FP.Core.unitsDen
    rw [show ((0 : Int) - ((k : Int) - 23)).toNat = 23 - k by omega, show (((k : Int) - 23) - 0).toNat = 0 by omega, Nat.pow_zero, Nat.mul_one, near1_32, set32 c2 (by omega)]
  show UInt32.ofNat (FP.Core.encode FP.Core.b32 (FP.Core.round FP.Core.b32 (FP.Core.ofInt a.toInt))) = _
  unfold FP.Core.ofInt FP.Core.round
  simp only
  rw [show decide (a.toInt < 0) = false by simp; omega, hn, r]
/-- bits of a number above 0 that isn't too small or too great -/
theorem bits32 {c : Nat} {q : Int} (h1 : 8388608 ≤ c) (h2 : c < 16777216) (h3 : -149 ≤ q) (h4 : q ≤ 104) : (UInt32.ofNat (FP.Core.encode FP.Core.b32 (.fin false c q))).toNat = ((q + 149).toNat + 1) * 8388608 + (c - 8388608) ∧ FP.Core.decode FP.Core.b32 (UInt32.ofNat (FP.Core.encode FP.Core.b32 (.fin false c q))).toNat = .fin false c q := by
  have e := enc32 (q := q) h1
  have e2 : (UInt32.ofNat (FP.Core.encode FP.Core.b32 (.fin false c q))).toNat = ((q + 149).toNat + 1) * 8388608 + (c - 8388608) := by
    rw [e]
    exact UInt32.toNat_ofNat_of_lt' (show _ < 2 ^ 32 by omega)
  refine ⟨e2, ?_⟩
  rw [e2, dec32 (by omega) (by omega) (by omega), show 8388608 + (c - 8388608) = c by omega, show (((q + 149).toNat + 1 : Nat) : Int) - 150 = q by omega]
theorem near_rng32 {A B : Nat} (hB : 0 < B) (h1 : 8388608 * B ≤ A) (h2 : A < 16777216 * B) : 8388608 ≤ FP.Core.nearest A B ∧ FP.Core.nearest A B ≤ 16777216 := by
  have d1 : 8388608 ≤ A / B := (Nat.le_div_iff_mul_le hB).mpr h1
  have d2 : A / B < 16777216 := (Nat.div_lt_iff_lt_mul hB).mpr h2
  unfold FP.Core.nearest
  split
  · omega
  · split
    · omega
    · have : A / B % 2 < 2 := Nat.mod_lt _ (by decide)
      omega
/-- a quotient of two such numbers is such a number -/
theorem div32 {c d : Nat} {q r : Int} (c1 : 8388608 ≤ c) (c2 : c < 16777216) (d1 : 8388608 ≤ d) (d2 : d < 16777216) (hq : -100 ≤ q - r) (hq2 : q - r ≤ 100) : ∃ (m : Nat) (s : Int), 8388608 ≤ m ∧ m < 16777216 ∧ q - r - 24 ≤ s ∧ s ≤ q - r - 23 + 1 ∧ FP.Core.quotient FP.Core.b32 (.fin false c q) (.fin false d r) = .fin false m s := by
  have rr : FP.Core.quotient FP.Core.b32 (.fin false c q) (.fin false d r) = FP.Core.roundRatio FP.Core.b32 false c d (q - r) := by
    unfold FP.Core.quotient
    simp only
    rw [if_neg (by omega)]
    rfl
  rw [rr]
  unfold FP.Core.roundRatio
  rw [if_neg (by omega)]
  have l : FP.Core.leading c d = if d ≤ c then 0 else -1 := by
    unfold FP.Core.leading
    rw [log32 c1 c2, log32 d1 d2]
    simp only [Int.sub_self, Int.neg_zero, Int.toNat_zero, Nat.pow_zero, Nat.mul_one, Int.zero_sub]
  by_cases hcd : d ≤ c
  · rw [if_pos hcd] at l
    have qq : FP.Core.quantum FP.Core.b32 c d (q - r) = q - r - 23 := by
      unfold FP.Core.quantum
      rw [l, show FP.Core.b32.p = 24 from rfl, show FP.Core.b32.qmin = -149 from rfl]
      omega
    rw [qq]
    unfold FP.Core.roundAt FP.Core.unitsNum FP.Core.unitsDen
    rw [show ((q - r) - (q - r - 23)).toNat = 23 by omega, show ((q - r - 23) - (q - r)).toNat = 0 by omega, Nat.pow_zero, Nat.mul_one]
    have nr := near_rng32 (A := c * 2 ^ 23) (B := d) (by omega) (by rw [show (2 : Nat) ^ 23 = 8388608 from rfl, Nat.mul_comm]; exact Nat.mul_le_mul_right _ hcd) (by rw [show (2 : Nat) ^ 23 = 8388608 from rfl]; omega)
    by_cases hm : FP.Core.nearest (c * 2 ^ 23) d < 16777216
    · exact ⟨_, _, nr.1, hm, by omega, by omega, set32 hm (by omega)⟩
    · refine ⟨8388608, q - r - 23 + 1, by omega, by omega, by omega, by omega, ?_⟩
      unfold FP.Core.settle FP.Core.bound
      rw [show FP.Core.b32.p = 24 from rfl, show FP.Core.b32.qmax = 104 from rfl, show FP.Core.b32.tails = 8388608 from rfl, if_neg (by omega), if_pos (by omega)]
  · rw [if_neg hcd] at l
    have qq : FP.Core.quantum FP.Core.b32 c d (q - r) = q - r - 24 := by
      unfold FP.Core.quantum
      rw [l, show FP.Core.b32.p = 24 from rfl, show FP.Core.b32.qmin = -149 from rfl]
      omega
    rw [qq]
    unfold FP.Core.roundAt FP.Core.unitsNum FP.Core.unitsDen
    rw [show ((q - r) - (q - r - 24)).toNat = 24 by omega, show ((q - r - 24) - (q - r)).toNat = 0 by omega, Nat.pow_zero, Nat.mul_one]
    have nr := near_rng32 (A := c * 2 ^ 24) (B := d) (by omega) (by rw [show (2 : Nat) ^ 24 = 16777216 from rfl]; omega) (by rw [show (2 : Nat) ^ 24 = 16777216 from rfl]; omega)
    by_cases hm : FP.Core.nearest (c * 2 ^ 24) d < 16777216
    · exact ⟨_, _, nr.1, hm, by omega, by omega, set32 hm (by omega)⟩
    · refine ⟨8388608, q - r - 24 + 1, by omega, by omega, by omega, by omega, ?_⟩
      unfold FP.Core.settle FP.Core.bound
      rw [show FP.Core.b32.p = 24 from rfl, show FP.Core.b32.qmax = 104 from rfl, show FP.Core.b32.tails = 8388608 from rfl, if_neg (by omega), if_pos (by omega)]
/-- whole numbers by each other -/
theorem quo32 {a b : Int32} (ha : 0 < a.toInt) (ha2 : a.toInt < 16777216) (hb : 0 < b.toInt) (hb2 : b.toInt < 16777216) : ∃ (m : Nat) (s : Int), 8388608 ≤ m ∧ m < 16777216 ∧ -100 - 23 ≤ s ∧ s ≤ 100 - 23 ∧ FP.fdiv (FP.i2f a) (FP.i2f b) = UInt32.ofNat (FP.Core.encode FP.Core.b32 (.fin false m s)) := by
  obtain ⟨k, c, hk, c1, c2, e1⟩ := i2f32 ha ha2
  obtain ⟨j, d, hj, d1, d2, e2⟩ := i2f32 hb hb2
  obtain ⟨m, s, m1, m2, s1, s2, e⟩ := div32 (q := (k : Int) - 23) (r := (j : Int) - 23) c1 c2 d1 d2 (by omega) (by omega)
  refine ⟨m, s, m1, m2, by omega, by omega, ?_⟩
  rw [e1, e2]
  show UInt32.ofNat (FP.Core.encode FP.Core.b32 (FP.Core.quotient FP.Core.b32 (FP.Core.decode FP.Core.b32 _) (FP.Core.decode FP.Core.b32 _))) = _
  rw [(bits32 c1 c2 (by omega) (by omega)).2, (bits32 d1 d2 (by omega) (by omega)).2, e]
theorem n32_nrm {c : Nat} {q : Int} (h1 : 8388608 ≤ c) (h2 : c < 16777216) (h3 : -149 ≤ q) (h4 : q ≤ 104) : n32 (UInt32.ofNat (FP.Core.encode FP.Core.b32 (.fin false c q))) = some (UInt32.ofNat (FP.Core.encode FP.Core.b32 (.fin false c q))) := by
  have hb := (bits32 h1 h2 h3 h4).1
  unfold n32
  rw [if_pos]
  rw [UInt32.le_iff_toNat_le, UInt32.toNat_and]
  refine Nat.le_trans Nat.and_le_left ?_
  rw [hb]
  show _ ≤ 2139095040
  omega
theorem z2f32 : FP.i2f 0 = 0 := by decide +kernel
theorem quo032 {b : Int32} (hb : 0 < b.toInt) (hb2 : b.toInt < 16777216) : FP.fdiv (FP.i2f 0) (FP.i2f b) = 0 := by
  obtain ⟨j, d, hj, d1, d2, e2⟩ := i2f32 hb hb2
  rw [e2, z2f32]
  show UInt32.ofNat (FP.Core.encode FP.Core.b32 (FP.Core.quotient FP.Core.b32 (FP.Core.decode FP.Core.b32 _) (FP.Core.decode FP.Core.b32 _))) = _
  rw [(bits32 d1 d2 (by omega) (by omega)).2, show FP.Core.decode FP.Core.b32 (0 : UInt32).toNat = .fin false 0 (-149) by decide +kernel]
  unfold FP.Core.quotient FP.Core.roundRatio
  simp only
  rw [if_neg (by omega)]
  simp only [if_true]
  decide +kernel
theorem n32_div {a b : Int32} (ha : 0 ≤ a.toInt) (ha2 : a.toInt < 16777216) (hb : 0 < b.toInt) (hb2 : b.toInt < 16777216) : n32 (FP.fdiv (FP.i2f a) (FP.i2f b)) = some (FP.fdiv (FP.i2f a) (FP.i2f b)) := by
  by_cases h0 : a.toInt = 0
  · have : a = 0 := by rw [ti_eq, h0]; rfl
    rw [this, quo032 hb hb2]
    decide +kernel
  · obtain ⟨m, s, m1, m2, s1, s2, e⟩ := quo32 (a := a) (by omega) ha2 hb hb2
    rw [e]
    exact n32_nrm m1 m2 (by omega) (by omega)
theorem enc64 {c : Nat} {q : Int} (h1 : 4503599627370496 ≤ c) : FP.Core.encode FP.Core.b64 (.fin false c q) = ((q + 1074).toNat + 1) * 4503599627370496 + (c - 4503599627370496) := by
  unfold FP.Core.encode
  rw [show FP.Core.b64.tails = 4503599627370496 from rfl, show FP.Core.b64.qmin = -1074 from rfl]
  simp only
  rw [if_neg (by omega)]
  unfold FP.Core.assemble
  rw [show FP.Core.b64.tails = 4503599627370496 from rfl, show FP.Core.b64.exps = 2048 from rfl, show (false : Bool).toNat = 0 from rfl, show q - -1074 = q + 1074 by omega]
  omega
theorem dec64 {e t : Nat} (he1 : 1 ≤ e) (he2 : e < 2047) (ht : t < 4503599627370496) : FP.Core.decode FP.Core.b64 (e * 4503599627370496 + t) = .fin false (4503599627370496 + t) ((e : Int) - 1075) := by
  have f1 : FP.Core.fieldE FP.Core.b64 (e * 4503599627370496 + t) = e := by
    unfold FP.Core.fieldE
    rw [show FP.Core.b64.tails = 4503599627370496 from rfl, show FP.Core.b64.exps = 2048 from rfl]
    omega
  have f2 : FP.Core.fieldT FP.Core.b64 (e * 4503599627370496 + t) = t := by
    unfold FP.Core.fieldT
    rw [show FP.Core.b64.tails = 4503599627370496 from rfl]
    omega
  have f3 : FP.Core.fieldS FP.Core.b64 (e * 4503599627370496 + t) = false := by
    unfold FP.Core.fieldS
    rw [show FP.Core.b64.tails = 4503599627370496 from rfl, show FP.Core.b64.exps = 2048 from rfl, show (e * 4503599627370496 + t) / 4503599627370496 / 2048 % 2 = 0 by omega]
    rfl
  unfold FP.Core.decode
  rw [f1, f2, f3, show FP.Core.b64.tails = 4503599627370496 from rfl, show FP.Core.b64.exps = 2048 from rfl, show FP.Core.b64.qmin = -1074 from rfl, if_neg (by omega), if_neg (by omega), show (-1074 : Int) + ((e : Int) - 1) = (e : Int) - 1075 by omega]
theorem near1_64 (x : Nat) : FP.Core.nearest x 1 = x := by
  unfold FP.Core.nearest
  rw [if_pos (by omega), Nat.div_one]
theorem set64 {c : Nat} {q : Int} (h1 : c < 9007199254740992) (h2 : q ≤ 971) : FP.Core.settle FP.Core.b64 false c q = .fin false c q := by
  unfold FP.Core.settle FP.Core.bound
  rw [show FP.Core.b64.p = 53 from rfl, show FP.Core.b64.qmax = 971 from rfl, if_pos (by omega), if_pos h2]
theorem log64 {c : Nat} (h1 : 4503599627370496 ≤ c) (h2 : c < 9007199254740992) : c.log2 = 52 := (Nat.log2_eq_iff (by omega)).mpr ⟨by omega, by omega⟩
/-- a whole number below the precision -/
theorem i2d64 {a : Int32} (h0 : 0 < a.toInt) (h1 : a.toInt < 16777216) : ∃ (k c : Nat), k ≤ 23 ∧ 4503599627370496 ≤ c ∧ c < 9007199254740992 ∧ FP.i2d a = UInt64.ofNat (FP.Core.encode FP.Core.b64 (.fin false c ((k : Int) - 52))) := by
  generalize hn : a.toInt.natAbs = n
  have hn0 : n ≠ 0 := by omega
  have hn1 : n < 16777216 := by omega
  obtain ⟨b1, b2⟩ := (Nat.log2_eq_iff (k := n.log2) hn0).mp rfl
  have hk2 : n.log2 ≤ 23 := by
    have : n.log2 < 24 := (Nat.log2_lt hn0).mpr (by omega)
    omega
  generalize hk : n.log2 = k at b1 b2 hk2
  have e1 : 2 ^ k * 2 ^ (52 - k) = 4503599627370496 := by rw [← Nat.pow_add, show k + (52 - k) = 52 by omega]
  have e2 : 2 ^ (k + 1) * 2 ^ (52 - k) = 9007199254740992 := by rw [← Nat.pow_add, show k + 1 + (52 - k) = 53 by omega]
  have c1 : 4503599627370496 ≤ n * 2 ^ (52 - k) := by rw [← e1]; exact Nat.mul_le_mul_right _ b1
  have c2 : n * 2 ^ (52 - k) < 9007199254740992 := by rw [← e2]; exact Nat.mul_lt_mul_of_pos_right b2 (Nat.two_pow_pos _)
  refine ⟨k, n * 2 ^ (52 - k), hk2, c1, c2, ?_⟩
  have r : FP.Core.roundRatio FP.Core.b64 false n 1 0 = .fin false (n * 2 ^ (52 - k)) ((k : Int) - 52) := by
    unfold FP.Core.roundRatio
    rw [if_neg hn0]
    have l : FP.Core.leading n 1 = (k : Int) := by
      unfold FP.Core.leading
      rw [hk, show Nat.log2 1 = 0 by decide]
      simp only
      rw [show ((k : Int) - ((0 : Nat) : Int)).toNat = k by omega, show (-((k : Int) - ((0 : Nat) : Int))).toNat = 0 by omega, if_pos (by rw [Nat.one_mul, Nat.pow_zero, Nat.mul_one]; exact b1)]
      omega
    have q : FP.Core.quantum FP.Core.b64 n 1 0 = (k : Int) - 52 := by
      unfold FP.Core.quantum
      rw [l, show FP.Core.b64.p = 53 from rfl, show FP.Core.b64.qmin = -1074 from rfl]
      omega
    rw [q]
    unfold FP.Core.roundAt FP.Core.unitsNum FP.Core.unitsDen
    rw [show ((0 : Int) - ((k : Int) - 52)).toNat = 52 - k by omega, show (((k : Int) - 52) - 0).toNat = 0 by omega, Nat.pow_zero, Nat.mul_one, near1_64, set64 c2 (by omega)]
  show UInt64.ofNat (FP.Core.encode FP.Core.b64 (FP.Core.round FP.Core.b64 (FP.Core.ofInt a.toInt))) = _
  unfold FP.Core.ofInt FP.Core.round
  simp only
  rw [show decide (a.toInt < 0) = false by simp; omega, hn, r]
/-- bits of a number above 0 that isn't too small or too great -/
theorem bits64 {c : Nat} {q : Int} (h1 : 4503599627370496 ≤ c) (h2 : c < 9007199254740992) (h3 : -1074 ≤ q) (h4 : q ≤ 971) : (UInt64.ofNat (FP.Core.encode FP.Core.b64 (.fin false c q))).toNat = ((q + 1074).toNat + 1) * 4503599627370496 + (c - 4503599627370496) ∧ FP.Core.decode FP.Core.b64 (UInt64.ofNat (FP.Core.encode FP.Core.b64 (.fin false c q))).toNat = .fin false c q := by
  have e := enc64 (q := q) h1
  have e2 : (UInt64.ofNat (FP.Core.encode FP.Core.b64 (.fin false c q))).toNat = ((q + 1074).toNat + 1) * 4503599627370496 + (c - 4503599627370496) := by
    rw [e]
    exact UInt64.toNat_ofNat_of_lt' (show _ < 2 ^ 64 by omega)
  refine ⟨e2, ?_⟩
  rw [e2, dec64 (by omega) (by omega) (by omega), show 4503599627370496 + (c - 4503599627370496) = c by omega, show (((q + 1074).toNat + 1 : Nat) : Int) - 1075 = q by omega]
theorem near_rng64 {A B : Nat} (hB : 0 < B) (h1 : 4503599627370496 * B ≤ A) (h2 : A < 9007199254740992 * B) : 4503599627370496 ≤ FP.Core.nearest A B ∧ FP.Core.nearest A B ≤ 9007199254740992 := by
  have d1 : 4503599627370496 ≤ A / B := (Nat.le_div_iff_mul_le hB).mpr h1
  have d2 : A / B < 9007199254740992 := (Nat.div_lt_iff_lt_mul hB).mpr h2
  unfold FP.Core.nearest
  split
  · omega
  · split
    · omega
    · have : A / B % 2 < 2 := Nat.mod_lt _ (by decide)
      omega
/-- a quotient of two such numbers is such a number -/
theorem div64 {c d : Nat} {q r : Int} (c1 : 4503599627370496 ≤ c) (c2 : c < 9007199254740992) (d1 : 4503599627370496 ≤ d) (d2 : d < 9007199254740992) (hq : -100 ≤ q - r) (hq2 : q - r ≤ 100) : ∃ (m : Nat) (s : Int), 4503599627370496 ≤ m ∧ m < 9007199254740992 ∧ q - r - 53 ≤ s ∧ s ≤ q - r - 52 + 1 ∧ FP.Core.quotient FP.Core.b64 (.fin false c q) (.fin false d r) = .fin false m s := by
  have rr : FP.Core.quotient FP.Core.b64 (.fin false c q) (.fin false d r) = FP.Core.roundRatio FP.Core.b64 false c d (q - r) := by
    unfold FP.Core.quotient
    simp only
    rw [if_neg (by omega)]
    rfl
  rw [rr]
  unfold FP.Core.roundRatio
  rw [if_neg (by omega)]
  have l : FP.Core.leading c d = if d ≤ c then 0 else -1 := by
    unfold FP.Core.leading
    rw [log64 c1 c2, log64 d1 d2]
    simp only [Int.sub_self, Int.neg_zero, Int.toNat_zero, Nat.pow_zero, Nat.mul_one, Int.zero_sub]
  by_cases hcd : d ≤ c
  · rw [if_pos hcd] at l
    have qq : FP.Core.quantum FP.Core.b64 c d (q - r) = q - r - 52 := by
      unfold FP.Core.quantum
      rw [l, show FP.Core.b64.p = 53 from rfl, show FP.Core.b64.qmin = -1074 from rfl]
      omega
    rw [qq]
    unfold FP.Core.roundAt FP.Core.unitsNum FP.Core.unitsDen
    rw [show ((q - r) - (q - r - 52)).toNat = 52 by omega, show ((q - r - 52) - (q - r)).toNat = 0 by omega, Nat.pow_zero, Nat.mul_one]
    have nr := near_rng64 (A := c * 2 ^ 52) (B := d) (by omega) (by rw [show (2 : Nat) ^ 52 = 4503599627370496 from rfl, Nat.mul_comm]; exact Nat.mul_le_mul_right _ hcd) (by rw [show (2 : Nat) ^ 52 = 4503599627370496 from rfl]; omega)
    by_cases hm : FP.Core.nearest (c * 2 ^ 52) d < 9007199254740992
    · exact ⟨_, _, nr.1, hm, by omega, by omega, set64 hm (by omega)⟩
    · refine ⟨4503599627370496, q - r - 52 + 1, by omega, by omega, by omega, by omega, ?_⟩
      unfold FP.Core.settle FP.Core.bound
      rw [show FP.Core.b64.p = 53 from rfl, show FP.Core.b64.qmax = 971 from rfl, show FP.Core.b64.tails = 4503599627370496 from rfl, if_neg (by omega), if_pos (by omega)]
  · rw [if_neg hcd] at l
    have qq : FP.Core.quantum FP.Core.b64 c d (q - r) = q - r - 53 := by
      unfold FP.Core.quantum
      rw [l, show FP.Core.b64.p = 53 from rfl, show FP.Core.b64.qmin = -1074 from rfl]
      omega
    rw [qq]
    unfold FP.Core.roundAt FP.Core.unitsNum FP.Core.unitsDen
    rw [show ((q - r) - (q - r - 53)).toNat = 53 by omega, show ((q - r - 53) - (q - r)).toNat = 0 by omega, Nat.pow_zero, Nat.mul_one]
    have nr := near_rng64 (A := c * 2 ^ 53) (B := d) (by omega) (by rw [show (2 : Nat) ^ 53 = 9007199254740992 from rfl]; omega) (by rw [show (2 : Nat) ^ 53 = 9007199254740992 from rfl]; omega)
    by_cases hm : FP.Core.nearest (c * 2 ^ 53) d < 9007199254740992
    · exact ⟨_, _, nr.1, hm, by omega, by omega, set64 hm (by omega)⟩
    · refine ⟨4503599627370496, q - r - 53 + 1, by omega, by omega, by omega, by omega, ?_⟩
      unfold FP.Core.settle FP.Core.bound
      rw [show FP.Core.b64.p = 53 from rfl, show FP.Core.b64.qmax = 971 from rfl, show FP.Core.b64.tails = 4503599627370496 from rfl, if_neg (by omega), if_pos (by omega)]
/-- whole numbers by each other -/
theorem quo64 {a b : Int32} (ha : 0 < a.toInt) (ha2 : a.toInt < 16777216) (hb : 0 < b.toInt) (hb2 : b.toInt < 16777216) : ∃ (m : Nat) (s : Int), 4503599627370496 ≤ m ∧ m < 9007199254740992 ∧ -100 - 52 ≤ s ∧ s ≤ 100 - 52 ∧ FP.ddiv (FP.i2d a) (FP.i2d b) = UInt64.ofNat (FP.Core.encode FP.Core.b64 (.fin false m s)) := by
  obtain ⟨k, c, hk, c1, c2, e1⟩ := i2d64 ha ha2
  obtain ⟨j, d, hj, d1, d2, e2⟩ := i2d64 hb hb2
  obtain ⟨m, s, m1, m2, s1, s2, e⟩ := div64 (q := (k : Int) - 52) (r := (j : Int) - 52) c1 c2 d1 d2 (by omega) (by omega)
  refine ⟨m, s, m1, m2, by omega, by omega, ?_⟩
  rw [e1, e2]
  show UInt64.ofNat (FP.Core.encode FP.Core.b64 (FP.Core.quotient FP.Core.b64 (FP.Core.decode FP.Core.b64 _) (FP.Core.decode FP.Core.b64 _))) = _
  rw [(bits64 c1 c2 (by omega) (by omega)).2, (bits64 d1 d2 (by omega) (by omega)).2, e]
theorem n64_nrm {c : Nat} {q : Int} (h1 : 4503599627370496 ≤ c) (h2 : c < 9007199254740992) (h3 : -1074 ≤ q) (h4 : q ≤ 971) : n64 (UInt64.ofNat (FP.Core.encode FP.Core.b64 (.fin false c q))) = some (UInt64.ofNat (FP.Core.encode FP.Core.b64 (.fin false c q))) := by
  have hb := (bits64 h1 h2 h3 h4).1
  unfold n64
  rw [if_pos]
  rw [UInt64.le_iff_toNat_le, UInt64.toNat_and]
  refine Nat.le_trans Nat.and_le_left ?_
  rw [hb]
  show _ ≤ 9218868437227405312
  omega
theorem z2d64 : FP.i2d 0 = 0 := by decide +kernel
theorem quo064 {b : Int32} (hb : 0 < b.toInt) (hb2 : b.toInt < 16777216) : FP.ddiv (FP.i2d 0) (FP.i2d b) = 0 := by
  obtain ⟨j, d, hj, d1, d2, e2⟩ := i2d64 hb hb2
  rw [e2, z2d64]
  show UInt64.ofNat (FP.Core.encode FP.Core.b64 (FP.Core.quotient FP.Core.b64 (FP.Core.decode FP.Core.b64 _) (FP.Core.decode FP.Core.b64 _))) = _
  rw [(bits64 d1 d2 (by omega) (by omega)).2, show FP.Core.decode FP.Core.b64 (0 : UInt64).toNat = .fin false 0 (-1074) by decide +kernel]
  unfold FP.Core.quotient FP.Core.roundRatio
  simp only
  rw [if_neg (by omega)]
  simp only [if_true]
  decide +kernel
theorem n64_div {a b : Int32} (ha : 0 ≤ a.toInt) (ha2 : a.toInt < 16777216) (hb : 0 < b.toInt) (hb2 : b.toInt < 16777216) : n64 (FP.ddiv (FP.i2d a) (FP.i2d b)) = some (FP.ddiv (FP.i2d a) (FP.i2d b)) := by
  by_cases h0 : a.toInt = 0
  · have : a = 0 := by rw [ti_eq, h0]; rfl
    rw [this, quo064 hb hb2]
    decide +kernel
  · obtain ⟨m, s, m1, m2, s1, s2, e⟩ := quo64 (a := a) (by omega) ha2 hb hb2
    rw [e]
    exact n64_nrm m1 m2 (by omega) (by omega)
