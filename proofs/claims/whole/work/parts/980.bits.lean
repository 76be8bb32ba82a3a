/-! the bits of a float and of a double, found by hand -/
/-- a float of significand c, exponent q -/
def fl32 (c : Nat) (q : Int) : UInt32 := UInt32.ofNat (FP.Core.encode FP.Core.b32 (.fin false c q))
theorem fd32 {c : Nat} {q : Int} (h1 : 8388608 ≤ c) (h2 : c < 16777216) (h3 : -149 ≤ q) (h4 : q ≤ 104) : FP.Core.decode FP.Core.b32 (fl32 c q).toNat = .fin false c q := (bits32 h1 h2 h3 h4).2
theorem pow32 (c : Nat) : FP.Core.nearest (c * 8388608) 8388608 = c := by
  unfold FP.Core.nearest
  rw [Nat.mul_mod_left, if_pos (by omega), Nat.mul_div_cancel _ (by omega)]
theorem mul32 {c : Nat} {q r : Int} {y : UInt32} (h1 : 8388608 ≤ c) (h2 : c < 16777216) (h3 : -149 ≤ q) (h4 : q ≤ 104) (hy : FP.Core.decode FP.Core.b32 y.toNat = .fin false 8388608 r) (h5 : -149 ≤ q + r + 23) (h6 : q + r + 23 ≤ 104) : FP.fmul (fl32 c q) y = fl32 c (q + r + 23) := by
  show UInt32.ofNat (FP.Core.encode FP.Core.b32 (FP.Core.round FP.Core.b32 (FP.Core.exactProduct (FP.Core.decode FP.Core.b32 _) (FP.Core.decode FP.Core.b32 _)))) = _
  rw [fd32 h1 h2 h3 h4, hy]
  have l : (c * 8388608).log2 = 23 + 23 := (Nat.log2_eq_iff (by omega)).mpr ⟨by rw [show 2 ^ (23 + 23) = 8388608 * 8388608 from rfl]; exact Nat.mul_le_mul_right _ h1, by rw [show 2 ^ (23 + 23 + 1) = 16777216 * 8388608 from rfl]; exact Nat.mul_lt_mul_of_pos_right h2 (by omega)⟩
  have ld : FP.Core.leading (c * 8388608) 1 = 23 + 23 := by
    unfold FP.Core.leading
    rw [l, show Nat.log2 1 = 0 by decide]
    simp only
    rw [show (((23 + 23 : Nat) : Int) - ((0 : Nat) : Int)).toNat = 23 + 23 by omega, show (-(((23 + 23 : Nat) : Int) - ((0 : Nat) : Int))).toNat = 0 by omega, if_pos (by rw [Nat.one_mul, Nat.pow_zero, Nat.mul_one, show 2 ^ (23 + 23) = 8388608 * 8388608 from rfl]; exact Nat.mul_le_mul_right _ h1)]
    omega
  have qq : FP.Core.quantum FP.Core.b32 (c * 8388608) 1 (q + r) = q + r + 23 := by
    unfold FP.Core.quantum
    rw [ld, show FP.Core.b32.p = 24 from rfl, show FP.Core.b32.qmin = -149 from rfl]
    omega
  have e : FP.Core.roundRatio FP.Core.b32 false (c * 8388608) 1 (q + r) = .fin false c (q + r + 23) := by
    unfold FP.Core.roundRatio
    rw [if_neg (by omega), qq]
    unfold FP.Core.roundAt FP.Core.unitsNum FP.Core.unitsDen
    rw [show ((q + r) - (q + r + 23)).toNat = 0 by omega, show ((q + r + 23) - (q + r)).toNat = 23 by omega, Nat.pow_zero, Nat.mul_one, Nat.one_mul, show 2 ^ 23 = 8388608 from rfl, pow32, set32 h2 h6]
  unfold FP.Core.exactProduct FP.Core.round
  simp only
  rw [show (false != false) = false from rfl, e]
  rfl
theorem half32 {c : Nat} {q : Int} {y : UInt32} (h1 : 8388608 ≤ c) (h2 : c < 16777216) (h3 : -149 < q) (h4 : q ≤ 104) (hy : FP.Core.decode FP.Core.b32 y.toNat = .fin false 8388608 (-23 + 1)) : FP.fdiv (fl32 c q) y = fl32 c (q - 1) := by
  show UInt32.ofNat (FP.Core.encode FP.Core.b32 (FP.Core.quotient FP.Core.b32 (FP.Core.decode FP.Core.b32 _) (FP.Core.decode FP.Core.b32 _))) = _
  rw [fd32 h1 h2 (by omega) h4, hy]
  have l : FP.Core.leading c 8388608 = 0 := by
    unfold FP.Core.leading
    rw [log32 h1 h2, log32 (c := 8388608) (by omega) (by omega)]
    simp only [Int.sub_self, Int.neg_zero, Int.toNat_zero, Nat.pow_zero, Nat.mul_one, Int.zero_sub]
    rw [if_pos h1]
  have qq : FP.Core.quantum FP.Core.b32 c 8388608 (q - (-23 + 1)) = q - 1 := by
    unfold FP.Core.quantum
    rw [l, show FP.Core.b32.p = 24 from rfl, show FP.Core.b32.qmin = -149 from rfl]
    omega
  have e : FP.Core.roundRatio FP.Core.b32 false c 8388608 (q - (-23 + 1)) = .fin false c (q - 1) := by
    unfold FP.Core.roundRatio
    rw [if_neg (by omega), qq]
    unfold FP.Core.roundAt FP.Core.unitsNum FP.Core.unitsDen
    rw [show ((q - (-23 + 1)) - (q - 1)).toNat = 23 by omega, show ((q - 1) - (q - (-23 + 1))).toNat = 0 by omega, Nat.pow_zero, Nat.mul_one, show 2 ^ 23 = 8388608 from rfl, pow32, set32 h2 (by omega)]
  unfold FP.Core.quotient
  simp only
  rw [if_neg (by omega), show (false != false) = false from rfl, e]
  rfl
theorem lt32 {c : Nat} {q r : Int} {y : UInt32} (h1 : 8388608 ≤ c) (h2 : c < 16777216) (h3 : -149 ≤ q) (h4 : q ≤ 104) (hy : FP.Core.decode FP.Core.b32 y.toNat = .fin false 8388608 r) (hq : q < r) (op : CmpOp) : Op.cmpValue (FP.fcmp (fl32 c q) y) op = -1 := by
  have e : FP.fcmp (fl32 c q) y = some .lt := by
    show FP.Core.order (FP.Core.decode FP.Core.b32 _) (FP.Core.decode FP.Core.b32 _) = _
    rw [fd32 h1 h2 h3 h4, hy]
    unfold FP.Core.order FP.Core.signed FP.Core.inUnits
    simp only
    rw [show min q r = q by omega, show (q - q).toNat = 0 by omega, Nat.pow_zero, Nat.mul_one]
    obtain ⟨k, hk⟩ : ∃ k, (r - q).toNat = k + 1 := ⟨(r - q).toNat - 1, by omega⟩
    rw [hk]
    have : c < 8388608 * 2 ^ (k + 1) := by
      have := Nat.two_pow_pos k
      rw [Nat.pow_succ]
      calc c < 16777216 * 1 := by omega
        _ ≤ 16777216 * 2 ^ k := Nat.mul_le_mul_left _ this
        _ = 8388608 * (2 ^ k * 2) := by omega
    rw [show compare (if false = true then -((c : Nat) : Int) else ((c : Nat) : Int)) (if false = true then -((8388608 * 2 ^ (k + 1) : Nat) : Int) else ((8388608 * 2 ^ (k + 1) : Nat) : Int)) = Ordering.lt from by
      rw [if_neg (by decide), if_neg (by decide)]
      exact Int.compare_eq_lt.mpr (by omega)]
  rw [e]; rfl
theorem ge32 {c : Nat} {q r : Int} {y : UInt32} (h1 : 8388608 ≤ c) (h2 : c < 16777216) (h3 : -149 ≤ q) (h4 : q ≤ 104) (hy : FP.Core.decode FP.Core.b32 y.toNat = .fin false 8388608 r) (hq : r ≤ q) (op : CmpOp) : 0 ≤ (Op.cmpValue (FP.fcmp (fl32 c q) y) op) := by
  have e : FP.fcmp (fl32 c q) y = some .gt ∨ FP.fcmp (fl32 c q) y = some .eq := by
    show FP.Core.order (FP.Core.decode FP.Core.b32 _) (FP.Core.decode FP.Core.b32 _) = _ ∨ FP.Core.order (FP.Core.decode FP.Core.b32 _) (FP.Core.decode FP.Core.b32 _) = _
    rw [fd32 h1 h2 h3 h4, hy]
    unfold FP.Core.order FP.Core.signed FP.Core.inUnits
    simp only
    rw [show min q r = r by omega, show (r - r).toNat = 0 by omega, Nat.pow_zero, Nat.mul_one]
    generalize (q - r).toNat = k
    have : 8388608 ≤ c * 2 ^ k := by
      have := Nat.two_pow_pos k
      calc 8388608 ≤ c * 1 := by omega
        _ ≤ c * 2 ^ k := Nat.mul_le_mul_left _ this
    rw [if_neg (by decide), if_neg (by decide)]
    by_cases hh : 8388608 = c * 2 ^ k
    · right
      rw [← hh]
      exact congrArg some (Int.compare_eq_eq.mpr rfl)
    · left
      exact congrArg some (Int.compare_eq_gt.mpr (by omega))
  rcases e with e | e
  · rw [e]; exact (show (0 : Int32) ≤ 1 by decide)
  · rw [e]; exact (show (0 : Int32) ≤ 0 by decide)
theorem pos32 {c : Nat} {q : Int} (h1 : 8388608 ≤ c) (h2 : c < 16777216) (h3 : -149 ≤ q) (h4 : q ≤ 104) : Op.cmpValue (FP.fcmp (fl32 c q) FP.fconst0) .l = 1 := by
  have e : FP.fcmp (fl32 c q) FP.fconst0 = some .gt := by
    show FP.Core.order (FP.Core.decode FP.Core.b32 _) (FP.Core.decode FP.Core.b32 _) = _
    rw [fd32 h1 h2 h3 h4, show FP.Core.decode FP.Core.b32 FP.fconst0.toNat = .fin false 0 (-149) by decide +kernel]
    unfold FP.Core.order FP.Core.signed FP.Core.inUnits
    simp only
    rw [if_neg (by decide), if_neg (by decide), Nat.zero_mul]
    have : 1 ≤ c * 2 ^ (q - min q (-149)).toNat := by
      have := Nat.two_pow_pos (q - min q (-149)).toNat
      calc 1 ≤ c * 1 := by omega
        _ ≤ _ := Nat.mul_le_mul_left _ this
    exact congrArg some (Int.compare_eq_gt.mpr (by omega))
  rw [e]; rfl
theorem eqs32 {c : Nat} {q : Int} (h1 : 8388608 ≤ c) (h2 : c < 16777216) (h3 : -149 ≤ q) (h4 : q ≤ 104) : Op.cmpValue (FP.fcmp (fl32 c q) (fl32 c q)) .l = 0 := by
  have e : FP.fcmp (fl32 c q) (fl32 c q) = some .eq := by
    show FP.Core.order (FP.Core.decode FP.Core.b32 _) (FP.Core.decode FP.Core.b32 _) = _
    rw [fd32 h1 h2 h3 h4]
    unfold FP.Core.order
    simp only
    exact congrArg some (Int.compare_eq_eq.mpr rfl)
  rw [e]; rfl
theorem two32 : FP.Core.decode FP.Core.b32 (FP.fconst2 : UInt32).toNat = .fin false 8388608 (-23 + 1) := by decide +kernel
theorem one32 : FP.Core.decode FP.Core.b32 FP.fconst1.toNat = .fin false 8388608 (-23) := by decide +kernel
theorem big32 : FP.Core.decode FP.Core.b32 (1258291200 : UInt32).toNat = .fin false 8388608 0 := by decide +kernel
theorem whole32 {c : Nat} (h1 : 8388608 ≤ c) (h2 : c < 16777216) : FP.f2i (fl32 c 0) = Int32.ofNat c := by
  show Int32.ofInt (FP.Core.toInt _ _ (FP.Core.decode FP.Core.b32 _)) = _
  rw [fd32 h1 h2 (by omega) (by omega)]
  unfold FP.Core.toInt FP.Core.truncate FP.Core.signed
  simp only
  rw [if_neg (by decide), show (0 : Int).toNat = 0 from rfl, show (-0 : Int).toNat = 0 from rfl, Nat.pow_zero, Nat.mul_one, Nat.div_one, show max (-2 ^ 31 : Int) (min (2 ^ 31 - 1) (c : Int)) = (c : Int) by omega]
  exact Int32.ofInt_eq_ofNat
theorem an32 (a b : Nat) : Int32.ofNat a &&& Int32.ofNat b = Int32.ofNat (a &&& b) := by
  apply Int32.toBitVec_inj.mp
  rw [Int32.toBitVec_and]
  exact BitVec.ofNat_and.symm
theorem or32 (a b : Nat) : Int32.ofNat a ||| Int32.ofNat b = Int32.ofNat (a ||| b) := by
  apply Int32.toBitVec_inj.mp
  rw [Int32.toBitVec_or]
  exact BitVec.ofNat_or.symm
theorem shf32 : ∀ e : Fin 256, Int32.ofNat e.1 <<< ((23 : Int32) &&& 31) = Int32.ofNat (e.1 * 8388608) := by decide +kernel
theorem key32 {u : UInt32} {n : Nat} (h : u.toNat = n) (hn : n < 2 ^ 32) : Int32.ofNat n = u.toInt32 := by
  apply Int32.toBitVec_inj.mp
  apply BitVec.eq_of_toNat_eq
  show n % 2 ^ 32 = u.toNat
  rw [Nat.mod_eq_of_lt hn, h]
theorem hor32 {e c : Nat} (h2 : c < 8388608) : e * 8388608 ||| c = e * 8388608 + c := by
  have := Nat.two_pow_add_eq_or_of_lt (i := 23) (b := c) h2 e
  rw [Nat.mul_comm]
  exact this.symm
theorem mask32 {c : Nat} (h1 : 8388608 ≤ c) (h2 : c < 16777216) : Int32.ofNat c &&& 8388607 = Int32.ofNat (c - 8388608) := by
  have e : (8388607 : Int32) = Int32.ofNat 8388607 := rfl
  rw [e, an32]
  have e2 : c &&& 8388607 = c % 8388608 := Nat.and_two_pow_sub_one_eq_mod c 23
  rw [e2, show c % 8388608 = c - 8388608 by omega]
theorem mend32 {c : Nat} {q : Int} (h1 : 8388608 ≤ c) (h2 : c < 16777216) (h3 : -149 ≤ q) (h4 : q ≤ 104) : (Int32.ofNat (q + (149 + 1)).toNat <<< ((23 : Int32) &&& 31)) ||| (Int32.ofNat c &&& 8388607) = (fl32 c q).toInt32 := by
  have hb := (bits32 h1 h2 h3 h4).1
  obtain ⟨e, he⟩ : ∃ e, e = (q + (149 + 1)).toNat := ⟨_, rfl⟩
  have s : Int32.ofNat e <<< ((23 : Int32) &&& 31) = Int32.ofNat (e * 8388608) := shf32 ⟨e, by omega⟩
  rw [← he, mask32 h1 h2]
  rw [s, or32, hor32 (by omega)]
  refine key32 ?_ (by omega)
  have : (fl32 c q).toNat = ((q + 149).toNat + 1) * 8388608 + (c - 8388608) := hb
  rw [this, he, show (q + (149 + 1)).toNat = (q + 149).toNat + 1 by omega]
theorem lf2_32 {c : Nat} {q : Int} {h : AHeap} {v : UInt32} {e : Nat} (h1 : 8388608 ≤ c) (h2 : c < 16777216) (h3 : -23 - 100 ≤ q) (h4 : q ≤ -23) (he : 101 ≤ e) : iter (Sp_bitsOfFloat_b15 v h) Lmax (fl32 c q, Int32.ofNat e, 0) = some (fl32 c (-23), Int32.ofNat (e - (-23 - q).toNat), nI (-23 - q).toNat) := by
  have z : fl32 c q = fl32 c (q + ((0 : Nat) : Int)) := by rw [show q + ((0 : Nat) : Int) = q by omega]
  have z2 : fl32 c (-23) = fl32 c (q + ((-23 - q).toNat : Int)) := by rw [show q + ((-23 - q).toNat : Int) = -23 by omega]
  rw [z, z2]
  refine iter_L (fun j => (fl32 c (q + (j : Int)), Int32.ofNat (e - j), nI j)) (-23 - q).toNat (by omega) ?_ ?_
  · intro j hj
    have hc : ¬ (126 : Int32) ≤ nI j := nI_ge (b := 126) (by omega) (by omega)
    have g := lt32 (q := q + (j : Int)) h1 h2 (by omega) (by omega) one32 (by omega) .g
    have hv := mul32 (q := q + (j : Int)) h1 h2 (by omega) (by omega) two32 (by omega) (by omega)
    rw [show q + (j : Int) + (-23 + 1) + 23 = q + ((j + 1 : Nat) : Int) by omega] at hv
    have hn : n32 (fl32 c (q + ((j + 1 : Nat) : Int))) = some (fl32 c (q + ((j + 1 : Nat) : Int))) := n32_nrm h1 h2 (by omega) (by omega)
    simp only [Sp_bitsOfFloat_b15, if_neg hc, g, if_neg (show ¬ (0 : Int32) ≤ -1 by decide), hv, hn, Option.bind_some, nI_1]
    rw [show e - j = (e - (j + 1)) + 1 by omega, Int32.ofNat_add (e - (j + 1)) 1]
    rw [show Int32.ofNat (e - (j + 1)) + Int32.ofNat 1 + (-1) = Int32.ofNat (e - (j + 1)) from by
      rw [show Int32.ofNat 1 = 1 from rfl]
      rw [Int32.add_assoc, show (1 : Int32) + (-1) = 0 from rfl, Int32.add_zero]]
  · have hc : ¬ (126 : Int32) ≤ nI (-23 - q).toNat := nI_ge (b := 126) (by omega) (by omega)
    have g := ge32 (q := q + ((-23 - q).toNat : Int)) h1 h2 (by omega) (by omega) one32 (by omega) .g
    simp only [Sp_bitsOfFloat_b15, if_neg hc, if_pos g]
theorem Sp_bitsOfFloat_w {c : Nat} {q : Int} {h : AHeap} (h1 : 8388608 ≤ c) (h2 : c < 16777216) (h3 : -23 - 100 ≤ q) (h4 : q ≤ -23) : Sp_bitsOfFloat (fl32 c q) h = some ((fl32 c q).toInt32, h) := by
  have a2 := lf2_32 (q := q) (h := h) (v := fl32 c q) (e := 127) h1 h2 (by omega) (by omega) (by omega)
  rw [show Int32.ofNat 127 = 127 from rfl] at a2
  have hv := mul32 (q := -23) h1 h2 (by omega) (by omega) big32 (by omega) (by omega)
  rw [show (-23 : Int) + 0 + 23 = 0 by omega] at hv
  have hn : n32 (fl32 c 0) = some (fl32 c 0) := n32_nrm h1 h2 (by omega) (by omega)
  unfold Sp_bitsOfFloat
  rw [pos32 h1 h2 (by omega) (by omega), if_pos (by decide), a2, Option.bind_some]
  simp only [Sp_bitsOfFloat_j40]
  rw [hv, hn, Option.bind_some, whole32 h1 h2]
  rw [show 127 - (-23 - q).toNat = (q + (149 + 1)).toNat by omega, mend32 h1 h2 (by omega) (by omega)]
theorem Jxf58ca_floatToIntBits_w {c : Nat} {q : Int} {h : AHeap} (h1 : 8388608 ≤ c) (h2 : c < 16777216) (h3 : -23 - 100 ≤ q) (h4 : q ≤ 80) : Jxf58ca_floatToIntBits (fl32 c q) h = some ((fl32 c q).toInt32, h) := by
  simp only [Jxf58ca_floatToIntBits, Jxf58ca_isNaN, Jxf58ca_isNaN_j11, eqs32 h1 h2 (show -149 ≤ q by omega) (show q ≤ 104 by omega), if_true, bz0, Option.bind_some, bnd2_some, not_true_eq_false, if_false]
theorem Sp_bitsOfFloat_0 {h : AHeap} : Sp_bitsOfFloat 0 h = some (0, h) := by
  unfold Sp_bitsOfFloat
  rw [if_neg (by decide +kernel)]
theorem Jxf58ca_floatToIntBits_0 {h : AHeap} : Jxf58ca_floatToIntBits 0 h = some (0, h) := by
  simp only [Jxf58ca_floatToIntBits, Jxf58ca_isNaN, Jxf58ca_isNaN_j11, show Op.cmpValue (FP.fcmp 0 0) .l = 0 by decide +kernel, if_true, bz0, Option.bind_some, bnd2_some, not_true_eq_false, if_false]
  rfl
/-- a double of significand c, exponent q -/
def fl64 (c : Nat) (q : Int) : UInt64 := UInt64.ofNat (FP.Core.encode FP.Core.b64 (.fin false c q))
theorem fd64 {c : Nat} {q : Int} (h1 : 4503599627370496 ≤ c) (h2 : c < 9007199254740992) (h3 : -1074 ≤ q) (h4 : q ≤ 971) : FP.Core.decode FP.Core.b64 (fl64 c q).toNat = .fin false c q := (bits64 h1 h2 h3 h4).2
theorem pow64 (c : Nat) : FP.Core.nearest (c * 4503599627370496) 4503599627370496 = c := by
  unfold FP.Core.nearest
  rw [Nat.mul_mod_left, if_pos (by omega), Nat.mul_div_cancel _ (by omega)]
theorem mul64 {c : Nat} {q r : Int} {y : UInt64} (h1 : 4503599627370496 ≤ c) (h2 : c < 9007199254740992) (h3 : -1074 ≤ q) (h4 : q ≤ 971) (hy : FP.Core.decode FP.Core.b64 y.toNat = .fin false 4503599627370496 r) (h5 : -1074 ≤ q + r + 52) (h6 : q + r + 52 ≤ 971) : FP.dmul (fl64 c q) y = fl64 c (q + r + 52) := by
  show UInt64.ofNat (FP.Core.encode FP.Core.b64 (FP.Core.round FP.Core.b64 (FP.Core.exactProduct (FP.Core.decode FP.Core.b64 _) (FP.Core.decode FP.Core.b64 _)))) = _
  rw [fd64 h1 h2 h3 h4, hy]
  have l : (c * 4503599627370496).log2 = 52 + 52 := (Nat.log2_eq_iff (by omega)).mpr ⟨by rw [show 2 ^ (52 + 52) = 4503599627370496 * 4503599627370496 from rfl]; exact Nat.mul_le_mul_right _ h1, by rw [show 2 ^ (52 + 52 + 1) = 9007199254740992 * 4503599627370496 from rfl]; exact Nat.mul_lt_mul_of_pos_right h2 (by omega)⟩
  have ld : FP.Core.leading (c * 4503599627370496) 1 = 52 + 52 := by
    unfold FP.Core.leading
    rw [l, show Nat.log2 1 = 0 by decide]
    simp only
    rw [show (((52 + 52 : Nat) : Int) - ((0 : Nat) : Int)).toNat = 52 + 52 by omega, show (-(((52 + 52 : Nat) : Int) - ((0 : Nat) : Int))).toNat = 0 by omega, if_pos (by rw [Nat.one_mul, Nat.pow_zero, Nat.mul_one, show 2 ^ (52 + 52) = 4503599627370496 * 4503599627370496 from rfl]; exact Nat.mul_le_mul_right _ h1)]
    omega
  have qq : FP.Core.quantum FP.Core.b64 (c * 4503599627370496) 1 (q + r) = q + r + 52 := by
    unfold FP.Core.quantum
    rw [ld, show FP.Core.b64.p = 53 from rfl, show FP.Core.b64.qmin = -1074 from rfl]
    omega
  have e : FP.Core.roundRatio FP.Core.b64 false (c * 4503599627370496) 1 (q + r) = .fin false c (q + r + 52) := by
    unfold FP.Core.roundRatio
    rw [if_neg (by omega), qq]
    unfold FP.Core.roundAt FP.Core.unitsNum FP.Core.unitsDen
    rw [show ((q + r) - (q + r + 52)).toNat = 0 by omega, show ((q + r + 52) - (q + r)).toNat = 52 by omega, Nat.pow_zero, Nat.mul_one, Nat.one_mul, show 2 ^ 52 = 4503599627370496 from rfl, pow64, set64 h2 h6]
  unfold FP.Core.exactProduct FP.Core.round
  simp only
  rw [show (false != false) = false from rfl, e]
  rfl
theorem half64 {c : Nat} {q : Int} {y : UInt64} (h1 : 4503599627370496 ≤ c) (h2 : c < 9007199254740992) (h3 : -1074 < q) (h4 : q ≤ 971) (hy : FP.Core.decode FP.Core.b64 y.toNat = .fin false 4503599627370496 (-52 + 1)) : FP.ddiv (fl64 c q) y = fl64 c (q - 1) := by
  show UInt64.ofNat (FP.Core.encode FP.Core.b64 (FP.Core.quotient FP.Core.b64 (FP.Core.decode FP.Core.b64 _) (FP.Core.decode FP.Core.b64 _))) = _
  rw [fd64 h1 h2 (by omega) h4, hy]
  have l : FP.Core.leading c 4503599627370496 = 0 := by
    unfold FP.Core.leading
    rw [log64 h1 h2, log64 (c := 4503599627370496) (by omega) (by omega)]
    simp only [Int.sub_self, Int.neg_zero, Int.toNat_zero, Nat.pow_zero, Nat.mul_one, Int.zero_sub]
    rw [if_pos h1]
  have qq : FP.Core.quantum FP.Core.b64 c 4503599627370496 (q - (-52 + 1)) = q - 1 := by
    unfold FP.Core.quantum
    rw [l, show FP.Core.b64.p = 53 from rfl, show FP.Core.b64.qmin = -1074 from rfl]
    omega
  have e : FP.Core.roundRatio FP.Core.b64 false c 4503599627370496 (q - (-52 + 1)) = .fin false c (q - 1) := by
    unfold FP.Core.roundRatio
    rw [if_neg (by omega), qq]
    unfold FP.Core.roundAt FP.Core.unitsNum FP.Core.unitsDen
    rw [show ((q - (-52 + 1)) - (q - 1)).toNat = 52 by omega, show ((q - 1) - (q - (-52 + 1))).toNat = 0 by omega, Nat.pow_zero, Nat.mul_one, show 2 ^ 52 = 4503599627370496 from rfl, pow64, set64 h2 (by omega)]
  unfold FP.Core.quotient
  simp only
  rw [if_neg (by omega), show (false != false) = false from rfl, e]
  rfl
theorem lt64 {c : Nat} {q r : Int} {y : UInt64} (h1 : 4503599627370496 ≤ c) (h2 : c < 9007199254740992) (h3 : -1074 ≤ q) (h4 : q ≤ 971) (hy : FP.Core.decode FP.Core.b64 y.toNat = .fin false 4503599627370496 r) (hq : q < r) (op : CmpOp) : Op.cmpValue (FP.dcmp (fl64 c q) y) op = -1 := by
  have e : FP.dcmp (fl64 c q) y = some .lt := by
    show FP.Core.order (FP.Core.decode FP.Core.b64 _) (FP.Core.decode FP.Core.b64 _) = _
    rw [fd64 h1 h2 h3 h4, hy]
    unfold FP.Core.order FP.Core.signed FP.Core.inUnits
    simp only
    rw [show min q r = q by omega, show (q - q).toNat = 0 by omega, Nat.pow_zero, Nat.mul_one]
    obtain ⟨k, hk⟩ : ∃ k, (r - q).toNat = k + 1 := ⟨(r - q).toNat - 1, by omega⟩
    rw [hk]
    have : c < 4503599627370496 * 2 ^ (k + 1) := by
      have := Nat.two_pow_pos k
      rw [Nat.pow_succ]
      calc c < 9007199254740992 * 1 := by omega
        _ ≤ 9007199254740992 * 2 ^ k := Nat.mul_le_mul_left _ this
        _ = 4503599627370496 * (2 ^ k * 2) := by omega
    rw [show compare (if false = true then -((c : Nat) : Int) else ((c : Nat) : Int)) (if false = true then -((4503599627370496 * 2 ^ (k + 1) : Nat) : Int) else ((4503599627370496 * 2 ^ (k + 1) : Nat) : Int)) = Ordering.lt from by
      rw [if_neg (by decide), if_neg (by decide)]
      exact Int.compare_eq_lt.mpr (by omega)]
  rw [e]; rfl
theorem ge64 {c : Nat} {q r : Int} {y : UInt64} (h1 : 4503599627370496 ≤ c) (h2 : c < 9007199254740992) (h3 : -1074 ≤ q) (h4 : q ≤ 971) (hy : FP.Core.decode FP.Core.b64 y.toNat = .fin false 4503599627370496 r) (hq : r ≤ q) (op : CmpOp) : 0 ≤ (Op.cmpValue (FP.dcmp (fl64 c q) y) op) := by
  have e : FP.dcmp (fl64 c q) y = some .gt ∨ FP.dcmp (fl64 c q) y = some .eq := by
    show FP.Core.order (FP.Core.decode FP.Core.b64 _) (FP.Core.decode FP.Core.b64 _) = _ ∨ FP.Core.order (FP.Core.decode FP.Core.b64 _) (FP.Core.decode FP.Core.b64 _) = _
    rw [fd64 h1 h2 h3 h4, hy]
    unfold FP.Core.order FP.Core.signed FP.Core.inUnits
    simp only
    rw [show min q r = r by omega, show (r - r).toNat = 0 by omega, Nat.pow_zero, Nat.mul_one]
    generalize (q - r).toNat = k
    have : 4503599627370496 ≤ c * 2 ^ k := by
      have := Nat.two_pow_pos k
      calc 4503599627370496 ≤ c * 1 := by omega
        _ ≤ c * 2 ^ k := Nat.mul_le_mul_left _ this
    rw [if_neg (by decide), if_neg (by decide)]
    by_cases hh : 4503599627370496 = c * 2 ^ k
    · right
      rw [← hh]
      exact congrArg some (Int.compare_eq_eq.mpr rfl)
    · left
      exact congrArg some (Int.compare_eq_gt.mpr (by omega))
  rcases e with e | e
  · rw [e]; exact (show (0 : Int32) ≤ 1 by decide)
  · rw [e]; exact (show (0 : Int32) ≤ 0 by decide)
theorem pos64 {c : Nat} {q : Int} (h1 : 4503599627370496 ≤ c) (h2 : c < 9007199254740992) (h3 : -1074 ≤ q) (h4 : q ≤ 971) : Op.cmpValue (FP.dcmp (fl64 c q) FP.dconst0) .l = 1 := by
  have e : FP.dcmp (fl64 c q) FP.dconst0 = some .gt := by
    show FP.Core.order (FP.Core.decode FP.Core.b64 _) (FP.Core.decode FP.Core.b64 _) = _
    rw [fd64 h1 h2 h3 h4, show FP.Core.decode FP.Core.b64 FP.dconst0.toNat = .fin false 0 (-1074) by decide +kernel]
    unfold FP.Core.order FP.Core.signed FP.Core.inUnits
    simp only
    rw [if_neg (by decide), if_neg (by decide), Nat.zero_mul]
    have : 1 ≤ c * 2 ^ (q - min q (-1074)).toNat := by
      have := Nat.two_pow_pos (q - min q (-1074)).toNat
      calc 1 ≤ c * 1 := by omega
        _ ≤ _ := Nat.mul_le_mul_left _ this
    exact congrArg some (Int.compare_eq_gt.mpr (by omega))
  rw [e]; rfl
theorem eqs64 {c : Nat} {q : Int} (h1 : 4503599627370496 ≤ c) (h2 : c < 9007199254740992) (h3 : -1074 ≤ q) (h4 : q ≤ 971) : Op.cmpValue (FP.dcmp (fl64 c q) (fl64 c q)) .l = 0 := by
  have e : FP.dcmp (fl64 c q) (fl64 c q) = some .eq := by
    show FP.Core.order (FP.Core.decode FP.Core.b64 _) (FP.Core.decode FP.Core.b64 _) = _
    rw [fd64 h1 h2 h3 h4]
    unfold FP.Core.order
    simp only
    exact congrArg some (Int.compare_eq_eq.mpr rfl)
  rw [e]; rfl
theorem two64 : FP.Core.decode FP.Core.b64 (4611686018427387904 : UInt64).toNat = .fin false 4503599627370496 (-52 + 1) := by decide +kernel
theorem one64 : FP.Core.decode FP.Core.b64 FP.dconst1.toNat = .fin false 4503599627370496 (-52) := by decide +kernel
theorem big64 : FP.Core.decode FP.Core.b64 (4841369599423283200 : UInt64).toNat = .fin false 4503599627370496 0 := by decide +kernel
theorem whole64 {c : Nat} (h1 : 4503599627370496 ≤ c) (h2 : c < 9007199254740992) : FP.d2l (fl64 c 0) = Int64.ofNat c := by
  show Int64.ofInt (FP.Core.toInt _ _ (FP.Core.decode FP.Core.b64 _)) = _
  rw [fd64 h1 h2 (by omega) (by omega)]
  unfold FP.Core.toInt FP.Core.truncate FP.Core.signed
  simp only
  rw [if_neg (by decide), show (0 : Int).toNat = 0 from rfl, show (-0 : Int).toNat = 0 from rfl, Nat.pow_zero, Nat.mul_one, Nat.div_one, show max (-2 ^ 63 : Int) (min (2 ^ 63 - 1) (c : Int)) = (c : Int) by omega]
  exact Int64.ofInt_eq_ofNat
theorem an64 (a b : Nat) : Int64.ofNat a &&& Int64.ofNat b = Int64.ofNat (a &&& b) := by
  apply Int64.toBitVec_inj.mp
  rw [Int64.toBitVec_and]
  exact BitVec.ofNat_and.symm
theorem or64 (a b : Nat) : Int64.ofNat a ||| Int64.ofNat b = Int64.ofNat (a ||| b) := by
  apply Int64.toBitVec_inj.mp
  rw [Int64.toBitVec_or]
  exact BitVec.ofNat_or.symm
theorem shf64 : ∀ e : Fin 2048, Int64.ofNat e.1 <<< ((52 : Int32).toInt64 &&& 63) = Int64.ofNat (e.1 * 4503599627370496) := by decide +kernel
theorem key64 {u : UInt64} {n : Nat} (h : u.toNat = n) (hn : n < 2 ^ 64) : Int64.ofNat n = u.toInt64 := by
  apply Int64.toBitVec_inj.mp
  apply BitVec.eq_of_toNat_eq
  show n % 2 ^ 64 = u.toNat
  rw [Nat.mod_eq_of_lt hn, h]
theorem hor64 {e c : Nat} (h2 : c < 4503599627370496) : e * 4503599627370496 ||| c = e * 4503599627370496 + c := by
  have := Nat.two_pow_add_eq_or_of_lt (i := 52) (b := c) h2 e
  rw [Nat.mul_comm]
  exact this.symm
theorem mask64 {c : Nat} (h1 : 4503599627370496 ≤ c) (h2 : c < 9007199254740992) : Int64.ofNat c &&& 4503599627370495 = Int64.ofNat (c - 4503599627370496) := by
  have e : (4503599627370495 : Int64) = Int64.ofNat 4503599627370495 := rfl
  rw [e, an64]
  have e2 : c &&& 4503599627370495 = c % 4503599627370496 := Nat.and_two_pow_sub_one_eq_mod c 52
  rw [e2, show c % 4503599627370496 = c - 4503599627370496 by omega]
theorem mend64 {c : Nat} {q : Int} (h1 : 4503599627370496 ≤ c) (h2 : c < 9007199254740992) (h3 : -1074 ≤ q) (h4 : q ≤ 971) : (Int64.ofNat (q + (1074 + 1)).toNat <<< ((52 : Int32).toInt64 &&& 63)) ||| (Int64.ofNat c &&& 4503599627370495) = (fl64 c q).toInt64 := by
  have hb := (bits64 h1 h2 h3 h4).1
  obtain ⟨e, he⟩ : ∃ e, e = (q + (1074 + 1)).toNat := ⟨_, rfl⟩
  have s : Int64.ofNat e <<< ((52 : Int32).toInt64 &&& 63) = Int64.ofNat (e * 4503599627370496) := shf64 ⟨e, by omega⟩
  rw [← he, mask64 h1 h2]
  rw [s, or64, hor64 (by omega)]
  refine key64 ?_ (by omega)
  have : (fl64 c q).toNat = ((q + 1074).toNat + 1) * 4503599627370496 + (c - 4503599627370496) := hb
  rw [this, he, show (q + (1074 + 1)).toNat = (q + 1074).toNat + 1 by omega]
theorem lf1_64 {c : Nat} {q : Int} {h : AHeap} {v : UInt64} (h1 : 4503599627370496 ≤ c) (h2 : c < 9007199254740992) (h3 : -52 - 100 ≤ q) (h4 : q ≤ 80) : iter (Sp_bitsOfDouble_b18 v h) Lmax (fl64 c q, 1023, 0) = some (fl64 c (q - ((q + 52).toNat : Int)), Int64.ofNat (1023 + (q + 52).toNat), nI (q + 52).toNat) := by
  have z : fl64 c q = fl64 c (q - ((0 : Nat) : Int)) := by rw [show q - ((0 : Nat) : Int) = q by omega]
  rw [z]
  refine iter_L (fun j => (fl64 c (q - (j : Int)), Int64.ofNat (1023 + j), nI j)) (q + 52).toNat (by omega) ?_ ?_
  · intro j hj
    have hc : ¬ (1024 : Int32) ≤ nI j := nI_ge (b := 1024) (by omega) (by omega)
    have g := ge64 (q := q - (j : Int)) h1 h2 (by omega) (by omega) two64 (by omega) .l
    have g' : ¬ (Op.cmpValue (FP.dcmp (fl64 c (q - (j : Int))) 4611686018427387904) .l) < 0 := Int32.not_lt.mpr g
    have hv := half64 (q := q - (j : Int)) h1 h2 (by omega) (by omega) two64
    have hn : n64 (fl64 c (q - (j : Int) - 1)) = some (fl64 c (q - (j : Int) - 1)) := n64_nrm h1 h2 (by omega) (by omega)
    simp only [Sp_bitsOfDouble_b18, if_neg hc, if_neg g', hv, hn, Option.bind_some, nI_1]
    rw [show q - (j : Int) - 1 = q - ((j + 1 : Nat) : Int) by omega, show 1023 + (j + 1) = (1023 + j) + 1 by omega, Int64.ofNat_add (1023 + j) 1]
    rfl
  · have hc : ¬ (1024 : Int32) ≤ nI (q + 52).toNat := nI_ge (b := 1024) (by omega) (by omega)
    have g := lt64 (q := q - ((q + 52).toNat : Int)) h1 h2 (by omega) (by omega) two64 (by omega) .l
    simp only [Sp_bitsOfDouble_b18, if_neg hc, g, if_pos (show (-1 : Int32) < 0 by decide)]
theorem lf2_64 {c : Nat} {q : Int} {h : AHeap} {v : UInt64} {e : Nat} (h1 : 4503599627370496 ≤ c) (h2 : c < 9007199254740992) (h3 : -52 - 100 ≤ q) (h4 : q ≤ -52) (he : 101 ≤ e) : iter (Sp_bitsOfDouble_b55 v h) Lmax (fl64 c q, Int64.ofNat e, 0) = some (fl64 c (-52), Int64.ofNat (e - (-52 - q).toNat), nI (-52 - q).toNat) := by
  have z : fl64 c q = fl64 c (q + ((0 : Nat) : Int)) := by rw [show q + ((0 : Nat) : Int) = q by omega]
  have z2 : fl64 c (-52) = fl64 c (q + ((-52 - q).toNat : Int)) := by rw [show q + ((-52 - q).toNat : Int) = -52 by omega]
  rw [z, z2]
  refine iter_L (fun j => (fl64 c (q + (j : Int)), Int64.ofNat (e - j), nI j)) (-52 - q).toNat (by omega) ?_ ?_
  · intro j hj
    have hc : ¬ (1022 : Int32) ≤ nI j := nI_ge (b := 1022) (by omega) (by omega)
    have g := lt64 (q := q + (j : Int)) h1 h2 (by omega) (by omega) one64 (by omega) .g
    have hv := mul64 (q := q + (j : Int)) h1 h2 (by omega) (by omega) two64 (by omega) (by omega)
    rw [show q + (j : Int) + (-52 + 1) + 52 = q + ((j + 1 : Nat) : Int) by omega] at hv
    have hn : n64 (fl64 c (q + ((j + 1 : Nat) : Int))) = some (fl64 c (q + ((j + 1 : Nat) : Int))) := n64_nrm h1 h2 (by omega) (by omega)
    simp only [Sp_bitsOfDouble_b55, if_neg hc, g, if_neg (show ¬ (0 : Int32) ≤ -1 by decide), hv, hn, Option.bind_some, nI_1]
    rw [show e - j = (e - (j + 1)) + 1 by omega, Int64.ofNat_add (e - (j + 1)) 1]
    rw [show Int64.ofNat (e - (j + 1)) + Int64.ofNat 1 - 1 = Int64.ofNat (e - (j + 1)) from by
      rw [show Int64.ofNat 1 = 1 from rfl]
      exact Int64.add_sub_cancel _ _]
  · have hc : ¬ (1022 : Int32) ≤ nI (-52 - q).toNat := nI_ge (b := 1022) (by omega) (by omega)
    have g := ge64 (q := q + ((-52 - q).toNat : Int)) h1 h2 (by omega) (by omega) one64 (by omega) .g
    simp only [Sp_bitsOfDouble_b55, if_neg hc, if_pos g]
theorem Sp_bitsOfDouble_w {c : Nat} {q : Int} {h : AHeap} (h1 : 4503599627370496 ≤ c) (h2 : c < 9007199254740992) (h3 : -52 - 100 ≤ q) (h4 : q ≤ 80) : Sp_bitsOfDouble (fl64 c q) h = some ((fl64 c q).toInt64, h) := by
  have a1 := lf1_64 (h := h) (v := fl64 c q) h1 h2 h3 h4
  have a2 := lf2_64 (q := q - ((q + 52).toNat : Int)) (h := h) (v := fl64 c q) (e := 1023 + (q + 52).toNat) h1 h2 (by omega) (by omega) (by omega)
  have hv := mul64 (q := -52) h1 h2 (by omega) (by omega) big64 (by omega) (by omega)
  rw [show (-52 : Int) + 0 + 52 = 0 by omega] at hv
  have hn : n64 (fl64 c 0) = some (fl64 c 0) := n64_nrm h1 h2 (by omega) (by omega)
  unfold Sp_bitsOfDouble
  rw [pos64 h1 h2 (by omega) (by omega), if_pos (by decide), a1, Option.bind_some]
  simp only [Sp_bitsOfDouble_j52]
  rw [a2, Option.bind_some]
  simp only [Sp_bitsOfDouble_j87]
  rw [hv, hn, Option.bind_some, whole64 h1 h2]
  rw [show 1023 + (q + 52).toNat - (-52 - (q - ((q + 52).toNat : Int))).toNat = (q + (1074 + 1)).toNat by omega, mend64 h1 h2 (by omega) (by omega)]
theorem Jxe99ae_doubleToLongBits_w {c : Nat} {q : Int} {h : AHeap} (h1 : 4503599627370496 ≤ c) (h2 : c < 9007199254740992) (h3 : -52 - 100 ≤ q) (h4 : q ≤ 80) : Jxe99ae_doubleToLongBits (fl64 c q) h = some ((fl64 c q).toInt64, h) := by
  simp only [Jxe99ae_doubleToLongBits, Jxe99ae_isNaN, Jxe99ae_isNaN_j11, eqs64 h1 h2 (show -1074 ≤ q by omega) (show q ≤ 971 by omega), if_true, bz0, Option.bind_some, bnd2_some, not_true_eq_false, if_false]
theorem Sp_bitsOfDouble_0 {h : AHeap} : Sp_bitsOfDouble 0 h = some (0, h) := by
  unfold Sp_bitsOfDouble
  rw [if_neg (by decide +kernel)]
theorem Jxe99ae_doubleToLongBits_0 {h : AHeap} : Jxe99ae_doubleToLongBits 0 h = some (0, h) := by
  simp only [Jxe99ae_doubleToLongBits, Jxe99ae_isNaN, Jxe99ae_isNaN_j11, show Op.cmpValue (FP.dcmp 0 0) .l = 0 by decide +kernel, if_true, bz0, Option.bind_some, bnd2_some, not_true_eq_false, if_false]
  rfl
