theorem most_nI {g : PD} (hg : wfP g) {p : Nat} (hp' : p < 4) : ∃ m, m ≤ 3 ∧ pMost g p = nI m := by
  have r := (hg.2.2.1 p hp').2.2
  exact nI_of2 (M := 3) (n := 3) rfl (by rw [ti_lt]; have := r.1; have Z : (0 : Int32).toInt = 0 := rfl; omega) (by rw [ti_le]; exact r.2)
theorem valid_of {g : PD} {plan : Nat} (h : plan < 256) (hd : ∀ p, p < 4 → nI (plan / 4 ^ p % 4) ≤ pMost g p) : isPlanP g (nI plan) = true := by
  unfold isPlanP
  rw [Bool.and_eq_true, List.all_eq_true]
  refine ⟨?_, ?_⟩
  · have a : (0 : Int32) ≤ nI plan := nI_pos' (by omega)
    have b : nI plan < 256 := nI_lt (b := 256) h (by omega)
    simp [a, b]
  · intro p hp'
    have hp2 : p < 4 := List.mem_range.mp hp'
    rw [units_d h hp2]
    simpa using hd p hp2
theorem inc_row {w W : Wd} {cs : List (List Int32)} {cut : List Int32} {b c d cc m0 : Nat} {v2 : Nat} {v3 v13 : Int32} (hg : wfP (pdW w 2)) (hm0 : m0 ≤ 3) (e0 : pMost (pdW w 2) 0 = nI m0) (hb : b < 4) (hc : c < 4) (hd : d < 4) (vb : nI b ≤ pMost (pdW w 2) 1) (vc : nI c ≤ pMost (pdW w 2) 2) (vd : nI d ≤ pMost (pdW w 2) 3) (hcc : cc < 4) (hc0 : cK cut 0 = nI cc) (hI : incI w W (pdW w 2) cs cut (64 * d + 16 * c + 4 * b)) : ∃ W' x, iter (Bnds_include_b158 33 2 v2 v3 (baseP (pdW w 2) cut) (slopeP (pdW w 2) cut 0) (slopeP (pdW w 2) cut 1) (slopeP (pdW w 2) cut 2) (slopeP (pdW w 2) cut 3) (b2i (decide (cK cut 1 = 1))) (nI (cc * 256)) (nI d) (nI c) v13 (nI (64 * d + 16 * c + 4 * b))) Lmax (baseP (pdW w 2) cut - nI d * slopeP (pdW w 2) cut 3 - nI c * slopeP (pdW w 2) cut 2 - nI b * slopeP (pdW w 2) cut 1, 0, hp W) = some (x, nI (m0 + 1), hp W') ∧ incI w W' (pdW w 2) cs cut (64 * d + 16 * c + 4 * (b + 1)) := by
  obtain ⟨q, i1, W', x, rfl, hW'⟩ := iter_I (body := Bnds_include_b158 33 2 v2 v3 (baseP (pdW w 2) cut) (slopeP (pdW w 2) cut 0) (slopeP (pdW w 2) cut 1) (slopeP (pdW w 2) cut 2) (slopeP (pdW w 2) cut 3) (b2i (decide (cK cut 1 = 1))) (nI (cc * 256)) (nI d) (nI c) v13 (nI (64 * d + 16 * c + 4 * b))) (fun j st => ∃ W, st = (baseP (pdW w 2) cut - nI d * slopeP (pdW w 2) cut 3 - nI c * slopeP (pdW w 2) cut 2 - nI b * slopeP (pdW w 2) cut 1 - nI j * slopeP (pdW w 2) cut 0, nI j, hp W) ∧ incI w W (pdW w 2) cs cut (64 * d + 16 * c + 4 * b + j)) (fun r => ∃ W x, r = (x, nI (m0 + 1), hp W) ∧ incI w W (pdW w 2) cs cut (64 * d + 16 * c + 4 * b + (m0 + 1))) (m0 + 1) (s0 := (baseP (pdW w 2) cut - nI d * slopeP (pdW w 2) cut 3 - nI c * slopeP (pdW w 2) cut 2 - nI b * slopeP (pdW w 2) cut 1, 0, hp W)) (by omega) ⟨W, by rw [nI_0, Int32.zero_mul, Int32.sub_zero], hI⟩ (by
    rintro j st hj ⟨W, rfl, hI⟩
    left
    have hpl : isPlanP (pdW w 2) (nI (64 * d + 16 * c + 4 * b + j)) = true := by
      refine valid_of (by omega) (fun p hp' => ?_)
      have : p = 0 ∨ p = 1 ∨ p = 2 ∨ p = 3 := by omega
      rcases this with rfl | rfl | rfl | rfl
      · rw [show (64 * d + 16 * c + 4 * b + j) / 4 ^ 0 % 4 = j by omega, e0]; exact nI_le (by omega) (by omega)
      · rw [show (64 * d + 16 * c + 4 * b + j) / 4 ^ 1 % 4 = b by omega]; exact vb
      · rw [show (64 * d + 16 * c + 4 * b + j) / 4 ^ 2 % 4 = c by omega]; exact vc
      · rw [show (64 * d + 16 * c + 4 * b + j) / 4 ^ 3 % 4 = d by omega]; exact vd
    obtain ⟨W', f1, f2⟩ := inc_step (v2 := v2) (v3 := v3) (v4 := baseP (pdW w 2) cut) (v5 := slopeP (pdW w 2) cut 0) (v6 := slopeP (pdW w 2) cut 1) (v7 := slopeP (pdW w 2) cut 2) (v8 := slopeP (pdW w 2) cut 3) (v11 := nI d) (v12 := nI c) (v13 := v13) (b0 := 64 * d + 16 * c + 4 * b) (a := j) hg hI (by omega) hpl hcc hc0 rfl (by rw [e0]; exact nI_nlt (by omega) (by omega)) (val_digits hg (show j < 4 by omega) hb hc hd).symm
    have ev : ∀ X y : Int32, X - nI j * y - y = X - nI (j + 1) * y := by
      intro X y
      rw [← nI_1]
      grind
    exact ⟨_, f1, W', by rw [ev], f2⟩) (by
    rintro st ⟨W, rfl, hI⟩
    have L5 := l5 hI.1
    have egW : pdW W 2 = pdW w 2 := pd_fr hI.2.1 (by omega)
    have em : (W.1 5).getD 0 0 = pMost (pdW w 2) 0 := by rw [← egW]; rfl
    refine ⟨(baseP (pdW w 2) cut - nI d * slopeP (pdW w 2) cut 3 - nI c * slopeP (pdW w 2) cut 2 - nI b * slopeP (pdW w 2) cut 1 - nI (m0 + 1) * slopeP (pdW w 2) cut 0, nI (m0 + 1), hp W), ?_, W, _, rfl, hI⟩
    simp only [Bnds_include_b158, c2_5, Option.bind_some]
    rw [ald_w (i := 0) (j := 0) s5 rfl (by omega) (by omega)]
    simp only [Option.bind_some]
    rw [em, e0, if_pos (nI_lt (by omega) (by omega))])
  refine ⟨W', x, i1, hW'.jump ?_⟩
  intro plan hp' hv
  have := plan_digit hp' hv (show 0 < 4 by omega)
  rw [e0, nI_leI (by omega) (by omega)] at this
  have e : plan / 4 ^ 0 % 4 = plan % 4 := by omega
  omega
