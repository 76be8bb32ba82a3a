theorem nI_644 (d c b : Nat) : 64 * nI d + 16 * nI c + 4 * nI b = nI (64 * d + 16 * c + 4 * b) := by
  show nI 64 * nI d + nI 16 * nI c + nI 4 * nI b = _
  rw [nI_mul, nI_mul, nI_mul, nI_add, nI_add]
theorem inc_b {w W : Wd} {cs : List (List Int32)} {cut : List Int32} {c d cc m0 m1 : Nat} {v2 : Nat} {v3 : Int32} (hg : wfP (pdW w 2)) (hm0 : m0 ≤ 3) (e0 : pMost (pdW w 2) 0 = nI m0) (hm1 : m1 ≤ 3) (e1 : pMost (pdW w 2) 1 = nI m1) (hc : c < 4) (hd : d < 4) (vc : nI c ≤ pMost (pdW w 2) 2) (vd : nI d ≤ pMost (pdW w 2) 3) (hcc : cc < 4) (hc0 : cK cut 0 = nI cc) (hI : incI w W (pdW w 2) cs cut (64 * d + 16 * c)) : ∃ W', iter (Bnds_include_b104 33 2 v2 v3 (baseP (pdW w 2) cut) (slopeP (pdW w 2) cut 0) (slopeP (pdW w 2) cut 1) (slopeP (pdW w 2) cut 2) (slopeP (pdW w 2) cut 3) (b2i (decide (cK cut 1 = 1))) (nI (cc * 256)) (nI d) (nI c)) Lmax (0, hp W) = some (nI (m1 + 1), hp W') ∧ incI w W' (pdW w 2) cs cut (64 * d + 16 * (c + 1)) := by
  obtain ⟨q, i1, W', rfl, hW'⟩ := iter_I (body := Bnds_include_b104 33 2 v2 v3 (baseP (pdW w 2) cut) (slopeP (pdW w 2) cut 0) (slopeP (pdW w 2) cut 1) (slopeP (pdW w 2) cut 2) (slopeP (pdW w 2) cut 3) (b2i (decide (cK cut 1 = 1))) (nI (cc * 256)) (nI d) (nI c)) (fun j st => ∃ W, st = (nI j, hp W) ∧ incI w W (pdW w 2) cs cut (64 * d + 16 * c + 4 * j)) (fun r => ∃ W, r = (nI (m1 + 1), hp W) ∧ incI w W (pdW w 2) cs cut (64 * d + 16 * c + 4 * (m1 + 1))) (m1 + 1) (s0 := (0, hp W)) (by omega) ⟨W, rfl, hI⟩ (by
    rintro j st hj ⟨W, rfl, hI⟩
    left
    have L5 := l5 hI.1
    have egW : pdW W 2 = pdW w 2 := pd_fr hI.2.1 (by omega)
    have em : (W.1 5).getD 1 0 = pMost (pdW w 2) 1 := by rw [← egW]; rfl
    obtain ⟨W', x, f1, f2⟩ := inc_row (v2 := v2) (v3 := v3) (v13 := nI j) (b := j) hg hm0 e0 (by omega) hc hd (by rw [e1]; exact nI_le (by omega) (by omega)) vc vd hcc hc0 hI
    refine ⟨(nI (j + 1), hp W'), ?_, W', rfl, f2⟩
    simp only [Bnds_include_b104, c2_5, Option.bind_some]
    rw [ald_w (i := 1) (j := 1) s5 rfl (by omega) (by omega)]
    simp only [Option.bind_some]
    rw [em, e1, if_neg (nI_nlt (by omega) (by omega)), nI_644]
    simp only [f1, Option.bind_some, Bnds_include_j256, nI_1]) (by
    rintro st ⟨W, rfl, hI⟩
    have L5 := l5 hI.1
    have egW : pdW W 2 = pdW w 2 := pd_fr hI.2.1 (by omega)
    have em : (W.1 5).getD 1 0 = pMost (pdW w 2) 1 := by rw [← egW]; rfl
    refine ⟨(nI (m1 + 1), hp W), ?_, W, rfl, hI⟩
    simp only [Bnds_include_b104, c2_5, Option.bind_some]
    rw [ald_w (i := 1) (j := 1) s5 rfl (by omega) (by omega)]
    simp only [Option.bind_some]
    rw [em, e1, if_pos (nI_lt (by omega) (by omega))])
  refine ⟨W', i1, hW'.jump ?_⟩
  intro plan hp' hv
  have := plan_digit hp' hv (show 1 < 4 by omega)
  rw [e1, nI_leI (by omega) (by omega)] at this
  have e : plan / 4 ^ 1 % 4 = plan / 4 % 4 := by omega
  omega
