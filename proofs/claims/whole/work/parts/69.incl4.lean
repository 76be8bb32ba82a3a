theorem inc_c {w W : Wd} {cs : List (List Int32)} {cut : List Int32} {d cc m0 m1 m2 : Nat} {v2 : Nat} {v3 : Int32} (hg : wfP (pdW w 2)) (hm0 : m0 ≤ 3) (e0 : pMost (pdW w 2) 0 = nI m0) (hm1 : m1 ≤ 3) (e1 : pMost (pdW w 2) 1 = nI m1) (hm2 : m2 ≤ 3) (e2 : pMost (pdW w 2) 2 = nI m2) (hd : d < 4) (vd : nI d ≤ pMost (pdW w 2) 3) (hcc : cc < 4) (hc0 : cK cut 0 = nI cc) (hI : incI w W (pdW w 2) cs cut (64 * d)) : ∃ W', iter (Bnds_include_b90 33 2 v2 v3 (baseP (pdW w 2) cut) (slopeP (pdW w 2) cut 0) (slopeP (pdW w 2) cut 1) (slopeP (pdW w 2) cut 2) (slopeP (pdW w 2) cut 3) (b2i (decide (cK cut 1 = 1))) (nI (cc * 256)) (nI d)) Lmax (0, hp W) = some (nI (m2 + 1), hp W') ∧ incI w W' (pdW w 2) cs cut (64 * (d + 1)) := by
  obtain ⟨q, i1, W', rfl, hW'⟩ := iter_I (body := Bnds_include_b90 33 2 v2 v3 (baseP (pdW w 2) cut) (slopeP (pdW w 2) cut 0) (slopeP (pdW w 2) cut 1) (slopeP (pdW w 2) cut 2) (slopeP (pdW w 2) cut 3) (b2i (decide (cK cut 1 = 1))) (nI (cc * 256)) (nI d)) (fun j st => ∃ W, st = (nI j, hp W) ∧ incI w W (pdW w 2) cs cut (64 * d + 16 * j)) (fun r => ∃ W, r = (nI (m2 + 1), hp W) ∧ incI w W (pdW w 2) cs cut (64 * d + 16 * (m2 + 1))) (m2 + 1) (s0 := (0, hp W)) (by omega) ⟨W, rfl, hI⟩ (by
    rintro j st hj ⟨W, rfl, hI⟩
    left
    have L5 := l5 hI.1
    have egW : pdW W 2 = pdW w 2 := pd_fr hI.2.1 (by omega)
    have em : (W.1 5).getD 2 0 = pMost (pdW w 2) 2 := by rw [← egW]; rfl
    obtain ⟨W', f1, f2⟩ := inc_b (v2 := v2) (v3 := v3) (c := j) hg hm0 e0 hm1 e1 (by omega) hd (by rw [e2]; exact nI_le (by omega) (by omega)) vd hcc hc0 hI
    refine ⟨(nI (j + 1), hp W'), ?_, W', rfl, f2⟩
    simp only [Bnds_include_b90, c2_5, Option.bind_some]
    rw [ald_w (i := 2) (j := 2) s5 rfl (by omega) (by omega)]
    simp only [Option.bind_some]
    rw [em, e2, if_neg (nI_nlt (by omega) (by omega))]
    simp only [f1, Option.bind_some, Bnds_include_j262, nI_1]) (by
    rintro st ⟨W, rfl, hI⟩
    have L5 := l5 hI.1
    have egW : pdW W 2 = pdW w 2 := pd_fr hI.2.1 (by omega)
    have em : (W.1 5).getD 2 0 = pMost (pdW w 2) 2 := by rw [← egW]; rfl
    refine ⟨(nI (m2 + 1), hp W), ?_, W, rfl, hI⟩
    simp only [Bnds_include_b90, c2_5, Option.bind_some]
    rw [ald_w (i := 2) (j := 2) s5 rfl (by omega) (by omega)]
    simp only [Option.bind_some]
    rw [em, e2, if_pos (nI_lt (by omega) (by omega))])
  refine ⟨W', i1, hW'.jump ?_⟩
  intro plan hp' hv
  have := plan_digit hp' hv (show 2 < 4 by omega)
  rw [e2, nI_leI (by omega) (by omega)] at this
  have e : plan / 4 ^ 2 % 4 = plan / 16 % 4 := by omega
  omega
theorem inc_d {w W : Wd} {cs : List (List Int32)} {cut : List Int32} {cc : Nat} {v2 : Nat} {v3 : Int32} (hg : wfP (pdW w 2)) (hcc : cc < 4) (hc0 : cK cut 0 = nI cc) (hI : incI w W (pdW w 2) cs cut 0) : ∃ W' k, iter (Bnds_include_b76 33 2 v2 v3 (baseP (pdW w 2) cut) (slopeP (pdW w 2) cut 0) (slopeP (pdW w 2) cut 1) (slopeP (pdW w 2) cut 2) (slopeP (pdW w 2) cut 3) (b2i (decide (cK cut 1 = 1))) (nI (cc * 256))) Lmax (0, hp W) = some (k, hp W') ∧ incI w W' (pdW w 2) cs cut 256 := by
  obtain ⟨m0, hm0, e0⟩ := most_nI hg (show 0 < 4 by omega)
  obtain ⟨m1, hm1, e1⟩ := most_nI hg (show 1 < 4 by omega)
  obtain ⟨m2, hm2, e2⟩ := most_nI hg (show 2 < 4 by omega)
  obtain ⟨m3, hm3, e3⟩ := most_nI hg (show 3 < 4 by omega)
  obtain ⟨q, i1, W', rfl, hW'⟩ := iter_I (body := Bnds_include_b76 33 2 v2 v3 (baseP (pdW w 2) cut) (slopeP (pdW w 2) cut 0) (slopeP (pdW w 2) cut 1) (slopeP (pdW w 2) cut 2) (slopeP (pdW w 2) cut 3) (b2i (decide (cK cut 1 = 1))) (nI (cc * 256))) (fun j st => ∃ W, st = (nI j, hp W) ∧ incI w W (pdW w 2) cs cut (64 * j)) (fun r => ∃ W, r = (nI (m3 + 1), hp W) ∧ incI w W (pdW w 2) cs cut (64 * (m3 + 1))) (m3 + 1) (s0 := (0, hp W)) (by omega) ⟨W, rfl, hI⟩ (by
    rintro j st hj ⟨W, rfl, hI⟩
    left
    have L5 := l5 hI.1
    have egW : pdW W 2 = pdW w 2 := pd_fr hI.2.1 (by omega)
    have em : (W.1 5).getD 3 0 = pMost (pdW w 2) 3 := by rw [← egW]; rfl
    obtain ⟨W', f1, f2⟩ := inc_c (v2 := v2) (v3 := v3) (d := j) hg hm0 e0 hm1 e1 hm2 e2 (by omega) (by rw [e3]; exact nI_le (by omega) (by omega)) hcc hc0 hI
    refine ⟨(nI (j + 1), hp W'), ?_, W', rfl, f2⟩
    simp only [Bnds_include_b76, c2_5, Option.bind_some]
    rw [ald_w (i := 3) (j := 3) s5 rfl (by omega) (by omega)]
    simp only [Option.bind_some]
    rw [em, e3, if_neg (nI_nlt (by omega) (by omega))]
    simp only [f1, Option.bind_some, Bnds_include_j268, nI_1]) (by
    rintro st ⟨W, rfl, hI⟩
    have L5 := l5 hI.1
    have egW : pdW W 2 = pdW w 2 := pd_fr hI.2.1 (by omega)
    have em : (W.1 5).getD 3 0 = pMost (pdW w 2) 3 := by rw [← egW]; rfl
    refine ⟨(nI (m3 + 1), hp W), ?_, W, rfl, hI⟩
    simp only [Bnds_include_b76, c2_5, Option.bind_some]
    rw [ald_w (i := 3) (j := 3) s5 rfl (by omega) (by omega)]
    simp only [Option.bind_some]
    rw [em, e3, if_pos (nI_lt (by omega) (by omega))])
  refine ⟨W', _, i1, hW'.jump ?_⟩
  intro plan hp' hv
  have := plan_digit hp' hv (show 3 < 4 by omega)
  rw [e3, nI_leI (by omega) (by omega)] at this
  have e : plan / 4 ^ 3 % 4 = plan / 64 % 4 := by omega
  omega
