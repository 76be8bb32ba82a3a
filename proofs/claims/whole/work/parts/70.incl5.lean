theorem Bnds_include_w {w : Wd} {a m i : Nat} {cs : List (List Int32)} (ha : isCt a m) (hw : WL w) (hg : wfP (pdW w 2)) (hi : i < m) (hc : cutOk (ctW w a i)) (hb : bdA w (pdW w 2) cs) : ∃ w', Bnds_include 33 2 a (nI i) (hp w) = some ((), hp w') ∧ WL w' ∧ Fr w w' 34 36 ∧ bdA w' (pdW w 2) (cs ++ [ctW w a i]) := by
  have hm := ha.2.2.2
  obtain ⟨cc, hcc, hc0⟩ := id hc
  have L1 := ctL1 ha hw
  have L2 := ctL2 ha hw
  obtain ⟨W', k, f1, f2⟩ := inc_d (w := w) (W := w) (cs := cs) (cut := ctW w a i) (v2 := a) (v3 := nI i) hg hcc hc0 ⟨hw, Fr.rfl', fun plan hp' hv => by rw [if_neg (by omega)]; exact hb plan hp' hv⟩
  refine ⟨W', ?_, f2.1, f2.2.1, fun plan hp' hv => ?_⟩
  · have j : Bnds_include_j59 33 2 a (nI i) (baseP (pdW w 2) (ctW w a i)) (slopeP (pdW w 2) (ctW w a i) 0) (slopeP (pdW w 2) (ctW w a i) 1) (slopeP (pdW w 2) (ctW w a i) 2) (slopeP (pdW w 2) (ctW w a i) 3) (b2i (decide (cK (ctW w a i) 1 = 1))) (hp w) = some ((), hp W') := by
      unfold Bnds_include_j59
      simp only [ctR2 ha, Option.bind_some]
      rw [ald_w (j := i) ha.2.1.1 rfl (by omega) (by omega), ← cK_0, hc0]
      simp only [Option.bind_some]
      rw [show nI cc * 256 = nI (cc * 256) from nI_mul cc 256, f1]
      simp only [Option.bind_some, Bnds_include_j274]
    have q0 := Cuts_slopeOf_w ha isPg_2 hw hg hi (show 0 < 4 by omega)
    have q1 := Cuts_slopeOf_w ha isPg_2 hw hg hi (show 1 < 4 by omega)
    have q2 := Cuts_slopeOf_w ha isPg_2 hw hg hi (show 2 < 4 by omega)
    have q3 := Cuts_slopeOf_w ha isPg_2 hw hg hi (show 3 < 4 by omega)
    unfold Bnds_include
    simp only [ctK ha, Option.bind_some, Cuts_baseOf_w ha isPg_2 hw hg hi hc, bnd2_some]
    rw [show (0 : Int32) = nI 0 from rfl, q0]
    simp only [ctK ha, Option.bind_some, bnd2_some]
    rw [show (1 : Int32) = nI 1 from rfl, q1]
    simp only [ctK ha, Option.bind_some, bnd2_some]
    rw [show (2 : Int32) = nI 2 from rfl, q2]
    simp only [ctK ha, Option.bind_some, bnd2_some]
    rw [show (3 : Int32) = nI 3 from rfl, q3]
    simp only [ctR3 ha, Option.bind_some, bnd2_some]
    rw [ald_w (j := i) ha.2.1.2.1 rfl (by omega) (by omega), ← cK_1]
    simp only [Option.bind_some]
    by_cases hr : cK (ctW w a i) 1 = nI 1
    · rw [if_neg (fun h => h hr)]
      have e : b2i (decide (cK (ctW w a i) 1 = 1)) = nI 1 := by rw [hr]; rfl
      rw [e] at j
      exact j
    · rw [if_pos hr]
      have e : b2i (decide (cK (ctW w a i) 1 = 1)) = nI 0 := by
        have : ¬ cK (ctW w a i) 1 = 1 := hr
        simp [this, b2i, nI_0]
      rw [e] at j
      exact j
  · have := f2.2.2 plan hp' hv
    rw [if_pos hp'] at this
    exact this
