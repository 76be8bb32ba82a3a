/-! the engine: judging, counting what stays, the lowest plan -/
def gapP (lo up : Int32) : UInt32 := if 0 < up then FP.fdiv (FP.i2f (up - lo)) (FP.i2f up) else FP.fconst0
def judP (lo up tol : Int32) : Int32 := if up = -1 then 0 else if lo < up then (if 0 < Op.cmpValue (FP.fcmp (gapP lo up) (FP.fdiv (FP.i2f tol) 1148846080)) .g then 0 else 3) else 1
theorem ti_0 : (0 : Int32).toInt = 0 := rfl
theorem ti_m1 : (-1 : Int32).toInt = -1 := rfl
theorem Sp_gapBetween_w {lo up : Int32} {h : AHeap} (h1 : 0 ≤ lo.toInt) (h2 : lo.toInt ≤ up.toInt) (h3 : up.toInt < 16777216) : Sp_gapBetween lo up h = some (gapP lo up, h) := by
  unfold Sp_gapBetween gapP
  by_cases h0 : 0 < up
  · rw [if_pos h0, if_pos h0]
    have h0' := ti_lt.mp h0
    rw [ti_0] at h0'
    have e : (up - lo).toInt = up.toInt - lo.toInt := ti_sub (by omega) (by omega)
    rw [n32_div (by omega) (by omega) h0' h3]
    rfl
  · rw [if_neg h0, if_neg h0]
theorem tol_ok {tol : Int32} (ht : 0 ≤ tol.toInt ∧ tol.toInt ≤ 1000) : n32 (FP.fdiv (FP.i2f tol) 1148846080) = some (FP.fdiv (FP.i2f tol) 1148846080) := by
  rw [show (1148846080 : UInt32) = FP.i2f 1000 by decide +kernel]
  exact n32_div ht.1 (by omega) (by decide) (by decide)
theorem Eng_judge_w {w : Wd} {tol : Int32} (h1 : 0 ≤ (w.2 17 8).toInt) (h3 : (w.2 17 9).toInt < 16777216) (ht : 0 ≤ tol.toInt ∧ tol.toInt ≤ 1000) : Eng_judge 17 tol (hp w) = some (judP (w.2 17 8) (w.2 17 9) tol, hp w) := by
  unfold Eng_judge judP
  simp only [c17_9, c17_8, Option.bind_some]
  by_cases t1 : w.2 17 9 = -1
  · rw [if_neg (fun h => h t1), if_pos t1]
  · rw [if_pos t1, if_neg t1]
    by_cases t2 : w.2 17 8 < w.2 17 9
    · rw [if_pos t2, if_pos t2]
      have t2' := ti_lt.mp t2
      rw [Sp_gapBetween_w h1 (by omega) h3]
      simp only [bnd2_some, tol_ok ht, Option.bind_some, Eng_judge_j48]
      by_cases t3 : 0 < Op.cmpValue (FP.fcmp (gapP (w.2 17 8) (w.2 17 9)) (FP.fdiv (FP.i2f tol) 1148846080)) .g
      · rw [if_pos t3, if_pos t3]
      · rw [if_neg t3, if_neg t3]
    · rw [if_neg t2, if_neg t2]
def stayP (ris : Bool) (keep : Int32) (n : Nat) (age : Nat → Int32) : Nat := if ris = false ∨ keep = 0 then n else cntB (fun i => !decide (keep ≤ age i)) n
theorem Eng_countStaying_w {w : Wd} {a m : Nat} {keep : Int32} {ris : Bool} (ha : isCt a m) (hw : WL w) (hz : cSz w a m) (h11 : w.2 17 11 = b2i ris) : Eng_countStaying 17 a keep (hp w) = some (nI (stayP ris keep (cN w a) (fun i => (w.1 39).getD i 0)), hp w) := by
  have hm := ha.2.2.2
  have hzm := hz.2
  have e1 : gfI (hp w) a 2 1 = some (nI (cN w a)) := by rw [ctI1 ha, hz.1]
  unfold Eng_countStaying stayP
  simp only [c17_11, h11, Option.bind_some, Eng_countStaying_j11, e1]
  cases ris
  · rw [if_pos (by decide), if_pos (Or.inl rfl)]
  · rw [if_neg (by decide)]
    by_cases hk : keep = 0
    · rw [if_neg (fun h => h hk), if_pos (Or.inr hk)]
    · rw [if_pos hk, if_neg (by simp [hk])]
      have L39 := l39 hw
      generalize hP : (fun i => !decide (keep ≤ (w.1 39).getD i 0)) = P
      have hit : iter (Eng_countStaying_b21 17 a keep (hp w)) Lmax (0, 0) = some (nI (cntB P (cN w a)), nI (cN w a)) := by
        refine iter_L (fun j => (nI (cntB P j), nI j)) (cN w a) (by omega) ?_ ?_
        · intro j hj
          have hcn : ¬ nI (cN w a) ≤ nI j := nI_ge hj (by omega)
          have a39 : ald 0 (hp w) 39 (nI j) = some ((w.1 39).getD j 0) := ald_w (j := j) s39 rfl (by omega) (by omega)
          simp only [Eng_countStaying_b21, e1, Option.bind_some, if_neg hcn, c17_5, a39, Eng_countStaying_j47, nI_1]
          by_cases hx : keep ≤ (w.1 39).getD j 0
          · rw [if_pos hx]
            have hb : P j = false := by rw [← hP]; show (!decide _) = false; rw [decide_eq_true hx]; rfl
            rw [show cntB P (j + 1) = cntB P j + 0 by rw [cntB, if_neg (by rw [hb]; decide)], show nI (cntB P j) + 0 = nI (cntB P j + 0) from nI_add _ 0]
          · rw [if_neg hx]
            have hb : P j = true := by rw [← hP]; show (!decide _) = true; rw [decide_eq_false hx]; rfl
            rw [show cntB P (j + 1) = cntB P j + 1 by rw [cntB, if_pos hb]]
        · simp only [Eng_countStaying_b21, e1, Option.bind_some, if_pos (nI_le (Nat.le_refl _) (show cN w a < 2 ^ 31 by omega))]
      simp only [hit, Option.bind_some, Eng_countStaying_j55]
theorem bkOk_fr {w w' : Wd} {g : PD} (h : bkOk w g) (h1 : w'.1 22 = w.1 22) (h2 : w'.1 23 = w.1 23) (h3 : w'.1 32 = w.1 32) : bkOk w' g := by
  refine ⟨fun c hc => ?_, fun c plan hc hp' => ?_⟩
  · rw [h1, h2]; exact h.1 c hc
  · rw [h3]; exact h.2 c plan hc hp'
theorem bdA_fr {w w' : Wd} {g : PD} {cs : List (List Int32)} (h : bdA w g cs) (h1 : w'.1 34 = w.1 34) (h2 : w'.1 35 = w.1 35) : bdA w' g cs := by
  intro plan hp' hv
  rw [h1, h2]; exact h plan hp' hv
theorem flrT_ne {g : PD} {cs : List (List Int32)} {k : Nat} (h : flrT g cs k ≠ -1) : isPlanP g (nI k) = true ∧ flrT g cs k = floorP g cs (nI k) := by
  unfold flrT at h ⊢
  by_cases hp' : isPlanP g (nI k) = true
  · rw [if_pos hp'] at h ⊢; exact ⟨hp', rfl⟩
  · rw [if_neg hp'] at h; exact absurd rfl h
theorem loP_spec {g : PD} {cs : List (List Int32)} : ∀ k, k ≤ 256 → ((loP g cs k).1 = -1 ∧ ∀ i, i < k → flrT g cs i = -1) ∨ ∃ n, n < k ∧ (loP g cs k).1 = nI n ∧ isPlanP g (nI n) = true ∧ floorP g cs (nI n) ≠ -1 ∧ (loP g cs k).2 = floorP g cs (nI n) ∧ ∀ i, i < k → flrT g cs i ≠ -1 → floorP g cs (nI n) ≤ flrT g cs i := by
  intro k
  induction k with
  | zero => intro _; exact Or.inl ⟨rfl, fun i hi => absurd hi (by omega)⟩
  | succ k ih =>
    intro hk
    have e : loP g cs (k + 1) = if flrT g cs k = -1 then loP g cs k else if (loP g cs k).1 = -1 then (nI k, flrT g cs k) else if (loP g cs k).2 ≤ flrT g cs k then loP g cs k else (nI k, flrT g cs k) := rfl
    by_cases t1 : flrT g cs k = -1
    · rw [if_pos t1] at e
      rw [e]
      rcases ih (by omega) with ⟨h1, h2⟩ | ⟨n, h1, h2, h3, h4, h5, h6⟩
      · refine Or.inl ⟨h1, fun i hi => ?_⟩
        by_cases hik : i = k
        · subst hik; exact t1
        · exact h2 i (by omega)
      · refine Or.inr ⟨n, by omega, h2, h3, h4, h5, fun i hi hne => ?_⟩
        by_cases hik : i = k
        · subst hik; exact absurd t1 hne
        · exact h6 i (by omega) hne
    · rw [if_neg t1] at e
      have ht := flrT_ne t1
      rcases ih (by omega) with ⟨h1, h2⟩ | ⟨n, h1, h2, h3, h4, h5, h6⟩
      · rw [if_pos h1] at e
        rw [e]
        refine Or.inr ⟨k, by omega, rfl, ht.1, by rw [← ht.2]; exact t1, ht.2, fun i hi hne => ?_⟩
        by_cases hik : i = k
        · subst hik; rw [ht.2]; exact Int32.le_refl _
        · exact absurd (h2 i (by omega)) hne
      · have hn1 : ¬ (loP g cs k).1 = -1 := by
          rw [h2]
          intro h
          have := congrArg Int32.toInt h
          have e2 : (nI n).toInt = n := nI_toInt (by omega)
          rw [e2, ti_m1] at this
          omega
        rw [if_neg hn1] at e
        by_cases t3 : (loP g cs k).2 ≤ flrT g cs k
        · rw [if_pos t3] at e
          rw [e]
          refine Or.inr ⟨n, by omega, h2, h3, h4, h5, fun i hi hne => ?_⟩
          by_cases hik : i = k
          · subst hik; rw [← h5]; exact t3
          · exact h6 i (by omega) hne
        · rw [if_neg t3] at e
          rw [e]
          refine Or.inr ⟨k, by omega, rfl, ht.1, by rw [← ht.2]; exact t1, ht.2, fun i hi hne => ?_⟩
          by_cases hik : i = k
          · subst hik; rw [ht.2]; exact Int32.le_refl _
          · have := h6 i (by omega) hne
            rw [h5, ti_le] at t3
            rw [ti_le] at this ⊢
            rw [← ht.2]
            omega
