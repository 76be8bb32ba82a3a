/-! the reference: its row, and what it reads off it -/
def slc (r : List Int32) (a n : Nat) : List Int32 := (List.range n).map (fun k => r.getD (a + k) 0)
def mdG (r : List Int32) : PD := (r.getD 0 0, r.getD 1 0, r.getD 2 0, slc r 11 4, slc r 15 4, slc r 19 4, slc r 23 24, slc r 47 4, slc r 51 24)
def mdC1 (r : List Int32) (i : Nat) : List Int32 := slc r (75 + 13 * i) 13
def mdN (r : List Int32) : Nat := (r.getD 9 0).toNatClampNeg
def mdC (r : List Int32) : List (List Int32) := (List.range (mdN r)).map (mdC1 r)
def mdS (r : List Int32) : List Int32 := [r.getD 3 0, r.getD 4 0, r.getD 5 0, r.getD 6 0, r.getD 7 0, r.getD 8 0, r.getD 10 0]
theorem slc_get {r : List Int32} {a n k : Nat} (h : k < n) : (slc r a n).getD k 0 = r.getD (a + k) 0 := map_range_getD h
theorem m_fee {r : List Int32} {p : Nat} (h : p < 4) : pFee (mdG r) p = r.getD (11 + p) 0 := slc_get h
theorem m_size {r : List Int32} {p : Nat} (h : p < 4) : pSize (mdG r) p = r.getD (15 + p) 0 := slc_get h
theorem m_most {r : List Int32} {p : Nat} (h : p < 4) : pMost (mdG r) p = r.getD (19 + p) 0 := slc_get h
theorem m_toll {r : List Int32} {p s : Nat} (h : p < 4) (h2 : s < 6) : pToll (mdG r) p s = r.getD (23 + 6 * p + s) 0 := by
  rw [show 23 + 6 * p + s = 23 + (p * 6 + s) by omega]
  exact slc_get (by omega)
theorem m_wt {r : List Int32} {c : Nat} (h : c < 4) : pWt (mdG r) c = r.getD (47 + c) 0 := slc_get h
theorem m_need {r : List Int32} {c s : Nat} (h : c < 4) (h2 : s < 6) : pNeed (mdG r) c s = r.getD (51 + 6 * c + s) 0 := by
  rw [show 51 + 6 * c + s = 51 + (c * 6 + s) by omega]
  exact slc_get (by omega)
theorem m_cut {r : List Int32} {i k : Nat} (h : k < 13) : cK (mdC1 r i) k = r.getD (75 + 13 * i + k) 0 := slc_get h
theorem mdC_len {r : List Int32} : (mdC r).length = mdN r := by simp [mdC]
theorem mdC_mem {r : List Int32} {i : Nat} (h : i < mdN r) : mdC1 r i ∈ mdC r := List.mem_map.mpr ⟨i, List.mem_range.mpr h, rfl⟩
theorem nI_abc (a b p s : Nat) : nI a + nI b * nI p + nI s = nI (a + b * p + s) := by rw [nI_mul, nI_add, nI_add]
/-- the reference's row is as it should be -/
def mdOk (r : List Int32) : Prop := wfP (mdG r) ∧ (r.getD 9 0 = nI (mdN r) ∧ mdN r ≤ 99) ∧ csOk (mdG r) (mdC r)
section Md
variable {w : Wd}
theorem ldN (hw : WL w) {i : Int32} {j : Nat} (he : i = nI j) (hj : j < 1427) : ald 0 (hp w) 279 i = some ((w.1 279).getD j 0) := ald_w s279 he (by rw [l279 hw]; exact hj) (by omega)
def isInP (v lo hi : Int32) : Bool := decide (¬ v < lo ∧ ¬ hi < v)
theorem Mod_isIn_w {v lo hi : Int32} {h : AHeap} : Mod_isIn v lo hi h = some (b2i (isInP v lo hi), h) := by
  unfold Mod_isIn isInP
  by_cases h1 : v < lo
  · simp [h1, Mod_isIn_j14, Mod_isIn_j15, bz0, b2i]
  · by_cases h2 : hi < v
    · simp [h1, h2, Mod_isIn_j14, Mod_isIn_j15, bz0, b2i]
    · simp [h1, h2, Mod_isIn_j15, bz1, b2i]
theorem isIn_has {N : Nat} {i : Int32} (hN : N ≤ 1000) : isInP i 0 (nI N - 1) = hasN (nI N) i := by
  have e1 : (1 : Int32).toInt = 1 := rfl
  have e : (nI N - 1).toInt = N - 1 := by rw [ti_sub (by rw [nI_toInt (by omega), e1]; omega) (by rw [nI_toInt (by omega), e1]; omega), nI_toInt (by omega), e1]
  unfold isInP hasN
  have : (nI N - 1 < i) ↔ (nI N ≤ i) := by
    rw [ti_lt, ti_le, e, nI_toInt (by omega)]
    omega
  simp only [this]
theorem Mod_isPlant_w (hw : WL w) (hg : wfP (mdG (w.1 279))) {i : Int32} : Mod_isPlant 274 i (hp w) = some (b2i (hasN ((w.1 279).getD 0 0) i), hp w) := by
  have h := hg.1.1
  have e : (w.1 279).getD 0 0 = nI (pNp (mdG (w.1 279))) := h.1
  have a0 : ald 0 (hp w) 279 0 = some ((w.1 279).getD 0 0) := ldN hw (j := 0) rfl (by omega)
  simp only [Mod_isPlant, c274_5, a0, Option.bind_some, Mod_isIn_w, bnd2_some, bzb]
  rw [e, isIn_has (by omega)]
theorem Mod_isSite_w (hw : WL w) (hg : wfP (mdG (w.1 279))) {i : Int32} : Mod_isSite 274 i (hp w) = some (b2i (hasN ((w.1 279).getD 1 0) i), hp w) := by
  have h := hg.1.2.1
  have e : (w.1 279).getD 1 0 = nI (pNs (mdG (w.1 279))) := h.1
  have a0 : ald 0 (hp w) 279 1 = some ((w.1 279).getD 1 0) := ldN hw (j := 1) rfl (by omega)
  simp only [Mod_isSite, c274_5, a0, Option.bind_some, Mod_isIn_w, bnd2_some, bzb]
  rw [e, isIn_has (by omega)]
theorem Mod_isCase_w (hw : WL w) (hg : wfP (mdG (w.1 279))) {i : Int32} : Mod_isCase 274 i (hp w) = some (b2i (hasN ((w.1 279).getD 2 0) i), hp w) := by
  have h := hg.1.2.2
  have e : (w.1 279).getD 2 0 = nI (pNc (mdG (w.1 279))) := h.1
  have a0 : ald 0 (hp w) 279 2 = some ((w.1 279).getD 2 0) := ldN hw (j := 2) rfl (by omega)
  simp only [Mod_isCase, c274_5, a0, Option.bind_some, Mod_isIn_w, bnd2_some, bzb]
  rw [e, isIn_has (by omega)]
theorem Mod_toll_w (hw : WL w) {p s : Nat} (hp' : p < 4) (hs : s < 6) : Mod_toll 274 (nI p) (nI s) (hp w) = some (pToll (mdG (w.1 279)) p s, hp w) := by
  have a : ald 0 (hp w) 279 (23 + 6 * nI p + nI s) = some ((w.1 279).getD (23 + 6 * p + s) 0) := ldN hw (nI_abc 23 6 p s) (by omega)
  simp only [Mod_toll, c274_5, Option.bind_some, a, m_toll hp' hs]
theorem Mod_needOf_w (hw : WL w) {c s : Nat} (hc : c < 4) (hs : s < 6) : Mod_needOf 274 (nI c) (nI s) (hp w) = some (pNeed (mdG (w.1 279)) c s, hp w) := by
  have a : ald 0 (hp w) 279 (51 + 6 * nI c + nI s) = some ((w.1 279).getD (51 + 6 * c + s) 0) := ldN hw (nI_abc 51 6 c s) (by omega)
  simp only [Mod_needOf, c274_5, Option.bind_some, a, m_need hc hs]
theorem Mod_ofCut_w (hw : WL w) {i k : Nat} (hi : i < 103) (hk : k < 13) : Mod_ofCut 274 (nI i) (nI k) (hp w) = some (cK (mdC1 (w.1 279) i) k, hp w) := by
  have a : ald 0 (hp w) 279 (75 + 13 * nI i + nI k) = some ((w.1 279).getD (75 + 13 * i + k) 0) := ldN hw (nI_abc 75 13 i k) (by omega)
  simp only [Mod_ofCut, c274_5, Option.bind_some, a, m_cut hk]
theorem most_out {g : PD} (hg : wfP g) {p : Nat} (hp' : p < 4) (h : pNp g ≤ p) : pMost g p = 0 := (hg.2.2.2.2.1 p h hp').2.2
theorem Mod_isPlan_w (hw : WL w) (hg : wfP (mdG (w.1 279))) {plan : Int32} : Mod_isPlan 274 plan (hp w) = some (b2i (isPlanP (mdG (w.1 279)) plan), hp w) := by
  have hnp := hg.1.1
  have e0 : ald 0 (hp w) 279 0 = some (nI (pNp (mdG (w.1 279)))) := by rw [ldN hw (i := 0) (j := 0) rfl (by omega)]; exact congrArg some hnp.1
  have main : ∀ j, j < 4 → Mod_isPlan_b15 274 plan (nI j, hp w) = if unitsI plan j ≤ pMost (mdG (w.1 279)) j then some (.inl (nI (j + 1), hp w)) else some (.inr (.inl (nI j, hp w))) := by
    intro j hj
    have hc : ¬ (4 : Int32) ≤ nI j := nI_ge (b := 4) hj (by omega)
    have a1 : ald 0 (hp w) 279 (19 + nI j) = some (pMost (mdG (w.1 279)) j) := by rw [m_most hj]; exact ldN hw (nI_add 19 j) (by omega)
    simp only [Mod_isPlan_b15, if_neg hc, Mod_unitsOf, bnd2_some, c274_5, e0, a1, Option.bind_some, Mod_isPlan_j48, nI_1]
    by_cases hjn : pNp (mdG (w.1 279)) ≤ j
    · rw [if_pos (nI_le hjn (by omega)), most_out hg hj hjn]
      rfl
    · rw [if_neg (nI_ge (by omega) (by omega))]
      rfl
  have hit := iter_E (body := Mod_isPlan_b15 274 plan) (fun j => (nI j, hp w)) 4 (fun j => !decide (unitsI plan j ≤ pMost (mdG (w.1 279)) j)) (q := Sum.inr (nI 4, hp w)) (fun j => Sum.inl (nI j, hp w)) (by decide) ?_ ?_ ?_
  · unfold Mod_isPlan isPlanP
    simp only [Mod_isIn_w, bnd2_some]
    by_cases hb : isInP plan 0 255 = true
    · rw [hb, if_pos (by decide)]
      have hb2 : 0 ≤ plan ∧ plan < 256 := by
        unfold isInP at hb
        rw [decide_eq_true_iff] at hb
        refine ⟨Int32.not_lt.mp hb.1, ?_⟩
        have h2 := hb.2
        rw [ti_lt] at h2 ⊢
        have e1 : (255 : Int32).toInt = 255 := rfl
        have e2 : (256 : Int32).toInt = 256 := rfl
        omega
      have hz : ((0 : Int32), hp w) = (nI 0, hp w) := rfl
      rw [hz, hit]
      simp only [Option.bind_some, hb2, decide_true, Bool.true_and, and_self]
      rw [← find_all]
      cases hf : (List.range 4).find? (fun j => !decide (unitsI plan j ≤ pMost (mdG (w.1 279)) j)) with
      | none => simp [Mod_isPlan_j59, bz1, b2i]
      | some j => simp [Mod_isPlan_j51, bz0, b2i]
    · have hb' : isInP plan 0 255 = false := by simpa using hb
      rw [hb', if_neg (by decide)]
      have hb2 : ¬ (0 ≤ plan ∧ plan < 256) := by
        intro h
        apply hb
        unfold isInP
        rw [decide_eq_true_iff]
        refine ⟨Int32.not_lt.mpr h.1, ?_⟩
        have h2 := h.2
        rw [ti_lt] at h2 ⊢
        have e1 : (255 : Int32).toInt = 255 := rfl
        have e2 : (256 : Int32).toInt = 256 := rfl
        omega
      simp only [bz0, Option.bind_some, hb2, decide_false, Bool.false_and]
      rfl
  · intro j hj hP
    rw [main j hj, if_pos (by simpa using hP)]
  · intro j hj hP
    rw [main j hj, if_neg (by simpa using hP)]
  · have hc : (4 : Int32) ≤ nI 4 := by decide
    simp only [Mod_isPlan_b15, if_pos hc]
theorem Mod_feesOf_w (hw : WL w) (hg : wfP (mdG (w.1 279))) {plan : Int32} : Mod_feesOf 274 plan (hp w) = some (feesP (mdG (w.1 279)) plan, hp w) := by
  have hnp := hg.1.1
  have e0 : ald 0 (hp w) 279 0 = some (nI (pNp (mdG (w.1 279)))) := by rw [ldN hw (i := 0) (j := 0) rfl (by omega)]; exact congrArg some hnp.1
  have hit : iter (Mod_feesOf_b4 274 plan) Lmax (0, 0, hp w) = some (feesP (mdG (w.1 279)) plan, nI (pNp (mdG (w.1 279))), hp w) := by
    refine iter_L (fun j => (sumN (fun p => unitsI plan p * pFee (mdG (w.1 279)) p) j, nI j, hp w)) (pNp (mdG (w.1 279))) (by omega) ?_ ?_
    · intro j hj
      have hc : ¬ nI (pNp (mdG (w.1 279))) ≤ nI j := nI_ge hj (by omega)
      have a1 : ald 0 (hp w) 279 (11 + nI j) = some (pFee (mdG (w.1 279)) j) := by rw [m_fee (by omega)]; exact ldN hw (nI_add 11 j) (by omega)
      simp only [Mod_feesOf_b4, c274_5, e0, Option.bind_some, if_neg hc, Mod_unitsOf, bnd2_some, a1, nI_1]
      rfl
    · simp only [Mod_feesOf_b4, c274_5, e0, Option.bind_some, if_pos (nI_le (Nat.le_refl _) (show pNp (mdG (w.1 279)) < 2 ^ 31 by omega))]
      rfl
  simp only [Mod_feesOf, hit, Option.bind_some, Mod_feesOf_j38]
theorem Mod_stockOf_w (hw : WL w) (hg : wfP (mdG (w.1 279))) {plan : Int32} {p : Nat} (hp' : p < 4) : Mod_stockOf 274 plan (nI p) (hp w) = some (stockP (mdG (w.1 279)) plan p, hp w) := by
  have hnp := hg.1.1
  have e0 : ald 0 (hp w) 279 0 = some (nI (pNp (mdG (w.1 279)))) := by rw [ldN hw (i := 0) (j := 0) rfl (by omega)]; exact congrArg some hnp.1
  have a1 : ald 0 (hp w) 279 (15 + nI p) = some (pSize (mdG (w.1 279)) p) := by rw [m_size hp']; exact ldN hw (nI_add 15 p) (by omega)
  simp only [Mod_stockOf, c274_5, e0, Option.bind_some, Mod_unitsOf, bnd2_some, a1, Mod_stockOf_j29]
  by_cases hjn : pNp (mdG (w.1 279)) ≤ p
  · rw [if_pos (nI_le hjn (by omega))]
    unfold stockP
    rw [size_out hg hp' hjn, Int32.mul_zero]
  · rw [if_neg (nI_ge (by omega) (by omega))]
    rfl
theorem sumN_0 {f : Nat → Int32} {n : Nat} : ∀ k, (∀ i, n ≤ i → i < n + k → f i = 0) → sumN f (n + k) = sumN f n := by
  intro k
  induction k with
  | zero => intro _; rfl
  | succ k ih =>
    intro h
    show sumN f (n + k) + f (n + k) = _
    rw [ih (fun i h1 h2 => h i h1 (by omega)), h (n + k) (by omega) (by omega), Int32.add_zero]
theorem Mod_toldBy_w (hw : WL w) (hg : wfP (mdG (w.1 279))) {i : Nat} {plan : Int32} (hi : i < 103) (hc : ∃ n, n < 4 ∧ cK (mdC1 (w.1 279) i) 0 = nI n) : Mod_toldBy 274 (nI i) plan (hp w) = some (valP (mdG (w.1 279)) (mdC1 (w.1 279) i) plan, hp w) := by
  obtain ⟨n, hn, hn0⟩ := hc
  have hnp := hg.1.1
  have hns := hg.1.2.1
  have o0 : Mod_ofCut 274 (nI i) 0 (hp w) = some (nI n, hp w) := by rw [← hn0]; exact Mod_ofCut_w hw hi (show 0 < 13 by omega)
  have h1 : iter (Mod_toldBy_b5 274 (nI i) plan) Lmax (0, 0, hp w) = some (sumN (fun s => pNeed (mdG (w.1 279)) n s * cK (mdC1 (w.1 279) i) (7 + s)) 6, nI 6, hp w) := by
    refine iter_L (fun j => (sumN (fun s => pNeed (mdG (w.1 279)) n s * cK (mdC1 (w.1 279) i) (7 + s)) j, nI j, hp w)) 6 (by omega) ?_ ?_
    · intro j hj
      have hcn : ¬ (6 : Int32) ≤ nI j := nI_ge (b := 6) hj (by omega)
      have o7 : Mod_ofCut 274 (nI i) (7 + nI j) (hp w) = some (cK (mdC1 (w.1 279) i) (7 + j), hp w) := by
        rw [show (7 : Int32) + nI j = nI (7 + j) from nI_add 7 j]; exact Mod_ofCut_w hw hi (by omega)
      simp only [Mod_toldBy_b5, if_neg hcn, k274, o0, o7, Option.bind_some, bnd2_some, Mod_needOf_w hw hn hj, nI_1]
      rfl
    · simp only [Mod_toldBy_b5, if_pos (show (6 : Int32) ≤ nI 6 by decide)]
  have h2 : iter (Mod_toldBy_b47 274 (nI i) plan) Lmax (sumN (fun s => pNeed (mdG (w.1 279)) n s * cK (mdC1 (w.1 279) i) (7 + s)) 6, 0, hp w) = some (sumN (fun s => pNeed (mdG (w.1 279)) n s * cK (mdC1 (w.1 279) i) (7 + s)) 6 - sumN (fun p => stockP (mdG (w.1 279)) plan p * cK (mdC1 (w.1 279) i) (3 + p)) 4, nI 4, hp w) := by
    generalize sumN (fun s => pNeed (mdG (w.1 279)) n s * cK (mdC1 (w.1 279) i) (7 + s)) 6 = B
    have e : (B, (0 : Int32), hp w) = (B - sumN (fun p => stockP (mdG (w.1 279)) plan p * cK (mdC1 (w.1 279) i) (3 + p)) 0, nI 0, hp w) := by
      simp [sumN, nI_0]
    rw [e]
    refine iter_L (fun j => (B - sumN (fun p => stockP (mdG (w.1 279)) plan p * cK (mdC1 (w.1 279) i) (3 + p)) j, nI j, hp w)) 4 (by omega) ?_ ?_
    · intro j hj
      have hcn : ¬ (4 : Int32) ≤ nI j := nI_ge (b := 4) hj (by omega)
      have o3 : Mod_ofCut 274 (nI i) (3 + nI j) (hp w) = some (cK (mdC1 (w.1 279) i) (3 + j), hp w) := by
        rw [show (3 : Int32) + nI j = nI (3 + j) from nI_add 3 j]; exact Mod_ofCut_w hw hi (by omega)
      have eB : ∀ x y : Int32, B - x - y = B - (x + y) := fun x y => by grind
      simp only [Mod_toldBy_b47, if_neg hcn, k274, o3, Option.bind_some, bnd2_some, Mod_stockOf_w hw hg hj, nI_1, sumN, eB]
    · simp only [Mod_toldBy_b47, if_pos (show (4 : Int32) ≤ nI 4 by decide)]
  simp only [Mod_toldBy, h1, Option.bind_some, Mod_toldBy_j44, h2, Mod_toldBy_j79]
  have q1 : sumN (fun s => pNeed (mdG (w.1 279)) n s * cK (mdC1 (w.1 279) i) (7 + s)) 6 = baseP (mdG (w.1 279)) (mdC1 (w.1 279) i) := by
    have := sumN_0 (f := fun s => pNeed (mdG (w.1 279)) n s * cK (mdC1 (w.1 279) i) (7 + s)) (n := pNs (mdG (w.1 279))) (6 - pNs (mdG (w.1 279))) (fun s h1 h2 => by
      show pNeed (mdG (w.1 279)) n s * _ = 0
      rw [hg.2.2.2.2.2.2.2.2.2.2 n s hn (by omega) (Or.inr h1), Int32.zero_mul])
    rw [show pNs (mdG (w.1 279)) + (6 - pNs (mdG (w.1 279))) = 6 by omega] at this
    rw [this]
    unfold baseP
    rw [hn0, nI_clamp (by omega)]
  have q2 : sumN (fun p => stockP (mdG (w.1 279)) plan p * cK (mdC1 (w.1 279) i) (3 + p)) 4 = sumN (fun p => unitsI plan p * slopeP (mdG (w.1 279)) (mdC1 (w.1 279) i) p) (pNp (mdG (w.1 279))) := by
    have := sumN_0 (f := fun p => stockP (mdG (w.1 279)) plan p * cK (mdC1 (w.1 279) i) (3 + p)) (n := pNp (mdG (w.1 279))) (4 - pNp (mdG (w.1 279))) (fun p h1 h2 => by
      show unitsI plan p * pSize (mdG (w.1 279)) p * _ = 0
      rw [size_out hg (by omega) h1, Int32.mul_zero, Int32.zero_mul])
    rw [show pNp (mdG (w.1 279)) + (4 - pNp (mdG (w.1 279))) = 4 by omega] at this
    rw [this]
    refine sumN_cg _ (fun p hp' => ?_)
    unfold stockP slopeP
    rw [Int32.mul_assoc]
  rw [q1, q2]
  rfl
end Md
