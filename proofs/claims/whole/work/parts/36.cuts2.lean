theorem nI_m4 (i p : Nat) : nI i * 4 + nI p = nI (i * 4 + p) := nI_ma i 4 p
theorem nI_m6 (i p : Nat) : nI i * 6 + nI p = nI (i * 6 + p) := nI_ma i 6 p
theorem nI_k4 (i : Nat) : nI i * 4 = nI (i * 4) := nI_mul i 4
theorem nI_k6 (i : Nat) : nI i * 6 = nI (i * 6) := nI_mul i 6
def cK (c : List Int32) (k : Nat) : Int32 := c.getD k 0
def cutOk (c : List Int32) : Prop := ∃ n, n < 4 ∧ cK c 0 = nI n
def baseP (g : PD) (c : List Int32) : Int32 := sumN (fun s => pNeed g (cK c 0).toNatClampNeg s * cK c (7 + s)) (pNs g)
def slopeP (g : PD) (c : List Int32) (p : Nat) : Int32 := pSize g p * cK c (3 + p)
def valP (g : PD) (c : List Int32) (plan : Int32) : Int32 := baseP g c - sumN (fun p => unitsI plan p * slopeP g c p) (pNp g)
def badP (g : PD) (c : List Int32) (p s : Nat) : Bool := decide (¬ pToll g p s = -1) && decide (¬ cK c (7 + s) ≤ cK c (3 + p) + (if cK c 1 = 1 then 0 else pToll g p s))
def holdsP (g : PD) (c : List Int32) : Bool := (List.range (pNp g)).all fun p => (List.range (pNs g)).all fun s => !badP g c p s
def raysP (cs : List (List Int32)) : Int32 := sumN (fun i => cK (cs.getD i []) 1) cs.length
theorem cK_W {w : Wd} {a i k : Nat} (h : k < 13) : cK (ctW w a i) k = ctF w a i k := ctW_k h
theorem cK_v {w : Wd} {a i s : Nat} (h : s < 6) : cK (ctW w a i) (7 + s) = (w.1 (a + 5)).getD (i * 6 + s) 0 := by
  rw [cK_W (by omega), ctF, if_neg (by omega), if_neg (by omega), if_neg (by omega), if_neg (by omega)]
  congr 1; omega
theorem cK_u {w : Wd} {a i p : Nat} (h : p < 4) : cK (ctW w a i) (3 + p) = (w.1 (a + 4)).getD (i * 4 + p) 0 := by
  rw [cK_W (by omega), ctF, if_neg (by omega), if_neg (by omega), if_neg (by omega), if_pos (by omega)]
  congr 1; omega
theorem cK_0 {w : Wd} {a i : Nat} : cK (ctW w a i) 0 = (w.1 (a + 1)).getD i 0 := cK_W (by omega)
theorem cK_1 {w : Wd} {a i : Nat} : cK (ctW w a i) 1 = (w.1 (a + 2)).getD i 0 := cK_W (by omega)
theorem cK_2 {w : Wd} {a i : Nat} : cK (ctW w a i) 2 = (w.1 (a + 3)).getD i 0 := cK_W (by omega)
theorem Cuts_slopeOf_w {w : Wd} {a m b i p : Nat} (ha : isCt a m) (hb : isPg b) (hw : WL w) (hg : wfP (pdW w b)) (hi : i < m) (hp' : p < 4) : Cuts_slopeOf a b (nI i) (nI p) (hp w) = some (slopeP (pdW w b) (ctW w a i) p, hp w) := by
  have hm := ha.2.2.2
  have hl : (w.1 (b + 2)).length = 4 := hg.2.1.2.1
  have L4 := ctL4 ha hw
  simp only [Cuts_slopeOf, pgR4 hb, ctR5 ha, Option.bind_some]
  rw [ald_w (j := p) hb.2.2.1 rfl (by omega) (by omega)]
  simp only [Option.bind_some]
  rw [nI_m4, ald_w (j := i * 4 + p) ha.2.1.2.2.2.1 rfl (by omega) (by omega)]
  simp only [Option.bind_some, slopeP, cK_u hp']
  rfl
theorem Cuts_baseOf_w {w : Wd} {a m b i : Nat} (ha : isCt a m) (hb : isPg b) (hw : WL w) (hg : wfP (pdW w b)) (hi : i < m) (hc : cutOk (ctW w a i)) : Cuts_baseOf a b (nI i) (hp w) = some (baseP (pdW w b) (ctW w a i), hp w) := by
  have hm := ha.2.2.2
  have hl : (w.1 (b + 6)).length = 24 := hg.2.1.2.2.2.2.2
  have hns := hg.1.2.1
  have e1 : w.2 b 1 = nI (pNs (pdW w b)) := hns.1
  have L1 := ctL1 ha hw
  have L5 := ctL5 ha hw
  obtain ⟨n, hn, hc⟩ := hc
  have hc0 : (w.1 (a + 1)).getD i 0 = nI n := by rw [← cK_0, hc]
  have hit : iter (Cuts_baseOf_b5 a b (nI i) (hp w)) Lmax (0, 0) = some (baseP (pdW w b) (ctW w a i), nI (pNs (pdW w b))) := by
    refine iter_L (fun j => (sumN (fun s => pNeed (pdW w b) (cK (ctW w a i) 0).toNatClampNeg s * cK (ctW w a i) (7 + s)) j, nI j)) (pNs (pdW w b)) (by omega) ?_ ?_
    · intro j hj
      have hcn : ¬ nI (pNs (pdW w b)) ≤ nI j := nI_ge hj (by omega)
      simp only [Cuts_baseOf_b5, pgI1 hb, pgR8 hb, ctR2 ha, ctR6 ha, Option.bind_some, e1, if_neg hcn]
      rw [ald_w (j := i) ha.2.1.1 rfl (by omega) (by omega)]
      simp only [Option.bind_some, hc0]
      rw [nI_m6, nI_m6, ald_w (j := n * 6 + j) hb.2.2.2.2.2.2 rfl (by omega) (by omega)]
      simp only [Option.bind_some]
      rw [ald_w (j := i * 6 + j) ha.2.1.2.2.2.2 rfl (by omega) (by omega)]
      simp only [Option.bind_some, sumN, nI_1, hc, nI_clamp (show n < 2 ^ 31 by omega), cK_v (show j < 6 by omega)]
      rfl
    · have hcn : nI (pNs (pdW w b)) ≤ nI (pNs (pdW w b)) := nI_le (Nat.le_refl _) (by omega)
      simp only [Cuts_baseOf_b5, pgI1 hb, Option.bind_some, e1, if_pos hcn]
      rfl
  simp only [Cuts_baseOf, hit, Option.bind_some, Cuts_baseOf_j53]
theorem Cuts_valueAt_w {w : Wd} {a m b i : Nat} {plan : Int32} (ha : isCt a m) (hb : isPg b) (hw : WL w) (hg : wfP (pdW w b)) (hi : i < m) (hc : cutOk (ctW w a i)) : Cuts_valueAt a b (nI i) plan (hp w) = some (valP (pdW w b) (ctW w a i) plan, hp w) := by
  have hnp := hg.1.1
  have e0 : w.2 b 0 = nI (pNp (pdW w b)) := hnp.1
  have hit : iter (Cuts_valueAt_b11 a b (nI i) plan) Lmax (baseP (pdW w b) (ctW w a i), 0, hp w) = some (valP (pdW w b) (ctW w a i) plan, nI (pNp (pdW w b)), hp w) := by
    have e : (baseP (pdW w b) (ctW w a i), (0 : Int32), hp w) = (baseP (pdW w b) (ctW w a i) - sumN (fun p => unitsI plan p * slopeP (pdW w b) (ctW w a i) p) 0, nI 0, hp w) := by
      simp [sumN, nI_0]
    rw [e]
    refine iter_L (fun j => (baseP (pdW w b) (ctW w a i) - sumN (fun p => unitsI plan p * slopeP (pdW w b) (ctW w a i) p) j, nI j, hp w)) (pNp (pdW w b)) (by omega) ?_ ?_
    · intro j hj
      have hcn : ¬ nI (pNp (pdW w b)) ≤ nI j := nI_ge hj (by omega)
      simp only [Cuts_valueAt_b11, pgI0 hb, Option.bind_some, e0, if_neg hcn, Sp_unitsIn, bnd2_some, ctK ha, Cuts_slopeOf_w ha hb hw hg hi (show j < 4 by omega), nI_1, sumN]
      congr 3
      unfold unitsI
      grind
    · have hcn : nI (pNp (pdW w b)) ≤ nI (pNp (pdW w b)) := nI_le (Nat.le_refl _) (by omega)
      simp only [Cuts_valueAt_b11, pgI0 hb, Option.bind_some, e0, if_pos hcn]
      rfl
  simp only [Cuts_valueAt, ctK ha, Option.bind_some, Cuts_baseOf_w ha hb hw hg hi hc, bnd2_some, hit, Cuts_valueAt_j46]
theorem cutsW_get {w : Wd} {a i : Nat} (hi : i < cN w a) : (cutsW w a).getD i [] = ctW w a i := by
  unfold cutsW
  rw [List.getD_eq_getElem?_getD, List.getElem?_map, List.getElem?_range hi]; rfl
theorem cutsW_len {w : Wd} {a : Nat} : (cutsW w a).length = cN w a := by simp [cutsW]
theorem Cuts_countRays_w {w : Wd} {a m : Nat} (ha : isCt a m) (hw : WL w) (hz : cSz w a m) : Cuts_countRays a (hp w) = some (raysP (cutsW w a), hp w) := by
  have hm := ha.2.2.2
  have L2 := ctL2 ha hw
  obtain ⟨e1, hz⟩ := hz
  have hit : iter (Cuts_countRays_b4 a (hp w)) Lmax (0, 0) = some (raysP (cutsW w a), nI (cN w a)) := by
    unfold raysP
    rw [cutsW_len]
    refine iter_L (fun j => (sumN (fun i => cK ((cutsW w a).getD i []) 1) j, nI j)) (cN w a) (by omega) ?_ ?_
    · intro j hj
      have hcn : ¬ nI (cN w a) ≤ nI j := nI_ge hj (by omega)
      simp only [Cuts_countRays_b4, ctI1 ha, Option.bind_some]
      rw [e1]
      simp only [if_neg hcn, ctR3 ha, Option.bind_some]
      rw [ald_w (j := j) ha.2.1.2.1 rfl (by omega) (by omega)]
      simp only [Option.bind_some, sumN, nI_1, cutsW_get hj, cK_1]
    · have hcn : nI (cN w a) ≤ nI (cN w a) := nI_le (Nat.le_refl _) (by omega)
      simp only [Cuts_countRays_b4, ctI1 ha, Option.bind_some]
      rw [e1]
      simp only [if_pos hcn]
  simp only [Cuts_countRays, hit, Option.bind_some, Cuts_countRays_j27]
