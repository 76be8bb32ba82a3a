/-! the engine: total of the master, bounds moved -/
theorem Eng_masterTotal_w {w : Wd} {n : Nat} (hw : WL w) (hg : wfP (pdW w 2)) (h6 : w.2 17 6 = nI n) (hpr : ∀ c, c < pNc (pdW w 2) → priceR (pdW w 2) c (nI n) ((w.1 36).getD c 0)) : Eng_masterTotal 17 2 (hp w) = some (totalP (pdW w 2) (nI n), hp w) := by
  have hnc := hg.1.2.2
  have e2 : w.2 2 2 = nI (pNc (pdW w 2)) := hnc.1
  have L36 := l36 hw
  have L7 := l7 hw
  obtain ⟨q, i1, hq⟩ := iter_I (body := Eng_masterTotal_b11 17 2 (hp w)) (fun j st => st = (totN (pdW w 2) (nI n) j, nI j) ∧ (List.range j).all (fun c => decide (lackP (pdW w 2) c (nI n) ≤ 0)) = true) (fun r => r = Sum.inr (totalP (pdW w 2) (nI n), nI (pNc (pdW w 2))) ∨ (totalP (pdW w 2) (nI n) = -1 ∧ ∃ a b, r = Sum.inl (a, b))) (pNc (pdW w 2)) (s0 := (feesP (pdW w 2) (nI n), 0)) (by omega) ⟨rfl, rfl⟩ (by
    rintro j st hj ⟨rfl, hall⟩
    have hcn : ¬ nI (pNc (pdW w 2)) ≤ nI j := nI_ge hj (by omega)
    have p2 := hpr j hj
    have a36 : ald 0 (hp w) 36 (nI j) = some ((w.1 36).getD j 0) := ald_w (j := j) s36 rfl (by omega) (by omega)
    have a7 : ald 0 (hp w) 7 (nI j) = some ((w.1 7).getD j 0) := ald_w (j := j) s7 rfl (by omega) (by omega)
    simp only [Eng_masterTotal_b11, c2_2, Option.bind_some, e2, if_neg hcn, c17_2, a36, c2_7, a7, nI_1]
    by_cases hx : (w.1 36).getD j 0 = -1
    · right
      rw [if_neg (fun h => h hx)]
      refine ⟨_, rfl, Or.inr ⟨?_, _, _, rfl⟩⟩
      have hl := (priceR_m1 p2).mp hx
      unfold totalP
      rw [if_neg]
      intro h
      rw [List.all_eq_true] at h
      exact hl (by simpa using h j (List.mem_range.mpr hj))
    · left
      rw [if_pos hx]
      have hl : lackP (pdW w 2) j (nI n) ≤ 0 := by
        apply Decidable.byContradiction
        intro h
        exact hx ((priceR_m1 p2).mpr h)
      refine ⟨_, rfl, ?_, ?_⟩
      · show _ = (totN (pdW w 2) (nI n) j + pWt (pdW w 2) j * priceP (pdW w 2) j (nI n), _)
        rw [priceP_eq p2]
        rfl
      · rw [range_all_succ, hall]
        simp [hl]) (by
    rintro st ⟨rfl, hall⟩
    refine ⟨Sum.inr (totN (pdW w 2) (nI n) (pNc (pdW w 2)), nI (pNc (pdW w 2))), by simp only [Eng_masterTotal_b11, c2_2, Option.bind_some, e2, if_pos (nI_le (Nat.le_refl _) (show pNc (pdW w 2) < 2 ^ 31 by omega))], Or.inl ?_⟩
    unfold totalP
    rw [if_pos hall])
  simp only [Eng_masterTotal, c17_6, h6, k2, Option.bind_some, Prog_feesOf_w isPg_2 hg, bnd2_some, i1]
  rcases hq with rfl | ⟨h1, a, b, rfl⟩
  · simp only [Sum.elim_inr, Eng_masterTotal_j53]
  · simp only [Sum.elim_inl, Eng_masterTotal_j29, h1]
def risP (lo fl : Int32) : Bool := decide (lo = -1) || !decide (fl ≤ lo)
def lowP (lo fl : Int32) : Int32 := if risP lo fl = true then fl else lo
def betP (up tot : Int32) : Bool := !decide (tot = -1) && (decide (up = -1) || !decide (up ≤ tot))
def uppP (up tot : Int32) : Int32 := if betP up tot = true then tot else up
def besP (up tot best m : Int32) : Int32 := if betP up tot = true then m else best
theorem Eng_moveBounds_w {w : Wd} {sa n : Nat} {cs : List (List Int32)} (hsa : isSr sa) (hne : sa ≠ 17) (hw : WL w) (hg : wfP (pdW w 2)) (h6 : w.2 17 6 = nI n) (hn : n < 256) (hpl : isPlanP (pdW w 2) (nI n) = true) (hb : bdA w (pdW w 2) cs) (hpr : ∀ c, c < pNc (pdW w 2) → priceR (pdW w 2) c (nI n) ((w.1 36).getD c 0)) : ∃ w', Eng_moveBounds 17 2 sa (hp w) = some ((), hp w') ∧ w'.1 = w.1 ∧ Fr w w' 17 18 ∧ (∀ k, k ≠ 8 → k ≠ 9 → k ≠ 10 → k ≠ 11 → w'.2 17 k = w.2 17 k) ∧ w'.2 17 11 = b2i (risP (w.2 sa 1) (floorP (pdW w 2) cs (nI n))) ∧ w'.2 17 8 = lowP (w.2 sa 1) (floorP (pdW w 2) cs (nI n)) ∧ w'.2 17 9 = uppP (w.2 sa 2) (totalP (pdW w 2) (nI n)) ∧ w'.2 17 10 = besP (w.2 sa 2) (totalP (pdW w 2) (nI n)) (w.2 sa 3) (nI n) := by
  have hfl := Bnds_floorAt_w hw hg hb hn hpl
  generalize floorP (pdW w 2) cs (nI n) = fl at hfl ⊢
  have hmt : ∀ r t1, Eng_masterTotal 17 2 (hp (wF (wF w 17 11 r) 17 8 t1)) = some (totalP (pdW w 2) (nI n), hp (wF (wF w 17 11 r) 17 8 t1)) := by
    intro r t1
    have hF1 : Fr w (wF (wF w 17 11 r) 17 8 t1) 17 18 := Fr.cF (Fr.F (by omega) (by omega)) (by omega) (by omega)
    have eg : pdW (wF (wF w 17 11 r) 17 8 t1) 2 = pdW w 2 := pd_fr hF1 (by omega)
    have hmt := Eng_masterTotal_w (w := wF (wF w 17 11 r) 17 8 t1) (n := n) (WL.F (WL.F hw)) (by rw [eg]; exact hg) (by rw [wF_n (by omega), wF_n (by omega)]; exact h6) (by rw [eg]; exact hpr)
    rw [eg] at hmt
    exact hmt
  generalize totalP (pdW w 2) (nI n) = tot at hmt ⊢
  have J92 : ∀ (W : Wd) (b : Bool), W.2 17 6 = nI n → W.2 sa 2 = w.2 sa 2 → W.2 sa 3 = w.2 sa 3 → Eng_moveBounds_j92 17 2 sa fl tot (b2i b) (hp W) = some ((), hp (wF (wF W 17 9 (if b = true then tot else w.2 sa 2)) 17 10 (if b = true then nI n else w.2 sa 3))) := by
    intro W b q6 q2 q3
    have g2 : gfI (hp W) sa 7 2 = some (w.2 sa 2) := by rw [gfI_w hsa rfl, q2]
    have g3 : ∀ x, gfI (hp (wF W 17 9 x)) sa 7 3 = some (w.2 sa 3) := fun x => by rw [gfI_w hsa rfl, wF_n (by omega), q3]
    have g6 : ∀ x, gfI (hp (wF W 17 9 x)) 17 3 6 = some (nI n) := fun x => by rw [c17_6, wF_n (by omega), q6]
    unfold Eng_moveBounds_j92
    cases b
    · rw [if_pos (by decide)]
      simp only [g2, Option.bind_some, Eng_moveBounds_j109, p17_9]
      rw [if_pos (by decide)]
      simp only [g3, Option.bind_some, Eng_moveBounds_j129, p17_10]
      rfl
    · rw [if_neg (by decide)]
      simp only [Option.bind_some, Eng_moveBounds_j109, p17_9]
      rw [if_neg (by decide)]
      simp only [g6, Option.bind_some, Eng_moveBounds_j129, p17_10]
      rfl
  have J54 : ∀ r t1, Eng_moveBounds_j54 17 2 sa fl 17 t1 (hp (wF w 17 11 r)) = some ((), hp (wF (wF (wF (wF w 17 11 r) 17 8 t1) 17 9 (uppP (w.2 sa 2) tot)) 17 10 (besP (w.2 sa 2) tot (w.2 sa 3) (nI n)))) := by
    intro r t1
    have g2 : gfI (hp (wF (wF w 17 11 r) 17 8 t1)) sa 7 2 = some (w.2 sa 2) := by rw [gfI_w hsa rfl, wF_n (by omega), wF_n (by omega)]
    have jj := fun b => J92 (wF (wF w 17 11 r) 17 8 t1) b (by rw [wF_n (by omega), wF_n (by omega)]; exact h6) (by rw [wF_n (by omega), wF_n (by omega)]) (by rw [wF_n (by omega), wF_n (by omega)])
    have jb : Eng_moveBounds_j92 17 2 sa fl tot (b2i (betP (w.2 sa 2) tot)) (hp (wF (wF w 17 11 r) 17 8 t1)) = some ((), hp (wF (wF (wF (wF w 17 11 r) 17 8 t1) 17 9 (uppP (w.2 sa 2) tot)) 17 10 (besP (w.2 sa 2) tot (w.2 sa 3) (nI n)))) := jj _
    unfold Eng_moveBounds_j54
    simp only [p17_8, k17, Option.bind_some, hmt, bnd2_some, g2, Eng_moveBounds_j91, Eng_moveBounds_j87]
    by_cases t1 : tot = -1
    · rw [if_pos t1, ← jb]
      simp [betP, t1, b2i]
    · rw [if_neg t1]
      by_cases t2 : w.2 sa 2 = -1
      · rw [if_pos t2, ← jb]
        simp [betP, t1, t2, b2i]
      · rw [if_neg t2]
        by_cases t3 : w.2 sa 2 ≤ tot
        · rw [if_pos t3, ← jb]
          simp [betP, t1, t2, t3, b2i]
        · rw [if_neg t3, ← jb]
          simp [betP, t1, t2, t3, b2i]
  have g1 : gfI (hp w) sa 7 1 = some (w.2 sa 1) := gfI_w hsa rfl
  have J35 : ∀ b : Bool, Eng_moveBounds_j35 17 2 sa fl 17 (b2i b) (hp w) = some ((), hp (wF (wF (wF (wF w 17 11 (b2i b)) 17 8 (if b = true then fl else w.2 sa 1)) 17 9 (uppP (w.2 sa 2) tot)) 17 10 (besP (w.2 sa 2) tot (w.2 sa 3) (nI n)))) := by
    intro b
    have g1' : ∀ x, gfI (hp (wF w 17 11 x)) sa 7 1 = some (w.2 sa 1) := fun x => by rw [gfI_w hsa rfl, wF_n (by omega)]
    have g11 : ∀ x, gfI (hp (wF w 17 11 x)) 17 3 11 = some x := fun x => by rw [c17_11, wF_s]
    unfold Eng_moveBounds_j35
    simp only [bzb, Option.bind_some, p17_11, g11, g1']
    cases b
    · rw [if_pos (by decide), J54]; rfl
    · rw [if_neg (by decide), J54]; rfl
  refine ⟨wF (wF (wF (wF w 17 11 (b2i (risP (w.2 sa 1) fl))) 17 8 (lowP (w.2 sa 1) fl)) 17 9 (uppP (w.2 sa 2) tot)) 17 10 (besP (w.2 sa 2) tot (w.2 sa 3) (nI n)), ?_, rfl, Fr.cF (Fr.cF (Fr.cF (Fr.F (by omega) (by omega)) (by omega) (by omega)) (by omega) (by omega)) (by omega) (by omega), ?_, ?_, ?_, ?_, ?_⟩
  · rw [show wF (wF (wF (wF w 17 11 (b2i (risP (w.2 sa 1) fl))) 17 8 (lowP (w.2 sa 1) fl)) 17 9 (uppP (w.2 sa 2) tot)) 17 10 (besP (w.2 sa 2) tot (w.2 sa 3) (nI n)) = wF (wF (wF (wF w 17 11 (b2i (risP (w.2 sa 1) fl))) 17 8 (if risP (w.2 sa 1) fl = true then fl else w.2 sa 1)) 17 9 (uppP (w.2 sa 2) tot)) 17 10 (besP (w.2 sa 2) tot (w.2 sa 3) (nI n)) from rfl, ← J35]
    unfold Eng_moveBounds
    simp only [c17_1, c17_6, h6, k33, Option.bind_some, hfl, bnd2_some, g1, Eng_moveBounds_j30]
    by_cases t1 : w.2 sa 1 = -1
    · rw [if_pos t1]
      simp [risP, t1, b2i]
    · rw [if_neg t1]
      by_cases t2 : fl ≤ w.2 sa 1
      · rw [if_pos t2]
        simp [risP, t1, t2, b2i]
      · rw [if_neg t2]
        simp [risP, t1, t2, b2i]
  · intro k h8 h9 h10 h11
    rw [wF_n (by omega), wF_n (by omega), wF_n (by omega), wF_n (by omega)]
  · rw [wF_n (by omega), wF_n (by omega), wF_n (by omega), wF_s]
  · rw [wF_n (by omega), wF_n (by omega), wF_s]
  · rw [wF_n (by omega), wF_s]
  · rw [wF_s]
