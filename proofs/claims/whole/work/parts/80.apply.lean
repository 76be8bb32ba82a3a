/-! the engine: what was decided is done -/
theorem sumN_cg {f h : Nat → Int32} : ∀ n : Nat, (∀ k, k < n → f k = h k) → sumN f n = sumN h n := by
  intro n
  induction n with
  | zero => intro _; rfl
  | succ n ih => intro hk; unfold sumN; rw [ih (fun k hk' => hk k (by omega)), hk n (by omega)]
theorem val_age {g : PD} (hg : wfP g) {x : Int32} {cut : List Int32} {plan : Int32} : valP g (setAge x cut) plan = valP g cut plan := by
  have h1 := hg.1.1.2
  have h2 := hg.1.2.1.2
  unfold valP baseP slopeP
  rw [setAge_k (show 0 < 13 by omega), if_neg (by omega)]
  rw [sumN_cg (f := fun s => pNeed g (cK cut 0).toNatClampNeg s * cK (setAge x cut) (7 + s)) (h := fun s => pNeed g (cK cut 0).toNatClampNeg s * cK cut (7 + s)) _ (fun s hs => by show _ * cK (setAge x cut) (7 + s) = _; rw [setAge_k (show 7 + s < 13 by omega), if_neg (by omega)])]
  rw [sumN_cg (f := fun p => unitsI plan p * (pSize g p * cK (setAge x cut) (3 + p))) (h := fun p => unitsI plan p * (pSize g p * cK cut (3 + p))) _ (fun p hp' => by show _ * (_ * cK (setAge x cut) (3 + p)) = _; rw [setAge_k (show 3 + p < 13 by omega), if_neg (by omega)])]
theorem rch_age {g : PD} (hg : wfP g) {F : List Int32 → Int32} {c : Nat} {plan : Int32} (cs : List (List Int32)) : rchP g (cs.map (fun c => setAge (F c) c)) c plan = rchP g cs c plan := by
  unfold rchP
  rw [List.foldl_map]
  congr 1
  funext m cut
  unfold rchF
  rw [val_age hg, setAge_k (show 0 < 13 by omega), setAge_k (show 1 < 13 by omega), if_neg (show ¬ (0 : Nat) = 2 by omega), if_neg (show ¬ (1 : Nat) = 2 by omega)]
theorem bar_age {g : PD} (hg : wfP g) {F : List Int32 → Int32} {plan : Int32} (cs : List (List Int32)) : barP g (cs.map (fun c => setAge (F c) c)) plan = barP g cs plan := by
  unfold barP
  rw [List.any_map]
  congr 1
  funext cut
  show (decide (cK (setAge (F cut) cut) 1 = 1) && !decide (valP g (setAge (F cut) cut) plan ≤ 0)) = _
  rw [val_age hg, setAge_k (show 1 < 13 by omega), if_neg (by omega)]
theorem bdA_age {g : PD} (hg : wfP g) {w : Wd} {cs : List (List Int32)} {plan : Int32} (h : bdA w g cs) : bdA w g (agedP g cs plan) := by
  intro p hp' hv
  unfold agedP
  rw [bar_age hg]
  refine ⟨(h p hp' hv).1, fun c hc => ?_⟩
  rw [rch_age hg]
  exact (h p hp' hv).2 c hc
theorem ctW_age {w : Wd} {a i : Nat} {xs : List Int32} : ctW (wA w (a + 3) xs) a i = setAge (xs.getD i 0) (ctW w a i) := by
  unfold setAge
  show (List.range 13).map (ctF (wA w (a + 3) xs) a i) = _
  apply List.map_congr_left
  intro k hk
  have hk' : k < 13 := List.mem_range.mp hk
  rw [cK_W hk']
  unfold ctF
  rw [wA_s, wA_n (show a + 1 ≠ a + 3 by omega), wA_n (show a + 2 ≠ a + 3 by omega), wA_n (show a + 4 ≠ a + 3 by omega), wA_n (show a + 5 ≠ a + 3 by omega)]
  by_cases h2 : k = 2
  · subst h2; rfl
  · simp only [if_neg h2]
theorem sr_get {w : Wd} {a k : Nat} (hk : k < 7) : (srW w a).getD k 0 = w.2 a k := map_range_getD hk
theorem sr_list {w : Wd} {a : Nat} : srW w a = [w.2 a 0, w.2 a 1, w.2 a 2, w.2 a 3, w.2 a 4, w.2 a 5, w.2 a 6] := rfl
theorem last_ct {w w' : Wd} {a m : Nat} {x : List Int32} (h : cutsW w' a = cutsW w a ++ [x]) (hz : cSz w' a m) (hz0 : cSz w a m) : cN w' a = cN w a + 1 ∧ ctW w' a (cN w a) = x := by
  have hl : cN w' a = cN w a + 1 := by
    have := congrArg List.length h
    rw [cutsW_len, List.length_append, cutsW_len] at this
    exact this
  refine ⟨hl, ?_⟩
  rw [← cutsW_get (by omega), h, List.getD_eq_getElem?_getD, List.getElem?_append_right (by rw [cutsW_len]; exact Nat.le_refl _), cutsW_len, Nat.sub_self]
  rfl
theorem filter_succ {P : Nat → Bool} {n : Nat} : (List.range (n + 1)).filter P = (List.range n).filter P ++ if P n = true then [n] else [] := by
  rw [List.range_succ, List.filter_append]
  by_cases h : P n = true
  · simp [List.filter, h]
  · simp [List.filter, h]
/-- new cuts come -/
theorem app_loop {X : Wd} {a m sa : Nat} {keep : Int32} {n : Nat} {P : Nat → Bool} {g : PD} (hgX : pdW X 2 = g) (ha : isCt a m) (ha9 : 9 ≤ a) (hda : a + 6 ≤ 17 ∨ 40 ≤ a) (hw : WL X) (hg : wfP g) (hz : cSz X a m) (hm0 : X.2 a 0 = nI m) (hk : bkOk X g) (h6 : X.2 17 6 = nI n) (h38 : ∀ c, c < pNc g → (X.1 38).getD c 0 = b2i (P c)) (hs : X.2 33 0 = 1 ∨ (X.2 33 0 = 0 ∧ bdA X g (cutsW X a))) (hroom : cN X a + cntB P (pNc g) ≤ m) : ∃ V, iter (Eng_apply_b150 17 2 a sa keep) Lmax (0, 0, hp X) = some (nI (cntB P (pNc g)), nI (pNc g), hp V) ∧ WL V ∧ cSz V a m ∧ V.2 a 0 = nI m ∧ cutsW V a = cutsW X a ++ ((List.range (pNc g)).filter P).map (fun c => rateC g c (nI n)) ∧ bkOk V g ∧ (V.2 33 0 = 1 ∨ (V.2 33 0 = 0 ∧ bdA V g (cutsW V a))) ∧ (∀ i, (i < 20 ∨ 36 ≤ i) → (i < a ∨ a + 6 ≤ i) → V.1 i = X.1 i ∧ V.2 i = X.2 i) := by
  have hnc := hg.1.2.2
  have hm := ha.2.2.2
  subst hgX
  have ex2 : X.2 2 2 = nI (pNc (pdW X 2)) := hnc.1
  obtain ⟨q, i1, V, rfl, hV⟩ := iter_I (body := Eng_apply_b150 17 2 a sa keep) (fun j st => ∃ V, st = (nI (cntB P j), nI j, hp V) ∧ WL V ∧ cSz V a m ∧ V.2 a 0 = nI m ∧ cutsW V a = cutsW X a ++ ((List.range j).filter P).map (fun c => rateC (pdW X 2) c (nI n)) ∧ bkOk V (pdW X 2) ∧ (V.2 33 0 = 1 ∨ (V.2 33 0 = 0 ∧ bdA V (pdW X 2) (cutsW V a))) ∧ (∀ i, (i < 20 ∨ 36 ≤ i) → (i < a ∨ a + 6 ≤ i) → V.1 i = X.1 i ∧ V.2 i = X.2 i)) (fun q => ∃ V, q = (nI (cntB P (pNc (pdW X 2))), nI (pNc (pdW X 2)), hp V) ∧ WL V ∧ cSz V a m ∧ V.2 a 0 = nI m ∧ cutsW V a = cutsW X a ++ ((List.range (pNc (pdW X 2))).filter P).map (fun c => rateC (pdW X 2) c (nI n)) ∧ bkOk V (pdW X 2) ∧ (V.2 33 0 = 1 ∨ (V.2 33 0 = 0 ∧ bdA V (pdW X 2) (cutsW V a))) ∧ (∀ i, (i < 20 ∨ 36 ≤ i) → (i < a ∨ a + 6 ≤ i) → V.1 i = X.1 i ∧ V.2 i = X.2 i)) (pNc (pdW X 2)) (s0 := (0, 0, hp X)) (by omega) ⟨X, rfl, hw, hz, hm0, by simp, hk, hs, fun _ _ _ => ⟨rfl, rfl⟩⟩ (by
    rintro j st hj ⟨V, rfl, hV, zV, mV, cV, kV, sV, FV⟩
    left
    have hcn : ¬ nI (pNc (pdW X 2)) ≤ nI j := nI_ge hj (by omega)
    have e2 : V.2 2 2 = nI (pNc (pdW X 2)) := by rw [(FV 2 (by omega) (by omega)).2]; exact ex2
    have egF : Fr X V a (a + 6) ∨ True := Or.inr trivial
    have eg : pdW V 2 = pdW X 2 := by
      unfold pdW
      rw [(FV 2 (by omega) (by omega)).2, (FV (2 + 1) (by omega) (by omega)).1, (FV (2 + 2) (by omega) (by omega)).1, (FV (2 + 3) (by omega) (by omega)).1, (FV (2 + 4) (by omega) (by omega)).1, (FV (2 + 5) (by omega) (by omega)).1, (FV (2 + 6) (by omega) (by omega)).1]
    have L38 := l38 hV
    have a38 : ald 1 (hp V) 38 (nI j) = some (b2i (P j)) := by rw [ald_w (j := j) s38 rfl (by omega) (by omega), (FV 38 (by omega) (by omega)).1, h38 j hj]
    have e6 : V.2 17 6 = nI n := by rw [(FV 17 (by omega) (by omega)).2]; exact h6
    simp only [Eng_apply_b150, c2_2, Option.bind_some, e2, if_neg hcn, c17_4, a38]
    by_cases hb : P j = true
    · rw [hb, if_neg (by decide)]
      obtain ⟨R, r1, r2, r3, r4, r5⟩ := Frt_findRates_w (c := j) (plan := nI n) hV (by rw [eg]; exact hg) (by omega) (by rw [eg]; exact kV.1)
      rw [eg] at r1 r4 r5
      have zR : cSz R a m := cSz_fr r3 (by omega) zV
      have nR : cN R a = cN V a := by unfold cN; rw [(r3 a (by omega)).2]
      have cR : cutsW R a = cutsW V a := cuts_fr r3 (by omega)
      have lV : cN V a = cN X a + cntB P j := by
        have := congrArg List.length cV
        rw [cutsW_len, List.length_append, cutsW_len, List.length_map, filter_cnt] at this
        exact this
      have hlt : cN R a < m := by
        have : cntB P j + 1 ≤ cntB P (pNc (pdW X 2)) := by
          have mono : ∀ k, j + 1 + k ≤ pNc (pdW X 2) → cntB P (j + 1) ≤ cntB P (j + 1 + k) := by
            intro k
            induction k with
            | zero => intro _; exact Nat.le_refl _
            | succ k ih => intro hk; have := ih (by omega); exact Nat.le_trans this (Nat.le_add_right _ _)
          have := mono (pNc (pdW X 2) - (j + 1)) (by omega)
          rw [show j + 1 + (pNc (pdW X 2) - (j + 1)) = pNc (pdW X 2) by omega, cntB, if_pos hb] at this
          exact this
        omega
      have kR : bkOk R (pdW X 2) := ⟨r4, fun c plan hc hp' => by rw [(r3 32 (by omega)).1]; exact kV.2 c plan hc hp'⟩
      have sR : R.2 33 0 = V.2 33 0 := by rw [(r3 33 (by omega)).2]
      have fin : ∀ t2 v7 : Int32, t2 = b2i (!decide (lackP (pdW X 2) j (nI n) ≤ 0)) → ∃ s', Eng_apply_j201 17 2 a sa keep (nI (cntB P j)) (nI j) v7 a (nI j) t2 (hp R) = some (.inl s') ∧ ∃ V, s' = (nI (cntB P (j + 1)), nI (j + 1), hp V) ∧ WL V ∧ cSz V a m ∧ V.2 a 0 = nI m ∧ cutsW V a = cutsW X a ++ ((List.range (j + 1)).filter P).map (fun c => rateC (pdW X 2) c (nI n)) ∧ bkOk V (pdW X 2) ∧ (V.2 33 0 = 1 ∨ (V.2 33 0 = 0 ∧ bdA V (pdW X 2) (cutsW V a))) ∧ (∀ i, (i < 20 ∨ 36 ≤ i) → (i < a ∨ a + 6 ≤ i) → V.1 i = X.1 i ∧ V.2 i = X.2 i) := by
        intro t2 v7 ht2
        obtain ⟨Y, y1, y2, y3, y4, y5, y6⟩ := Cuts_append_w (w := R) (x := nI j) (y := t2) (pu := 30) (pv := 31) ha r2 (by rw [(r3 a (by omega)).2]; exact mV) zR hlt s30 s31 (l30 r2) (l31 r2) (by omega) (by omega)
        have hct : ctOf (nI j) t2 0 (R.1 30) (R.1 31) = rateC (pdW X 2) j (nI n) := by
          rw [rateC_eq r5, ht2]
          rfl
        rw [hct, cR] at y3
        have hlc := last_ct (w := R) (by rw [cR]; exact y3) y4 zR
        have cY : cutsW Y a = cutsW X a ++ ((List.range (j + 1)).filter P).map (fun c => rateC (pdW X 2) c (nI n)) := by
          rw [y3, cV, filter_succ, if_pos hb, List.map_append, List.append_assoc]
          rfl
        have eY : ∀ i, (i < a ∨ a + 6 ≤ i) → Y.1 i = R.1 i ∧ Y.2 i = R.2 i := fun i hi => y6 i hi
        have egY : pdW Y 2 = pdW X 2 := by rw [pd_fr y6 (by omega), pd_fr r3 (by omega), eg]
        have kY : bkOk Y (pdW X 2) := bkOk_fr kR (eY 22 (by omega)).1 (eY 23 (by omega)).1 (eY 32 (by omega)).1
        have ce : cntB P (j + 1) = cntB P j + 1 := by rw [cntB, if_pos hb]
        have FY : ∀ i, (i < 20 ∨ 36 ≤ i) → (i < a ∨ a + 6 ≤ i) → Y.1 i = X.1 i ∧ Y.2 i = X.2 i := fun i h1 h2 => by
          have q1 := eY i h2
          have q2 := r3 i (by omega)
          have q3 := FV i h1 h2
          exact ⟨by rw [q1.1, q2.1, q3.1], by rw [q1.2, q2.2, q3.2]⟩
        have mY : Y.2 a 0 = nI m := by rw [y5, (r3 a (by omega)).2]; exact mV
        have sY : Y.2 33 0 = V.2 33 0 := by rw [(eY 33 (by omega)).2]; exact sR
        unfold Eng_apply_j201
        simp only [c17_0, c18_0, c19_10, c19_11, ctK ha, Option.bind_some, y1, bnd2_some, c17_1, c33_0, sY, Eng_apply_j252, nI_1]
        rcases sV with s1 | ⟨s0, bV⟩
        · rw [s1, if_pos (by decide)]
          exact ⟨_, rfl, Y, by rw [ce], y2, y4, mY, cY, kY, Or.inl (by rw [sY]; exact s1), FY⟩
        · rw [s0, if_neg (by decide)]
          have bY : bdA Y (pdW X 2) (cutsW V a) := bdA_fr bV (by rw [(eY 34 (by omega)).1, (r3 34 (by omega)).1]) (by rw [(eY 35 (by omega)).1, (r3 35 (by omega)).1])
          have eN : Y.2 a 1 - 1 = nI (cN R a) := by
            rw [y4.1, hlc.1, ← nI_1]
            grind
          have hck : cK (rateC (pdW X 2) j (nI n)) 0 = nI j := by
            rw [rateC_eq r5]
            exact map_range_getD (by omega)
          obtain ⟨Z, z1, z2, z3, z4⟩ := Bnds_include_w (w := Y) (i := cN R a) (cs := cutsW V a) ha y2 (by rw [egY]; exact hg) hlt (by rw [hlc.2]; exact ⟨j, by omega, hck⟩) (by rw [egY]; exact bY)
          rw [egY, hlc.2] at z4
          simp only [ctI1 ha, Option.bind_some, eN, k33, z1, bnd2_some]
          have cZ : cutsW Z a = cutsW Y a := cuts_fr z3 (by omega)
          refine ⟨_, rfl, Z, by rw [ce], z2, cSz_fr z3 (by omega) y4, by rw [(z3 a (by omega)).2]; exact mY, by rw [cZ]; exact cY, bkOk_fr kY (z3 22 (by omega)).1 (z3 23 (by omega)).1 (z3 32 (by omega)).1, Or.inr ⟨by rw [(z3 33 (by omega)).2, sY]; exact s0, by rw [cZ, y3]; exact z4⟩, fun i h1 h2 => ?_⟩
          have q1 := z3 i (by omega)
          have q2 := FY i h1 h2
          exact ⟨by rw [q1.1, q2.1], by rw [q1.2, q2.2]⟩
      simp only [c17_0, c18_0, c17_6, e6, k19, Option.bind_some, r1, bnd2_some]
      by_cases hl : lackP (pdW X 2) j (nI n) ≤ 0
      · rw [decide_eq_true hl, if_pos (by decide)]
        exact fin 0 _ (by rw [decide_eq_true hl]; rfl)
      · rw [decide_eq_false hl, if_neg (by decide)]
        exact fin 1 _ (by rw [decide_eq_false hl]; rfl)
    · have hb' : P j = false := by simpa using hb
      rw [hb', if_pos (by decide)]
      simp only [Eng_apply_j252, nI_1]
      refine ⟨_, rfl, V, ?_, hV, zV, mV, ?_, kV, sV, FV⟩
      · rw [show cntB P (j + 1) = cntB P j by rw [cntB, if_neg hb]; rfl]
      · rw [cV, filter_succ, if_neg hb, List.append_nil]) (by
    rintro st ⟨V, rfl, h⟩
    have e2 : V.2 2 2 = nI (pNc (pdW X 2)) := by rw [(h.2.2.2.2.2.2 2 (by omega) (by omega)).2]; exact ex2
    exact ⟨(nI (cntB P (pNc (pdW X 2))), nI (pNc (pdW X 2)), hp V), by simp only [Eng_apply_b150, c2_2, Option.bind_some, e2, if_pos (nI_le (Nat.le_refl _) (show pNc (pdW X 2) < 2 ^ 31 by omega))], V, rfl, h⟩)
  exact ⟨V, i1, hV⟩
