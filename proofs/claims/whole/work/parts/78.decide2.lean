theorem Eng_decide_w {w : Wd} {a m sa ta : Nat} (ha : isCt a m) (hda : a + 6 ≤ 17 ∨ 40 ≤ a) (hsa : isSr sa) (hds : sa < 17 ∨ 40 ≤ sa) (hta : shp[ta]? = some (.inr (.inl 0))) (lta : (w.1 ta).length = 4) (hdt : ta < 17 ∨ 40 ≤ ta) (hw : WL w) (hg : wfP (pdW w 2)) (hk : bkOk w (pdW w 2)) (hz : cSz w a m) (hc : ∀ i, i < cN w a → ∃ c, c < pNc (pdW w 2) ∧ cK (ctW w a i) 0 = nI c) (hs : w.2 33 0 = 1 ∨ (w.2 33 0 = 0 ∧ bdA w (pdW w 2) (cutsW w a))) (hr : rgOk (pdW w 2) (cutsW w a)) (ht : tmOk (w.1 ta)) (h1 : w.2 sa 1 = -1 ∨ 0 ≤ (w.2 sa 1).toInt) (h2 : (w.2 sa 2).toInt < 16777216) : ∃ w' ok, Eng_decide 17 2 a sa ta (hp w) = some (b2i ok, hp w') ∧ decR w w' a sa ta ok := by
  have hnc := hg.1.2.2
  obtain ⟨w1, f1, f2, f3, f4, f5⟩ := Bnds_freshen_w ha hw hg hz (by omega) (fun i hi => by obtain ⟨c, hc1, hc2⟩ := hc i hi; exact ⟨c, by omega, hc2⟩) hs
  have eg1 : pdW w1 2 = pdW w 2 := pd_fr f3 (by omega)
  have lw := Bnds_lowestPlan_w (cs := cutsW w a) f2 (by rw [eg1]; exact hg) (by rw [eg1]; exact f5)
  rw [eg1] at lw
  have k1 : bkOk w1 (pdW w 2) := bkOk_fr hk (f3 22 (by omega)).1 (f3 23 (by omega)).1 (f3 32 (by omega)).1
  unfold Eng_decide
  simp only [c17_1, k33, Option.bind_some, f1, bnd2_some, lw, p17_6, c17_6, wF_s]
  rcases loP_spec (g := pdW w 2) (cs := cutsW w a) 256 (Nat.le_refl _) with ⟨hlo, _⟩ | ⟨n, hn, hlo, hpl, hfl, _, _⟩
  · rw [hlo, if_neg (by decide)]
    simp only [p17_7, bz1, Option.bind_some]
    refine ⟨_, true, rfl, WL.F (WL.F f2), Fr.cF (Fr.cF (f3.mono (by omega) (by omega)) (by omega) (by omega)) (by omega) (by omega), k1, ?_, f5, Or.inl ⟨hlo, ?_, wF_s, rfl⟩⟩
    · rw [wF_n (by omega), wF_n (by omega)]; exact f4
    · rw [wF_n (by omega), wF_s]
  · have hnm : ¬ nI n = -1 := by
      intro h
      have := congrArg Int32.toInt h
      rw [nI_toInt (by omega), ti_m1] at this
      omega
    rw [hlo, if_pos hnm]
    have F2 : Fr w (wF w1 17 6 (nI n)) 17 40 := Fr.cF (f3.mono (by omega) (by omega)) (by omega) (by omega)
    have eg2 : pdW (wF w1 17 6 (nI n)) 2 = pdW w 2 := pd_fr F2 (by omega)
    obtain ⟨W3, d1, hW3, d3, d4, d5, d6⟩ := dec_prices (w := wF w1 17 6 (nI n)) (n := n) (cs := cutsW w a) (a := a) (sa := sa) (ta := ta) (WL.F f2) (by rw [eg2]; exact hg) (by rw [eg2]; exact k1) (by rw [eg2]; exact f5) wF_s hn (by rw [eg2]; exact hpl)
    rw [eg2] at d1 d4 d5 d6
    have F3 : Fr w W3 17 40 := fun i hi => by
      have q1 := d3 i (by omega) (by omega) (by omega)
      have q2 := F2 i hi
      exact ⟨by rw [q1.1, q2.1], by rw [q1.2, q2.2]⟩
    have eg3 : pdW W3 2 = pdW w 2 := pd_fr F3 (by omega)
    have ec3 : cutsW W3 a = cutsW w a := cuts_fr F3 (by omega)
    have et3 : ∀ i, ctW W3 a i = ctW w a i := fun i => ct_fr F3 (by omega)
    have en3 : cN W3 a = cN w a := by unfold cN; rw [(F3 a (by omega)).2]
    have e63 : W3.2 17 6 = nI n := by rw [(d3 17 (by omega) (by omega) (by omega)).2, wF_s]
    obtain ⟨W4, a1, a2, a3, a4⟩ := Eng_findAges_w (w := W3) ha hW3 (by rw [eg3]; exact hg) (cSz_fr F3 (by omega) hz) hda (by
      rw [en3, eg3, ec3, e63]
      intro i hi
      obtain ⟨c, hc1, hc2⟩ := hc i hi
      exact ⟨c, by omega, by rw [et3]; exact hc2, d6 c hc1⟩)
    rw [en3, eg3, ec3, e63] at a4
    have F4 : Fr w W4 17 40 := F3.tr (a3.mono (by omega) (by omega))
    have eg4 : pdW W4 2 = pdW w 2 := pd_fr F4 (by omega)
    have b4 : bdA W4 (pdW w 2) (cutsW w a) := bdA_fr f5 (by rw [(a3 34 (by omega)).1, (d3 34 (by omega) (by omega) (by omega)).1]; rfl) (by rw [(a3 35 (by omega)).1, (d3 35 (by omega) (by omega) (by omega)).1]; rfl)
    have p4 : ∀ c, c < pNc (pdW w 2) → priceR (pdW w 2) c (nI n) ((W4.1 36).getD c 0) := by rw [(a3 36 (by omega)).1]; exact d5
    have e64 : W4.2 17 6 = nI n := by rw [(a3 17 (by omega)).2]; exact e63
    have es4 : W4.2 sa = w.2 sa := (F4 sa (by omega)).2
    obtain ⟨W5, m1, m2, m3, m4, m5, m6, m7, m8⟩ := Eng_moveBounds_w (w := W4) (n := n) (cs := cutsW w a) hsa (by omega) a2 (by rw [eg4]; exact hg) e64 hn (by rw [eg4]; exact hpl) (by rw [eg4]; exact b4) (by rw [eg4]; exact p4)
    rw [eg4, es4] at m5 m6 m7 m8
    have F5 : Fr w W5 17 40 := F4.tr (m3.mono (by omega) (by omega))
    have hW5 : WL W5 := fun i => by rw [m2]; exact a2 i
    have et5 : W5.1 ta = w.1 ta := (F5 ta (by omega)).1
    obtain ⟨r1, r2, r3⟩ := hr n hn
    have hlow : 0 ≤ (W5.2 17 8).toInt := by
      rw [m6]
      unfold lowP risP
      by_cases t1 : w.2 sa 1 = -1
      · simp only [t1, decide_true, Bool.true_or, if_true]
        rcases r2 with h | h
        · exact absurd h hfl
        · exact h
      · by_cases t2 : floorP (pdW w 2) (cutsW w a) (nI n) ≤ w.2 sa 1
        · simp only [t1, t2, decide_true, decide_false, Bool.false_or, Bool.not_true, Bool.false_eq_true, if_false]
          rcases h1 with h | h
          · exact absurd h t1
          · exact h
        · simp only [t1, t2, decide_false, Bool.false_or, Bool.not_false, if_true]
          rcases r2 with h | h
          · exact absurd h hfl
          · exact h
    have hupp : (W5.2 17 9).toInt < 16777216 := by
      rw [m7]
      unfold uppP
      split
      · exact r3
      · exact h2
    have hj := Eng_judge_w (w := W5) (tol := (w.1 ta).getD 2 0) hlow hupp ht
    rw [m6, m7] at hj
    generalize hju : judP (lowP (w.2 sa 1) (floorP (pdW w 2) (cutsW w a) (nI n))) (uppP (w.2 sa 2) (totalP (pdW w 2) (nI n))) ((w.1 ta).getD 2 0) = ju at hj
    have at2 : ald 0 (hp W5) ta 2 = some ((w.1 ta).getD 2 0) := by rw [ald_w (w := W5) (i := 2) (j := 2) hta rfl (by rw [et5]; omega) (by omega), et5]
    have F6 : Fr w (wF W5 17 7 ju) 17 40 := Fr.cF F5 (by omega) (by omega)
    have eg6 : pdW (wF W5 17 7 ju) 2 = pdW w 2 := pd_fr F6 (by omega)
    have k6 : bkOk (wF W5 17 7 ju) (pdW w 2) := bkOk_fr d4 (by rw [wF_A, m2, (a3 22 (by omega)).1]) (by rw [wF_A, m2, (a3 23 (by omega)).1]) (by rw [wF_A, m2, (a3 32 (by omega)).1])
    have b6 : bdA (wF W5 17 7 ju) (pdW w 2) (cutsW w a) := bdA_fr b4 (by rw [wF_A, m2]) (by rw [wF_A, m2])
    have s6 : (wF W5 17 7 ju).2 33 0 = 0 := by rw [wF_n (by omega), (m3 33 (by omega)).2, (a3 33 (by omega)).2, (d3 33 (by omega) (by omega) (by omega)).2, wF_n (by omega)]; exact f4
    simp only [d1, Option.bind_some, Eng_decide_j101, k17, a1, bnd2_some, m1, at2, hj, p17_7, c17_7, wF_s]
    by_cases hj0 : ju = 0
    · rw [if_pos hj0]
      have at0 : ald 0 (hp (wF W5 17 7 ju)) ta 0 = some ((w.1 ta).getD 0 0) := by rw [ald_w (w := wF W5 17 7 ju) (i := 0) (j := 0) hta rfl (by rw [wF_A, et5]; omega) (by omega), wF_A, et5]
      obtain ⟨W7, q1, q2, q3, q4, q5⟩ := Eng_pick_w (w := wF W5 17 7 ju) (n := n) (cs := cutsW w a) (way := (w.1 ta).getD 0 0) (WL.F hW5) (by rw [eg6]; exact hg) (by rw [eg6]; exact k6.1) (by rw [wF_n (by omega), m4 6 (by omega) (by omega) (by omega) (by omega)]; exact e64) (by rw [eg6, wF_A, m2]; exact p4) (by rw [eg6, wF_A, m2, (a3 37 (by omega)).1]; exact d6) (by rw [eg6]; exact r1)
      rw [eg6] at q1 q4 q5
      have F7 : Fr w W7 17 40 := fun i hi => by
        have x1 := q3 i (by omega) (by omega)
        have x2 := F6 i hi
        exact ⟨by rw [x1.1, x2.1], by rw [x1.2, x2.2]⟩
      have et7 : W7.1 ta = w.1 ta := (F7 ta (by omega)).1
      have at1 : ald 0 (hp W7) ta 1 = some ((w.1 ta).getD 1 0) := by rw [ald_w (w := W7) (i := 1) (j := 1) hta rfl (by rw [et7]; omega) (by omega), et7]
      have at3 : ald 0 (hp W7) ta 3 = some ((w.1 ta).getD 3 0) := by rw [ald_w (w := W7) (i := 3) (j := 3) hta rfl (by rw [et7]; omega) (by omega), et7]
      have z7 : cSz W7 a m := cSz_fr F7 (by omega) hz
      have en7 : cN W7 a = cN w a := by unfold cN; rw [(F7 a (by omega)).2]
      have f17 : ∀ k, k ≠ 7 → W7.2 17 k = W5.2 17 k := fun k hk7 => by rw [(q3 17 (by omega) (by omega)).2, wF_n (by omega)]
      have cs7 := Eng_countStaying_w (w := W7) (keep := (w.1 ta).getD 1 0) ha q2 z7 (by rw [f17 11 (by omega)]; exact m5)
      have h39 : ∀ i, i < cN w a → (W7.1 39).getD i 0 = ageP (pdW w 2) (cutsW w a) (nI n) (ctW w a i) := fun i hi => by
        rw [(q3 39 (by omega) (by omega)).1, wF_A, m2, a4 i hi, et3]
      have es : stayP (risP (w.2 sa 1) (floorP (pdW w 2) (cutsW w a) (nI n))) ((w.1 ta).getD 1 0) (cN W7 a) (fun i => (W7.1 39).getD i 0) = stayP (risP (w.2 sa 1) (floorP (pdW w 2) (cutsW w a) (nI n))) ((w.1 ta).getD 1 0) (cN w a) (fun i => ageP (pdW w 2) (cutsW w a) (nI n) (ctW w a i)) := by
        unfold stayP
        rw [en7]
        split
        · rfl
        · exact cntB_congr _ (fun i hi => by show (!decide (_ ≤ (W7.1 39).getD i 0)) = _; rw [h39 i hi])
      rw [es] at cs7
      simp only [at0, Option.bind_some, q1, bnd2_some, at1, k17, cs7, at3, nI_add, Eng_decide_j169]
      have fin : ∀ ok : Bool, ok = !decide ((w.1 ta).getD 3 0 < nI (stayP (risP (w.2 sa 1) (floorP (pdW w 2) (cutsW w a) (nI n))) ((w.1 ta).getD 1 0) (cN w a) (fun i => ageP (pdW w 2) (cutsW w a) (nI n) (ctW w a i)) + cntB (pkB (keyZ (pdW w 2) (cutsW w a) (nI n)) (pNc (pdW w 2)) ((w.1 ta).getD 0 0)) (pNc (pdW w 2)))) → decR w W7 a sa ta ok := by
        intro ok hok
        refine ⟨q2, F7, ⟨q4, fun c plan hc' hp' => by rw [(q3 32 (by omega) (by omega)).1]; exact k6.2 c plan hc' hp'⟩, by rw [(q3 33 (by omega) (by omega)).2]; exact s6, bdA_fr b6 (q3 34 (by omega) (by omega)).1 (q3 35 (by omega) (by omega)).1, Or.inr ⟨n, hn, hlo, hpl, hfl, ?_⟩⟩
        have h7 : W7.2 17 7 = ju := by rw [(q3 17 (by omega) (by omega)).2, wF_s]
        refine ⟨by rw [f17 6 (by omega), m4 6 (by omega) (by omega) (by omega) (by omega)]; exact e64, h39, by rw [f17 11 (by omega)]; exact m5, by rw [f17 8 (by omega)]; exact m6, by rw [f17 9 (by omega)]; exact m7, by rw [f17 10 (by omega)]; exact m8, by rw [h7, hju], Or.inr ⟨by rw [h7]; exact hj0, q5, hok⟩⟩
      by_cases hx : (w.1 ta).getD 3 0 < nI (stayP (risP (w.2 sa 1) (floorP (pdW w 2) (cutsW w a) (nI n))) ((w.1 ta).getD 1 0) (cN w a) (fun i => ageP (pdW w 2) (cutsW w a) (nI n) (ctW w a i)) + cntB (pkB (keyZ (pdW w 2) (cutsW w a) (nI n)) (pNc (pdW w 2)) ((w.1 ta).getD 0 0)) (pNc (pdW w 2)))
      · rw [if_pos hx]
        exact ⟨W7, false, rfl, fin false (by rw [decide_eq_true hx]; rfl)⟩
      · rw [if_neg hx]
        exact ⟨W7, true, rfl, fin true (by rw [decide_eq_false hx]; rfl)⟩
    · rw [if_neg hj0]
      refine ⟨_, true, rfl, WL.F hW5, F6, k6, s6, b6, Or.inr ⟨n, hn, hlo, hpl, hfl, ?_⟩⟩
      refine ⟨by rw [wF_n (by omega), m4 6 (by omega) (by omega) (by omega) (by omega)]; exact e64, fun i hi => by rw [wF_A, m2, a4 i hi, et3], by rw [wF_n (by omega)]; exact m5, by rw [wF_n (by omega)]; exact m6, by rw [wF_n (by omega)]; exact m7, by rw [wF_n (by omega)]; exact m8, by rw [wF_s, hju], Or.inl ⟨by rw [wF_s]; exact hj0, rfl⟩⟩
