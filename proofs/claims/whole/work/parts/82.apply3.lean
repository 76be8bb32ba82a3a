theorem i32_sub0 {x y : Int32} : x + (y - y) = x := by grind
theorem Eng_apply_w {w W : Wd} {a m sa ta : Nat} (ha : isCt a m) (ha9 : 9 ≤ a) (hda : a + 6 ≤ 17 ∨ 40 ≤ a) (hsa : isSr sa) (hsa9 : 9 ≤ sa) (hds : sa < 17 ∨ 40 ≤ sa) (has : sa < a ∨ a + 6 ≤ sa) (hg : wfP (pdW w 2)) (hz : cSz w a m) (hm0 : w.2 a 0 = nI m) (hrm : ((w.1 ta).getD 3 0).toInt ≤ m) (hd : decR w W a sa ta true) : ∃ w' came, Eng_apply 17 2 a sa ((w.1 ta).getD 1 0) (hp W) = some (came, hp w') ∧ rndW w w' a m sa ta came := by
  have hm := ha.2.2.2
  have hzm := hz.2
  obtain ⟨hW, hF, kW, s33, bW, hd⟩ := hd
  have esa : W.2 sa = w.2 sa := (hF sa (by omega)).2
  have ecW : cutsW W a = cutsW w a := cuts_fr hF (by omega)
  have zW : cSz W a m := cSz_fr hF (by omega) hz
  have enW : cN W a = cN w a := by unfold cN; rw [(hF a (by omega)).2]
  have mW : W.2 a 0 = nI m := by rw [(hF a (by omega)).2]; exact hm0
  have G5 : ∀ X, gfI (hp X) sa 7 5 = some (X.2 sa 5) := fun X => gfI_w hsa rfl
  have G6 : ∀ X, gfI (hp X) sa 7 6 = some (X.2 sa 6) := fun X => gfI_w hsa rfl
  have P0 : ∀ X x, pfV (hp X) sa 7 0 (.int x) = some (hp (wF X sa 0 x)) := fun X x => pfV_w hsa rfl
  have P1 : ∀ X x, pfV (hp X) sa 7 1 (.int x) = some (hp (wF X sa 1 x)) := fun X x => pfV_w hsa rfl
  have P2 : ∀ X x, pfV (hp X) sa 7 2 (.int x) = some (hp (wF X sa 2 x)) := fun X x => pfV_w hsa rfl
  have P3 : ∀ X x, pfV (hp X) sa 7 3 (.int x) = some (hp (wF X sa 3 x)) := fun X x => pfV_w hsa rfl
  have P4 : ∀ X x, pfV (hp X) sa 7 4 (.int x) = some (hp (wF X sa 4 x)) := fun X x => pfV_w hsa rfl
  have P5 : ∀ X x, pfV (hp X) sa 7 5 (.int x) = some (hp (wF X sa 5 x)) := fun X x => pfV_w hsa rfl
  have P6 : ∀ X x, pfV (hp X) sa 7 6 (.int x) = some (hp (wF X sa 6 x)) := fun X x => pfV_w hsa rfl
  have e17 : ∀ (X : Wd) k x, (wF X sa k x).2 17 = X.2 17 := fun X k x => by funext j; exact wF_n (by omega)
  have eA : ∀ (X : Wd) k x, (wF X sa k x).2 a = X.2 a := fun X k x => by funext j; exact wF_n (by omega)
  unfold Eng_apply
  simp only [G5, P5, c17_7, e17, P0, c17_6, P4, Option.bind_some]
  rcases hd with ⟨hlo, h6, h7, _⟩ | ⟨n, hn, hlo, hpl, hfl, h6, h39, h11, h8, h9, h10, h7, h12⟩
  · rw [h6, if_neg (by decide)]
    refine ⟨_, _, rfl, ?_, WL.F (WL.F (WL.F hW)), ?_, ?_, kW, Or.inr ⟨?_, ?_⟩, ?_⟩
    · unfold rndP
      rw [if_pos hlo, sr_get (by omega), sr_get (by omega), sr_get (by omega), sr_get (by omega), sr_get (by omega)]
      have ec : cutsW (wF (wF (wF W sa 5 (W.2 sa 5 + 1)) sa 0 (W.2 17 7)) sa 4 (-1)) a = cutsW w a := by
        rw [cuts_fr (lo := sa) (hi := sa + 1) (Fr.cF (Fr.cF (Fr.F (by omega) (by omega)) (by omega) (by omega)) (by omega) (by omega)) (by omega)]
        exact ecW
      rw [ec, sr_list, ← esa]
      simp [wF, h7]
    · exact cSz_fr (lo := sa) (hi := sa + 1) (Fr.cF (Fr.cF (Fr.F (by omega) (by omega)) (by omega) (by omega)) (by omega) (by omega)) (by omega) zW
    · rw [eA, eA, eA]; exact mW
    · rw [wF_n (by omega), wF_n (by omega), wF_n (by omega)]; exact s33
    · have ec : cutsW (wF (wF (wF W sa 5 (W.2 sa 5 + 1)) sa 0 (W.2 17 7)) sa 4 (-1)) a = cutsW w a := by
        rw [cuts_fr (lo := sa) (hi := sa + 1) (Fr.cF (Fr.cF (Fr.F (by omega) (by omega)) (by omega) (by omega)) (by omega) (by omega)) (by omega)]
        exact ecW
      rw [ec]
      exact bW
    · intro i h1 h2 h3
      have q := hF i h1
      refine ⟨q.1, ?_⟩
      rw [← q.2]
      funext j
      rw [wF_n (by omega), wF_n (by omega), wF_n (by omega)]
  · have hM : ¬ W.2 17 6 = -1 := by rw [h6]; exact nI_m1 (by omega)
    rw [if_pos hM]
    simp only [c17_8, e17, P1, c17_9, P2, c17_10, P3, Option.bind_some, c17_5, ctR4 ha, ctI1 ha, eA]
    obtain ⟨X6, hX6⟩ : ∃ X, X = wF (wF (wF (wF (wF (wF W sa 5 (W.2 sa 5 + 1)) sa 0 (W.2 17 7)) sa 4 (W.2 17 6)) sa 1 (W.2 17 8)) sa 2 (W.2 17 9)) sa 3 (W.2 17 10) := ⟨_, rfl⟩
    rw [← hX6]
    have F6 : Fr W X6 sa (sa + 1) := by
      rw [hX6]
      repeat (first | exact Fr.rfl' | refine Fr.cF ?_ ?_ ?_)
      all_goals omega
    have A6 : X6.1 = W.1 := by rw [hX6]; rfl
    have hW6 : WL X6 := fun i => by rw [A6]; exact hW i
    have sr6 : srW X6 sa = [W.2 17 7, W.2 17 8, W.2 17 9, W.2 17 10, W.2 17 6, w.2 sa 5 + 1, w.2 sa 6] := by
      rw [sr_list, hX6, ← esa]
      simp [wF]
    have z6 : cSz X6 a m := cSz_fr F6 (by omega) zW
    have n6 : cN X6 a = cN w a := by unfold cN; rw [(F6 a (by omega)).2, (hF a (by omega)).2]
    have L39 := l39 hW6
    have L3 := ctL3 ha hW6
    rw [zW.1, enW, acp_w (w := X6) (sp := 0) (dp := 0) (m := nI (cN w a)) (i := 0) (j := 0) (n := cN w a) s39 ha.2.1.2.2.1 rfl rfl rfl (by omega) (by omega) (by omega) (by omega) (by omega)]
    obtain ⟨X7, hX7⟩ : ∃ X, X = wA X6 (a + 3) (cpyL (X6.1 39) (X6.1 (a + 3)) 0 0 (cN w a)) := ⟨_, rfl⟩
    rw [← hX7]
    have F7 : Fr X6 X7 (a + 3) (a + 4) := by rw [hX7]; exact Fr.A (by omega) (by omega)
    have hW7 : WL X7 := by rw [hX7]; exact WL.A hW6 (by rw [cpy_len]; exact hW6 _)
    have E7 : X7.2 = X6.2 := by rw [hX7]; rfl
    have n7 : cN X7 a = cN w a := by unfold cN; rw [E7]; exact n6
    have z7 : cSz X7 a m := by unfold cSz; rw [n7, E7]; exact ⟨by rw [← n6]; exact z6.1, hzm⟩
    have c7 : cutsW X7 a = agedP (pdW w 2) (cutsW w a) (nI n) := by
      rw [aged_W]
      unfold cutsW
      rw [n7]
      apply List.map_congr_left
      intro i hi
      have hi' : i < cN w a := List.mem_range.mp hi
      rw [hX7, ctW_age, gD_cpy, if_pos ⟨⟨by omega, by omega⟩, by omega⟩, show 0 + (i - 0) = i by omega, A6, h39 i hi', ct_fr F6 (by omega), ct_fr hF (by omega)]
      rfl
    have FX7 : ∀ i, (i < 17 ∨ 40 ≤ i) → (i < a ∨ a + 6 ≤ i) → i ≠ sa → X7.1 i = w.1 i ∧ X7.2 i = w.2 i := fun i h1 h2 h3 => by
      have q1 := F7 i (by omega)
      have q2 := F6 i (by omega)
      have q3 := hF i h1
      exact ⟨by rw [q1.1, q2.1, q3.1], by rw [q1.2, q2.2, q3.2]⟩
    have FW7 : ∀ i, i ≠ sa → i ≠ a + 3 → X7.1 i = W.1 i ∧ X7.2 i = W.2 i := fun i h1 h2 => by
      have q1 := F7 i (by omega)
      have q2 := F6 i (by omega)
      exact ⟨by rw [q1.1, q2.1], by rw [q1.2, q2.2]⟩
    have m7 : X7.2 a 0 = nI m := by rw [(FW7 a (by omega) (by omega)).2]; exact mW
    have k7 : bkOk X7 (pdW w 2) := bkOk_fr kW (FW7 22 (by omega) (by omega)).1 (FW7 23 (by omega) (by omega)).1 (FW7 32 (by omega) (by omega)).1
    have s7 : X7.2 33 0 = 0 := by rw [(FW7 33 (by omega) (by omega)).2]; exact s33
    have b7 : bdA X7 (pdW w 2) (cutsW X7 a) := by
      rw [c7]
      exact bdA_age hg (bdA_fr bW (FW7 34 (by omega) (by omega)).1 (FW7 35 (by omega) (by omega)).1)
    have sr7 : srW X7 sa = [W.2 17 7, W.2 17 8, W.2 17 9, W.2 17 10, W.2 17 6, w.2 sa 5 + 1, w.2 sa 6] := by
      rw [← sr6]; unfold srW; rw [E7]
    have e177 : X7.2 17 = W.2 17 := (FW7 17 (by omega) (by omega)).2
    rw [h8, h9, h10, h6] at sr7
    simp only [Option.bind_some, c17_7, e177]
    rcases h12 with ⟨hj, _⟩ | ⟨hj, h38, hok⟩
    · rw [if_neg hj]
      refine ⟨X7, 0, rfl, ?_, hW7, z7, m7, k7, Or.inr ⟨s7, b7⟩, FX7⟩
      unfold rndP
      rw [hlo, if_neg (nI_m1 (by omega))]
      unfold rndM
      rw [sr_get (by omega), sr_get (by omega), sr_get (by omega), sr_get (by omega), sr_get (by omega), if_neg (by rw [← h7]; exact hj), sr7, c7, h7]
    · rw [if_pos hj]
      have hju : judP (lowP (w.2 sa 1) (floorP (pdW w 2) (cutsW w a) (nI n))) (uppP (w.2 sa 2) (totalP (pdW w 2) (nI n))) ((w.1 ta).getD 2 0) = 0 := by rw [← h7]; exact hj
      have hroom : ¬ (w.1 ta).getD 3 0 < nI ((leftP (risP (w.2 sa 1) (floorP (pdW w 2) (cutsW w a) (nI n))) ((w.1 ta).getD 1 0) (agedP (pdW w 2) (cutsW w a) (nI n))).length + (newsP (pdW w 2) (cutsW w a) (nI n) ((w.1 ta).getD 0 0)).length) := by
        rw [stay_len, news_len]
        intro h
        rw [decide_eq_true h] at hok
        exact absurd hok (by decide)
      rw [hj] at sr7
      have h38X : ∀ c, c < pNc (pdW w 2) → (X7.1 38).getD c 0 = b2i (pkB (keyZ (pdW w 2) (cutsW w a) (nI n)) (pNc (pdW w 2)) ((w.1 ta).getD 0 0) c) := by rw [(FW7 38 (by omega) (by omega)).1]; exact h38
      have noDrop : (risP (w.2 sa 1) (floorP (pdW w 2) (cutsW w a) (nI n)) = false ∨ (w.1 ta).getD 1 0 = 0) → ∃ w' came, Eng_apply_j144 17 2 a sa ((w.1 ta).getD 1 0) (hp X7) = some (came, hp w') ∧ rndW w w' a m sa ta came := by
        intro hnd
        have cl : cutsW X7 a = leftP (risP (w.2 sa 1) (floorP (pdW w 2) (cutsW w a) (nI n))) ((w.1 ta).getD 1 0) (agedP (pdW w 2) (cutsW w a) (nI n)) := by
          rw [c7]; unfold leftP; rw [if_pos hnd]
        refine rnd_fin ha ha9 hda hg hsa9 hds hlo hn hju hroom hrm hW7 cl z7 m7 k7 (Or.inr ⟨s7, b7⟩) (by rw [e177]; exact h6) h38X FX7 has ?_
        rw [sr7, cutsW_len, cutsW_len, n7, i32_sub0]
      simp only [c17_11, e177, h11, Option.bind_some]
      by_cases hris : risP (w.2 sa 1) (floorP (pdW w 2) (cutsW w a) (nI n)) = true
      · rw [hris, if_neg (by decide)]
        by_cases hk0 : (w.1 ta).getD 1 0 = 0
        · rw [if_pos hk0]
          exact noDrop (Or.inr hk0)
        · rw [if_neg hk0]
          obtain ⟨X8, g1, g2, g3, g4, g5, g6⟩ := Cuts_dropAged_w (w := X7) (keep := (w.1 ta).getD 1 0) ha hW7 z7
          have hleft : leftP (risP (w.2 sa 1) (floorP (pdW w 2) (cutsW w a) (nI n))) ((w.1 ta).getD 1 0) (agedP (pdW w 2) (cutsW w a) (nI n)) = (cutsW X7 a).filter (fun c => decide (¬ (w.1 ta).getD 1 0 ≤ cK c 2)) := by
            unfold leftP dropP
            rw [if_neg (by rw [hris]; rintro (h | h); · exact absurd h (by decide)
                           · exact hk0 h), c7]
          have c8 : cutsW X8 a = leftP (risP (w.2 sa 1) (floorP (pdW w 2) (cutsW w a) (nI n))) ((w.1 ta).getD 1 0) (agedP (pdW w 2) (cutsW w a) (nI n)) := by rw [hleft, g3]
          have hlen8 : ((cutsW X7 a).filter (fun c => decide (¬ (w.1 ta).getD 1 0 ≤ cK c 2))).length = (cutsW X8 a).length := by rw [g3]
          have hlle : (cutsW X8 a).length ≤ cN w a := by
            rw [← hlen8, ← n7, ← cutsW_len]
            exact List.length_filter_le _ _
          rw [hlen8, n7] at g1
          have e8 : ∀ i, (i < a ∨ a + 6 ≤ i) → X8.1 i = X7.1 i ∧ X8.2 i = X7.2 i := fun i hi => g6 i hi
          have s8 : X8.2 33 0 = 0 := by rw [(e8 33 (by omega)).2]; exact s7
          have fin : ∀ x : Int32, x = 1 ∨ (x = 0 ∧ (cutsW X8 a).length = cN w a) → ∃ w' came, Eng_apply_j141 17 2 a sa ((w.1 ta).getD 1 0) (nI (cN w a) - nI (cutsW X8 a).length) 33 x (hp (wF X8 sa 6 (X8.2 sa 6 + (nI (cN w a) - nI (cutsW X8 a).length)))) = some (came, hp w') ∧ rndW w w' a m sa ta came := by
            intro x hx
            have hbz : bz x = some x := by rcases hx with rfl | ⟨rfl, _⟩ <;> rfl
            simp only [Eng_apply_j141, hbz, Option.bind_some, p33_0]
            obtain ⟨X9, hX9⟩ : ∃ X, X = wF (wF X8 sa 6 (X8.2 sa 6 + (nI (cN w a) - nI (cutsW X8 a).length))) 33 0 x := ⟨_, rfl⟩
            rw [← hX9]
            have A9 : X9.1 = X8.1 := by rw [hX9]; rfl
            have B9 : ∀ i, i ≠ sa → i ≠ 33 → X9.2 i = X8.2 i := fun i h1 h2 => by
              rw [hX9]; funext j; rw [wF_n (by omega), wF_n (by omega)]
            have n9 : cN X9 a = cN X8 a := by unfold cN; rw [B9 a (by omega) (by omega)]
            have c9 : cutsW X9 a = cutsW X8 a := by
              unfold cutsW
              rw [n9]
              apply List.map_congr_left
              intro i _
              exact ct_ext (by rw [A9]) (by rw [A9]) (by rw [A9]) (fun _ _ => by rw [A9]) (fun _ _ => by rw [A9])
            have sr9 : srW X9 sa = [0, lowP (w.2 sa 1) (floorP (pdW w 2) (cutsW w a) (nI n)), uppP (w.2 sa 2) (totalP (pdW w 2) (nI n)), besP (w.2 sa 2) (totalP (pdW w 2) (nI n)) (w.2 sa 3) (nI n), nI n, w.2 sa 5 + 1, w.2 sa 6 + (nI (cN w a) - nI (cutsW X8 a).length)] := by
              have h86 : X8.2 sa = X7.2 sa := (e8 sa (by omega)).2
              rw [sr_list] at sr7
              simp only [List.cons.injEq, and_true] at sr7
              obtain ⟨q0, q1, q2, q3, q4, q5, q6⟩ := sr7
              have nn : ∀ k, ¬ (sa = 33 ∧ k = 0) := fun k h => by omega
              rw [sr_list, hX9, wF_n (nn _), wF_n (nn _), wF_n (nn _), wF_n (nn _), wF_n (nn _), wF_n (nn _), wF_n (nn _), wF_n (by omega), wF_n (by omega), wF_n (by omega), wF_n (by omega), wF_n (by omega), wF_n (by omega), wF_s, h86, q0, q1, q2, q3, q4, q5, q6]
            refine rnd_fin (X := X9) ha ha9 hda hg hsa9 hds hlo hn hju hroom hrm (fun i => by rw [A9]; exact g2 i) (by rw [c9]; exact c8) (by unfold cSz; rw [n9, B9 a (by omega) (by omega)]; exact g4) (by rw [B9 a (by omega) (by omega), g5]; exact m7) (bkOk_fr k7 (by rw [A9, (e8 22 (by omega)).1]) (by rw [A9, (e8 23 (by omega)).1]) (by rw [A9, (e8 32 (by omega)).1])) ?_ (by rw [B9 17 (by omega) (by omega), (e8 17 (by omega)).2, e177]; exact h6) (by rw [A9, (e8 38 (by omega)).1]; exact h38X) (fun i h1 h2 h3 => ?_) has (by rw [sr9, c9, cutsW_len (w := w)])
            · have x9 : X9.2 33 0 = x := by rw [hX9, wF_s]
              rcases hx with rfl | ⟨rfl, hl⟩
              · exact Or.inl x9
              · refine Or.inr ⟨x9, ?_⟩
                have ef : cutsW X8 a = cutsW X7 a := by
                  rw [g3]
                  rw [List.filter_eq_self]
                  apply List.length_filter_eq_length_iff.mp
                  rw [hlen8, hl, cutsW_len, n7]
                rw [c9, ef]
                exact bdA_fr b7 (by rw [A9, (e8 34 (by omega)).1]) (by rw [A9, (e8 35 (by omega)).1])
            · have q := FX7 i h1 h2 h3
              exact ⟨by rw [A9, (e8 i h2).1, q.1], by rw [B9 i h3 (by omega), (e8 i h2).2, q.2]⟩
          simp only [ctK ha, Option.bind_some, g1, bnd2_some, G6, P6, c17_1, c33_0, Eng_apply_j136]
          have w33 : (wF X8 sa 6 (X8.2 sa 6 + (nI (cN w a) - nI (cutsW X8 a).length))).2 33 0 = 0 := by rw [wF_n (by omega)]; exact s8
          rw [w33, if_neg (by decide)]
          by_cases hwent : nI (cN w a) - nI (cutsW X8 a).length ≤ 0
          · rw [if_pos hwent]
            refine fin 0 (Or.inr ⟨rfl, ?_⟩)
            rw [ti_le, ti_sub (by rw [nI_toInt (by omega), nI_toInt (by omega)]; omega) (by rw [nI_toInt (by omega), nI_toInt (by omega)]; omega), nI_toInt (by omega), nI_toInt (by omega), ti_0] at hwent
            omega
          · rw [if_neg hwent]
            exact fin 1 (Or.inl rfl)
      · have hris' : risP (w.2 sa 1) (floorP (pdW w 2) (cutsW w a) (nI n)) = false := by simpa using hris
        rw [hris', if_pos (by decide)]
        exact noDrop (Or.inl hris')
