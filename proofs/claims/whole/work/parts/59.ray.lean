/-! the ray of a case that fails -/
def badSet (g : PD) (c : Nat) (plan worst : Int32) (s set : Nat) : Bool := decide (loadP g c set - poolP g plan set = worst) && !decide (maskP g s &&& (nI set ^^^ (-1)) = 0)
def rayS (g : PD) (c : Nat) (plan worst : Int32) (s : Nat) : Bool := !decide (pNeed g c s ≤ 0) && (List.range 16).all (fun set => !badSet g c plan worst s set)
def bitS (g : PD) (s p : Nat) : Bool := !decide (maskP g s &&& ((1 : Int32) <<< (nI p &&& 31)) = 0)
def rayU (g : PD) (c : Nat) (plan worst : Int32) (n p : Nat) : Bool := decide (p < pNp g) && (List.range n).any (fun s => rayS g c plan worst s && bitS g s p)
theorem range_all_succ {n : Nat} {P : Nat → Bool} : (List.range (n + 1)).all P = ((List.range n).all P && P n) := by
  rw [List.range_succ, List.all_append]; simp
theorem range_any_succ {n : Nat} {P : Nat → Bool} : (List.range (n + 1)).any P = ((List.range n).any P || P n) := by
  rw [List.range_succ, List.any_append]; simp
theorem Frt_findRay_w {w : Wd} {c : Nat} {plan worst : Int32} (hw : WL w) (hg : wfP (pdW w 2)) (hc : c < 4) (hld : ∀ set, set < 16 → (w.1 22).getD (c * 16 + set) 0 = loadP (pdW w 2) c set) (hpl : ∀ set, set < 16 → (w.1 21).getD set 0 = poolP (pdW w 2) plan set) (h30 : ∀ p, p < 4 → (w.1 30).getD p 0 = 0) (h31 : ∀ s, s < 6 → (w.1 31).getD s 0 = 0) : ∃ w', Frt_findRay 19 2 (nI c) worst (hp w) = some ((), hp w') ∧ WL w' ∧ Fr w w' 30 32 ∧ (∀ p, p < 4 → (w'.1 30).getD p 0 = b2i (rayU (pdW w 2) c plan worst (pNs (pdW w 2)) p)) ∧ (∀ s, s < 6 → (w'.1 31).getD s 0 = b2i (decide (s < pNs (pdW w 2)) && rayS (pdW w 2) c plan worst s)) := by
  have hns := hg.1.2.1
  have hnp := hg.1.1
  obtain ⟨q, i1, W, rfl, hW, hF, hu, hv⟩ := iter_I (body := Frt_findRay_b3 19 2 (nI c) worst) (fun j st => ∃ W, st = (nI j, hp W) ∧ WL W ∧ Fr w W 30 32 ∧ (∀ p, p < 4 → (W.1 30).getD p 0 = b2i (rayU (pdW w 2) c plan worst j p)) ∧ (∀ s, s < 6 → (W.1 31).getD s 0 = b2i (decide (s < j) && rayS (pdW w 2) c plan worst s))) (fun r => ∃ W, r = (nI (pNs (pdW w 2)), hp W) ∧ WL W ∧ Fr w W 30 32 ∧ (∀ p, p < 4 → (W.1 30).getD p 0 = b2i (rayU (pdW w 2) c plan worst (pNs (pdW w 2)) p)) ∧ (∀ s, s < 6 → (W.1 31).getD s 0 = b2i (decide (s < pNs (pdW w 2)) && rayS (pdW w 2) c plan worst s))) (pNs (pdW w 2)) (s0 := (0, hp w)) (by omega) ⟨w, rfl, hw, Fr.rfl', fun p hp' => by rw [h30 p hp']; simp [rayU, b2i], fun s hs => by rw [h31 s hs]; simp [b2i]⟩ (by
    rintro j st hj ⟨W, rfl, hW, hF, hu, hv⟩
    left
    have hcn : ¬ nI (pNs (pdW w 2)) ≤ nI j := nI_ge hj (by omega)
    have egW : pdW W 2 = pdW w 2 := pd_fr hF (by omega)
    have hgW : wfP (pdW W 2) := by rw [egW]; exact hg
    have e1 : W.2 2 1 = nI (pNs (pdW w 2)) := by rw [(hF 2 (by omega)).2]; exact hns.1
    have em := Prog_plantsOf_w isPg_2 hgW (show j < 6 by omega)
    rw [egW] at em
    have L8 := l8 hW
    have L21 := l21 hW
    have L22 := l22 hW
    have L31 := l31 hW
    have e21 : W.1 21 = w.1 21 := (hF 21 (by omega)).1
    have e22 : W.1 22 = w.1 22 := (hF 22 (by omega)).1
    have en : (W.1 8).getD (c * 6 + j) 0 = pNeed (pdW w 2) c j := by rw [← egW]; rfl
    have inner : ∀ b0 : Bool, iter (Frt_findRay_b45 19 2 (nI c) worst (nI j) (maskP (pdW w 2) j) (hp W)) Lmax (b2i b0, 0) = some (b2i (b0 && (List.range 16).all (fun set => !badSet (pdW w 2) c plan worst j set)), nI 16) := by
      intro b0
      have e : (b2i b0, (0 : Int32)) = (b2i (b0 && (List.range 0).all (fun set => !badSet (pdW w 2) c plan worst j set)), nI 0) := by simp [nI_0]
      rw [e]
      refine iter_L (fun k => (b2i (b0 && (List.range k).all (fun set => !badSet (pdW w 2) c plan worst j set)), nI k)) 16 (by omega) ?_ ?_
      · intro k hk
        have hck : ¬ (16 : Int32) ≤ nI k := nI_ge (b := 16) hk (by omega)
        simp only [Frt_findRay_b45, if_neg hck, c19_2, c19_1, Option.bind_some, nI_m16]
        rw [ald_w (j := c * 16 + k) s22 rfl (by omega) (by omega)]
        simp only [Option.bind_some]
        rw [ald_w (j := k) s21 rfl (by omega) (by omega)]
        simp only [Option.bind_some]
        rw [e22, e21, hld k hk, hpl k hk, range_all_succ]
        generalize (List.range k).all (fun set => !badSet (pdW w 2) c plan worst j set) = A
        unfold badSet
        simp only [Frt_findRay_j81]
        generalize (maskP (pdW w 2) j &&& (nI k ^^^ (-1))) = mk
        by_cases h1 : loadP (pdW w 2) c k - poolP (pdW w 2) plan k = worst
        · by_cases h2 : mk = 0
          · cases b0 <;> cases A <;> simp [h1, h2, Frt_findRay_j107, Frt_findRay_j103, Frt_findRay_j108, b2i, nI_1]
          · cases b0 <;> cases A <;> simp [h1, h2, Frt_findRay_j107, Frt_findRay_j103, Frt_findRay_j108, b2i, nI_1]
        · cases b0 <;> cases A <;> simp [h1, Frt_findRay_j107, Frt_findRay_j103, Frt_findRay_j108, b2i, nI_1]
      · simp only [Frt_findRay_b45, if_pos (show (16 : Int32) ≤ nI 16 by decide)]
    have fin : ∃ s', Frt_findRay_j116 19 2 (nI c) worst (nI j) (maskP (pdW w 2) j) (b2i (rayS (pdW w 2) c plan worst j)) (nI 16) (hp W) = some (Sum.inl s') ∧ ∃ W, s' = (nI (j + 1), hp W) ∧ WL W ∧ Fr w W 30 32 ∧ (∀ p, p < 4 → (W.1 30).getD p 0 = b2i (rayU (pdW w 2) c plan worst (j + 1) p)) ∧ (∀ s, s < 6 → (W.1 31).getD s 0 = b2i (decide (s < j + 1) && rayS (pdW w 2) c plan worst s)) := by
      unfold Frt_findRay_j116
      by_cases hray : rayS (pdW w 2) c plan worst j = true
      · rw [hray, if_neg (by decide)]
        simp only [c19_11, Option.bind_some]
        rw [ast_w (j := j) s31 rfl (by omega) (by omega)]
        simp only [Option.bind_some]
        have hW1 : WL (wA W 31 ((W.1 31).set j (nar 0 1))) := hW.S
        have hF1 : Fr w (wA W 31 ((W.1 31).set j (nar 0 1))) 30 32 := Fr.cA hF (by omega) (by omega)
        have hv1 : ∀ s, s < 6 → ((wA W 31 ((W.1 31).set j (nar 0 1))).1 31).getD s 0 = b2i (decide (s < j + 1) && rayS (pdW w 2) c plan worst s) := by
          intro s hs
          rw [wA_s, gD_set]
          by_cases h : j = s
          · subst h
            rw [if_pos ⟨rfl, by omega⟩, hray]
            simp [b2i, nar]
          · rw [if_neg (fun h' => h h'.1), hv s hs]
            by_cases h2 : s < j
            · simp [h2, show s < j + 1 by omega]
            · simp [h2, show ¬ s < j + 1 by omega]
        have hu1 : ∀ p, p < 4 → ((wA W 31 ((W.1 31).set j (nar 0 1))).1 30).getD p 0 = b2i (rayU (pdW w 2) c plan worst j p) := fun p hp' => by rw [wA_n (by omega)]; exact hu p hp'
        generalize wA W 31 ((W.1 31).set j (nar 0 1)) = V at *
        obtain ⟨q2, i2, U, rfl, hU, hFU, huU, hvU⟩ := iter_I (body := Frt_findRay_b132 19 2 (nI c) worst (nI j) (maskP (pdW w 2) j) (b2i true)) (fun k st => ∃ U, st = (nI k, hp U) ∧ WL U ∧ Fr w U 30 32 ∧ (∀ p, p < 4 → (U.1 30).getD p 0 = b2i (rayU (pdW w 2) c plan worst (if p < k then j + 1 else j) p)) ∧ U.1 31 = V.1 31) (fun r => ∃ U, r = (nI (pNp (pdW w 2)), hp U) ∧ WL U ∧ Fr w U 30 32 ∧ (∀ p, p < 4 → (U.1 30).getD p 0 = b2i (rayU (pdW w 2) c plan worst (if p < pNp (pdW w 2) then j + 1 else j) p)) ∧ U.1 31 = V.1 31) (pNp (pdW w 2)) (s0 := (0, hp V)) (by omega) ⟨V, rfl, hW1, hF1, fun p hp' => by rw [if_neg (by omega)]; exact hu1 p hp', rfl⟩ (by
          rintro k st hk ⟨U, rfl, hU, hFU, huU, hvU⟩
          left
          have hck : ¬ nI (pNp (pdW w 2)) ≤ nI k := nI_ge hk (by omega)
          have e0 : U.2 2 0 = nI (pNp (pdW w 2)) := by rw [(hFU 2 (by omega)).2]; exact hnp.1
          have L30 := l30 hU
          simp only [Frt_findRay_b132, c2_0, Option.bind_some, e0, if_neg hck, c19_10]
          have st : ∀ y : Int32, y = b2i (rayU (pdW w 2) c plan worst (j + 1) k) → ∃ s', Frt_findRay_j168 19 2 (nI c) worst (nI j) (maskP (pdW w 2) j) (b2i true) (nI k) 30 (nI k) y (hp U) = some (Sum.inl s') ∧ ∃ U, s' = (nI (k + 1), hp U) ∧ WL U ∧ Fr w U 30 32 ∧ (∀ p, p < 4 → (U.1 30).getD p 0 = b2i (rayU (pdW w 2) c plan worst (if p < k + 1 then j + 1 else j) p)) ∧ U.1 31 = V.1 31 := by
            intro y hy
            unfold Frt_findRay_j168
            rw [ast_w (j := k) s30 rfl (by omega) (by omega)]
            simp only [Option.bind_some, nI_1]
            refine ⟨_, rfl, _, rfl, hU.S, Fr.cA hFU (by omega) (by omega), ?_, by rw [wA_n (by omega)]; exact hvU⟩
            intro p hp'
            rw [wA_s, gD_set]
            by_cases h : k = p
            · subst h
              rw [if_pos ⟨rfl, by omega⟩, if_pos (by omega)]
              exact hy
            · rw [if_neg (fun h' => h h'.1), huU p hp']
              by_cases h2 : p < k
              · rw [if_pos h2, if_pos (by omega)]
              · rw [if_neg h2, if_neg (by omega)]
          have hkk := huU k (by omega)
          rw [if_neg (by omega)] at hkk
          by_cases hb : maskP (pdW w 2) j &&& ((1 : Int32) <<< (nI k &&& 31)) = 0
          · rw [if_pos hb]
            rw [ald_w (j := k) s30 rfl (by omega) (by omega)]
            simp only [Option.bind_some]
            refine st _ ?_
            rw [hkk]
            unfold rayU
            rw [range_any_succ]
            simp [bitS, hb]
          · rw [if_neg hb]
            refine st _ ?_
            unfold rayU
            rw [range_any_succ]
            simp [bitS, hb, hray, hk, b2i]) (by
          rintro st ⟨U, rfl, hU, hFU, huU, hvU⟩
          have e0 : U.2 2 0 = nI (pNp (pdW w 2)) := by rw [(hFU 2 (by omega)).2]; exact hnp.1
          exact ⟨(nI (pNp (pdW w 2)), hp U), by simp only [Frt_findRay_b132, c2_0, Option.bind_some, e0, if_pos (nI_le (Nat.le_refl _) (show pNp (pdW w 2) < 2 ^ 31 by omega))], U, rfl, hU, hFU, huU, hvU⟩)
        simp only [i2, Option.bind_some, Frt_findRay_j175, nI_1]
        refine ⟨_, rfl, U, rfl, hU, hFU, ?_, fun s hs => by rw [hvU]; exact hv1 s hs⟩
        intro p hp'
        rw [huU p hp']
        by_cases h : p < pNp (pdW w 2)
        · rw [if_pos h]
        · rw [if_neg h]
          unfold rayU
          simp [h]
      · have hray' : rayS (pdW w 2) c plan worst j = false := by simpa using hray
        rw [hray', if_pos (by decide)]
        simp only [Frt_findRay_j175, nI_1]
        refine ⟨_, rfl, W, rfl, hW, hF, ?_, ?_⟩
        · intro p hp'
          rw [hu p hp']
          unfold rayU
          rw [range_any_succ]
          simp [hray']
        · intro s hs
          rw [hv s hs]
          by_cases h : s = j
          · subst h; simp [hray']
          · by_cases h2 : s < j
            · simp [h2, show s < j + 1 by omega]
            · simp [h2, show ¬ s < j + 1 by omega]
    simp only [Frt_findRay_b3, c2_1, Option.bind_some, e1, if_neg hcn, k2, em, bnd2_some, c2_8, nI_m6]
    rw [ald_w (j := c * 6 + j) s8 rfl (by omega) (by omega)]
    simp only [Option.bind_some]
    rw [en]
    by_cases hn : pNeed (pdW w 2) c j ≤ 0
    · rw [if_pos hn]
      have := inner false
      simp only [Bool.false_and] at this
      have e0 : b2i false = 0 := rfl
      have er : rayS (pdW w 2) c plan worst j = false := by unfold rayS; simp [hn]
      rw [e0] at this
      simp only [Frt_findRay_j40, this, Option.bind_some]
      rw [er, e0] at fin
      exact fin
    · rw [if_neg hn]
      have := inner true
      simp only [Bool.true_and] at this
      have e0 : b2i true = 1 := rfl
      have er : rayS (pdW w 2) c plan worst j = (List.range 16).all (fun set => !badSet (pdW w 2) c plan worst j set) := by unfold rayS; simp [hn]
      rw [e0] at this
      simp only [Frt_findRay_j40, this, Option.bind_some]
      rw [er] at fin
      exact fin) (by
    rintro st ⟨W, rfl, hW, hF, hu, hv⟩
    have e1 : W.2 2 1 = nI (pNs (pdW w 2)) := by rw [(hF 2 (by omega)).2]; exact hns.1
    exact ⟨(nI (pNs (pdW w 2)), hp W), by simp only [Frt_findRay_b3, c2_1, Option.bind_some, e1, if_pos (nI_le (Nat.le_refl _) (show pNs (pdW w 2) < 2 ^ 31 by omega))], W, rfl, hW, hF, hu, hv⟩)
  exact ⟨W, by simp only [Frt_findRay, i1, Option.bind_some, Frt_findRay_j181], hW, hF, hu, hv⟩
