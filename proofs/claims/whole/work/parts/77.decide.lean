/-! the engine: a round is decided -/
/-- prices and reaches of the master laid -/
theorem dec_prices {w : Wd} {n : Nat} {cs : List (List Int32)} {a sa ta : Nat} (hw : WL w) (hg : wfP (pdW w 2)) (hk : bkOk w (pdW w 2)) (hb : bdA w (pdW w 2) cs) (h6 : w.2 17 6 = nI n) (hn : n < 256) (hpl : isPlanP (pdW w 2) (nI n) = true) : ∃ W, iter (Eng_decide_b39 17 2 a sa ta) Lmax (0, hp w) = some (nI (pNc (pdW w 2)), hp W) ∧ WL W ∧ (∀ i, (i < 20 ∨ 33 ≤ i) → i ≠ 36 → i ≠ 37 → W.1 i = w.1 i ∧ W.2 i = w.2 i) ∧ bkOk W (pdW w 2) ∧ (∀ c, c < pNc (pdW w 2) → priceR (pdW w 2) c (nI n) ((W.1 36).getD c 0)) ∧ (∀ c, c < pNc (pdW w 2) → (W.1 37).getD c 0 = rchP (pdW w 2) cs c (nI n)) := by
  have hnc := hg.1.2.2
  obtain ⟨q, i1, W, rfl, hW⟩ := iter_I (body := Eng_decide_b39 17 2 a sa ta) (fun j st => ∃ W, st = (nI j, hp W) ∧ WL W ∧ (∀ i, (i < 20 ∨ 33 ≤ i) → i ≠ 36 → i ≠ 37 → W.1 i = w.1 i ∧ W.2 i = w.2 i) ∧ bkOk W (pdW w 2) ∧ (∀ c, c < j → priceR (pdW w 2) c (nI n) ((W.1 36).getD c 0)) ∧ (∀ c, c < j → (W.1 37).getD c 0 = rchP (pdW w 2) cs c (nI n))) (fun q => ∃ W, q = (nI (pNc (pdW w 2)), hp W) ∧ WL W ∧ (∀ i, (i < 20 ∨ 33 ≤ i) → i ≠ 36 → i ≠ 37 → W.1 i = w.1 i ∧ W.2 i = w.2 i) ∧ bkOk W (pdW w 2) ∧ (∀ c, c < pNc (pdW w 2) → priceR (pdW w 2) c (nI n) ((W.1 36).getD c 0)) ∧ (∀ c, c < pNc (pdW w 2) → (W.1 37).getD c 0 = rchP (pdW w 2) cs c (nI n))) (pNc (pdW w 2)) (s0 := (0, hp w)) (by omega) ⟨w, rfl, hw, fun _ _ _ _ => ⟨rfl, rfl⟩, hk, fun _ h => absurd h (by omega), fun _ h => absurd h (by omega)⟩ (by
    rintro j st hj ⟨W, rfl, hW, hF, hk, h36, h37⟩
    left
    have hcn : ¬ nI (pNc (pdW w 2)) ≤ nI j := nI_ge hj (by omega)
    have e2 : W.2 2 2 = nI (pNc (pdW w 2)) := by rw [(hF 2 (by omega) (by omega) (by omega)).2]; exact hnc.1
    have eg : pdW W 2 = pdW w 2 := by
      unfold pdW
      rw [(hF 2 (by omega) (by omega) (by omega)).2, (hF (2 + 1) (by omega) (by omega) (by omega)).1, (hF (2 + 2) (by omega) (by omega) (by omega)).1, (hF (2 + 3) (by omega) (by omega) (by omega)).1, (hF (2 + 4) (by omega) (by omega) (by omega)).1, (hF (2 + 5) (by omega) (by omega) (by omega)).1, (hF (2 + 6) (by omega) (by omega) (by omega)).1]
    have e6 : W.2 17 6 = nI n := by rw [(hF 17 (by omega) (by omega) (by omega)).2]; exact h6
    obtain ⟨V, x, p1, p2, p3, p4, p5⟩ := Book_priceAt_w (c := j) (plan := n) hW (by rw [eg]; exact hg) (by omega) hn (by rw [eg]; exact hk)
    rw [eg] at p2 p5
    have L36 := l36 p3
    have L37 := l37 p3
    have L34 := l34 p3
    have a34 : ∀ y, ald 0 (hp (wA V 36 ((V.1 36).set j y))) 34 (nI (j * 256 + n)) = some (rchP (pdW w 2) cs j (nI n)) := by
      intro y
      rw [ald_w (j := j * 256 + n) s34 rfl (by rw [wA_n (by omega)]; omega) (by omega), wA_n (by omega), (p4 34 (by omega)).1, (hF 34 (by omega) (by omega) (by omega)).1, (hb n hn hpl).2 j (by omega)]
    have v6 : V.2 17 6 = nI n := by rw [(p4 17 (by omega)).2]; exact e6
    simp only [Eng_decide_b39, c2_2, Option.bind_some, e2, if_neg hcn, c17_2, c17_0, c17_6, e6, k18, p1, bnd2_some]
    rw [ast_w (j := j) s36 rfl (by omega) (by omega)]
    simp only [Option.bind_some, c17_3, c17_1, c33_1, c17_6, wA_F, v6, nI_m256, a34]
    rw [ast_w (j := j) s37 rfl (by rw [wA_n (by omega)]; omega) (by omega)]
    simp only [Option.bind_some, nI_1]
    refine ⟨_, rfl, _, rfl, WL.S (WL.S p3), fun i hi h1 h2 => ?_, ?_, fun c hc => ?_, fun c hc => ?_⟩
    · have q1 := p4 i (by omega)
      have q2 := hF i hi h1 h2
      exact ⟨by rw [wA_n h2, wA_n h1, q1.1, q2.1], by rw [wA_F, wA_F, q1.2, q2.2]⟩
    · exact bkOk_fr p5 (by rw [wA_n (by omega), wA_n (by omega)]) (by rw [wA_n (by omega), wA_n (by omega)]) (by rw [wA_n (by omega), wA_n (by omega)])
    · rw [wA_n (by omega), wA_s, gD_set]
      by_cases h : j = c
      · subst h; rw [if_pos ⟨rfl, by omega⟩]; exact p2
      · rw [if_neg (fun h' => h h'.1), (p4 36 (by omega)).1]; exact h36 c (by omega)
    · rw [wA_s, gD_set]
      by_cases h : j = c
      · subst h; rw [if_pos ⟨rfl, by rw [wA_n (by omega)]; omega⟩]; rfl
      · rw [if_neg (fun h' => h h'.1), wA_n (by omega), (p4 37 (by omega)).1]; exact h37 c (by omega)) (by
    rintro st ⟨W, rfl, h⟩
    have e2 : W.2 2 2 = nI (pNc (pdW w 2)) := by rw [(h.2.1 2 (by omega) (by omega) (by omega)).2]; exact hnc.1
    exact ⟨(nI (pNc (pdW w 2)), hp W), by simp only [Eng_decide_b39, c2_2, Option.bind_some, e2, if_pos (nI_le (Nat.le_refl _) (show pNc (pdW w 2) < 2 ^ 31 by omega))], W, rfl, h⟩)
  exact ⟨W, i1, hW⟩
/-- what is decided by a plan -/
def decM (w W : Wd) (g : PD) (cs : List (List Int32)) (N a sa ta n : Nat) (ok : Bool) : Prop := W.2 17 6 = nI n ∧ (∀ i, i < N → (W.1 39).getD i 0 = ageP g cs (nI n) (ctW w a i)) ∧ W.2 17 11 = b2i (risP (w.2 sa 1) (floorP g cs (nI n))) ∧ W.2 17 8 = lowP (w.2 sa 1) (floorP g cs (nI n)) ∧ W.2 17 9 = uppP (w.2 sa 2) (totalP g (nI n)) ∧ W.2 17 10 = besP (w.2 sa 2) (totalP g (nI n)) (w.2 sa 3) (nI n) ∧ W.2 17 7 = judP (lowP (w.2 sa 1) (floorP g cs (nI n))) (uppP (w.2 sa 2) (totalP g (nI n))) ((w.1 ta).getD 2 0) ∧ ((W.2 17 7 ≠ 0 ∧ ok = true) ∨ (W.2 17 7 = 0 ∧ (∀ c, c < pNc g → (W.1 38).getD c 0 = b2i (pkB (keyZ g cs (nI n)) (pNc g) ((w.1 ta).getD 0 0) c)) ∧ ok = !decide ((w.1 ta).getD 3 0 < nI (stayP (risP (w.2 sa 1) (floorP g cs (nI n))) ((w.1 ta).getD 1 0) N (fun i => ageP g cs (nI n) (ctW w a i)) + cntB (pkB (keyZ g cs (nI n)) (pNc g) ((w.1 ta).getD 0 0)) (pNc g)))))
def decR (w W : Wd) (a sa ta : Nat) (ok : Bool) : Prop := WL W ∧ Fr w W 17 40 ∧ bkOk W (pdW w 2) ∧ W.2 33 0 = 0 ∧ bdA W (pdW w 2) (cutsW w a) ∧ (((loP (pdW w 2) (cutsW w a) 256).1 = -1 ∧ W.2 17 6 = -1 ∧ W.2 17 7 = 2 ∧ ok = true) ∨ ∃ n, n < 256 ∧ (loP (pdW w 2) (cutsW w a) 256).1 = nI n ∧ isPlanP (pdW w 2) (nI n) = true ∧ floorP (pdW w 2) (cutsW w a) (nI n) ≠ -1 ∧ decM w W (pdW w 2) (cutsW w a) (cN w a) a sa ta n ok)
/-- numbers that rounds may meet -/
def rgOk (g : PD) (cs : List (List Int32)) : Prop := ∀ n, n < 256 → (∀ c, c < pNc g → 0 ≤ (rchP g cs c (nI n)).toInt ∧ (rchP g cs c (nI n)).toInt ≤ 100000) ∧ (floorP g cs (nI n) = -1 ∨ 0 ≤ (floorP g cs (nI n)).toInt) ∧ (totalP g (nI n)).toInt < 16777216
def tmOk (t : List Int32) : Prop := (0 ≤ (t.getD 2 0).toInt ∧ (t.getD 2 0).toInt ≤ 1000)
