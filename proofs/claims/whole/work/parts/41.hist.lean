def nxt (x : Nat) : Nat := if x + 1 < 12 then x + 1 else 0
def prv (x : Nat) : Nat := if 0 < x then x - 1 else 11
def hOk (w : Wd) (n x : Nat) : Prop := w.2 49 2 = nI n ∧ n ≤ 12 ∧ w.2 49 3 = nI x ∧ x < 12 ∧ ∀ j, j < 12 → w.2 (hB j + 8) 0 = nI 40
theorem hist_ref {w : Wd} {j : Nat} (h : j < 12) : aldR (hp w) 50 (nI j) = some (hB j) := by
  refine aldR_w (a := 50) (rs := [52, 67, 82, 97, 112, 127, 142, 157, 172, 187, 202, 217]) (by decide +kernel) rfl ?_ (by omega)
  have : j = 0 ∨ j = 1 ∨ j = 2 ∨ j = 3 ∨ j = 4 ∨ j = 5 ∨ j = 6 ∨ j = 7 ∨ j = 8 ∨ j = 9 ∨ j = 10 ∨ j = 11 := by omega
  rcases this with rfl | rfl | rfl | rfl | rfl | rfl | rfl | rfl | rfl | rfl | rfl | rfl <;> rfl
theorem Hist_keep_w {w : Wd} {n x : Nat} {act : Int32} (hw : WL w) (hh : hOk w n x) (hz : stOk w 1) : ∃ w', Hist_keep 49 1 act (hp w) = some ((), hp w') ∧ WL w' ∧ stW w' (hB x) = stW w 1 ∧ stOk w' (hB x) ∧ w'.1 51 = (w.1 51).set x act ∧ hOk w' (if n + 1 < 12 then n + 1 else 12) (nxt x) ∧ (∀ i, i ≠ 49 → i ≠ 51 → (i < hB x ∨ hB x + 15 ≤ i) → w'.1 i = w.1 i ∧ w'.2 i = w.2 i) := by
  obtain ⟨h1, h2, h3, h4, h5⟩ := hh
  have hB1 : 52 ≤ hB x ∧ hB x + 15 ≤ 232 := by unfold hB; omega
  obtain ⟨w1, p1, p2, p3, p4, p5⟩ := Stat_copyFrom_w (w := w) (isSt_h h4) isSt_1 (by omega) hw (h5 x h4) hz
  have f49 : w1.2 49 = w.2 49 := (p5 49 (by omega)).2
  have f51 : w1.1 51 = w.1 51 := (p5 51 (by omega)).1
  have L := l51 p2
  have hj : ∀ (t : Nat) (W : Wd), W.2 49 2 = nI n → Hist_keep_j45 49 1 act 49 (nI t) (hp W) = some ((), hp (wF (wF W 49 3 (nI t)) 49 2 (nI (if n + 1 < 12 then n + 1 else 12)))) := by
    intro t W hW
    unfold Hist_keep_j45
    simp only [p49_3, Option.bind_some, c49_2, p49_2]
    have e : (wF W 49 3 (nI t)).2 49 2 = nI n := by rw [wF_n (by omega), hW]
    rw [e, nI_1]
    by_cases hn : n + 1 < 12
    · rw [if_pos hn, if_neg (show ¬ (12 : Int32) < nI (n + 1) from nI_nlt (a := 12) (by omega) (by omega))]
    · rw [if_neg hn]
      have : n + 1 = 12 ∨ n + 1 = 13 := by omega
      rcases this with h | h <;> rw [h] <;> rfl
  have hfin : ∃ w2, Hist_keep 49 1 act (hp w) = some ((), hp (wF (wF (wA w1 51 ((w1.1 51).set x act)) 49 3 (nI (nxt x))) 49 2 (nI (if n + 1 < 12 then n + 1 else 12)))) ∧ w2 = w1 := by
    refine ⟨w1, ?_, rfl⟩
    unfold Hist_keep
    simp only [c49_0, c49_3, Option.bind_some]
    rw [h3, hist_ref h4]
    simp only [Option.bind_some, chk_w (isSt_h h4).1, p1, bnd2_some, c49_1, c49_3]
    rw [f49, h3, ast_w (j := x) s51 rfl (by omega) (by omega)]
    simp only [Option.bind_some, c49_3, wA_F, f49, h3, nI_1]
    have en : nar 0 act = act := rfl
    have e2 : (wA w1 51 ((w1.1 51).set x act)).2 49 2 = nI n := by rw [wA_F, f49, h1]
    rw [en]
    unfold nxt
    by_cases hx : x + 1 < 12
    · rw [if_neg (show ¬ (12 : Int32) ≤ nI (x + 1) from nI_ge (b := 12) hx (by omega)), if_pos hx, hj _ _ e2]
    · rw [if_pos (show (12 : Int32) ≤ nI (x + 1) from nI_le (a := 12) (by omega) (by omega)), if_neg hx, ← hj 0 _ e2]
      rfl
  obtain ⟨_, hfin, _⟩ := hfin
  have hB51 : ¬ hB x = 51 := by omega
  refine ⟨_, hfin, ?_, ?_, ?_, ?_, ?_, ?_⟩
  · exact ((p2.S).F).F
  · rw [← p3]
    have : Fr w1 (wF (wF (wA w1 51 ((w1.1 51).set x act)) 49 3 (nI (nxt x))) 49 2 (nI (if n + 1 < 12 then n + 1 else 12))) 49 52 := by
      repeat (first | exact Fr.rfl' | refine Fr.cA ?_ ?_ ?_ | refine Fr.cF ?_ ?_ ?_)
      all_goals omega
    exact st_fr this (by omega)
  · have : Fr w1 (wF (wF (wA w1 51 ((w1.1 51).set x act)) 49 3 (nI (nxt x))) 49 2 (nI (if n + 1 < 12 then n + 1 else 12))) 49 52 := by
      repeat (first | exact Fr.rfl' | refine Fr.cA ?_ ?_ ?_ | refine Fr.cF ?_ ?_ ?_)
      all_goals omega
    exact stOk_fr this (by omega) p4
  · show (wA w1 51 ((w1.1 51).set x act)).1 51 = _
    rw [wA_s, f51]
  · refine ⟨by rw [wF_s], by split <;> omega, by rw [wF_n (by omega), wF_s], by unfold nxt; split <;> omega, ?_⟩
    intro j hj'
    have hne : ¬ hB j + 8 = 49 := by unfold hB; omega
    rw [wF_n (by omega), wF_n (by omega), wA_F]
    by_cases hjx : j = x
    · subst hjx; exact p4.1
    · rw [(p5 (hB j + 8) (by unfold hB; omega)).2]; exact h5 j hj'
  · intro i i1 i2 i3
    have := p5 i i3
    constructor
    · show (wA w1 51 ((w1.1 51).set x act)).1 i = _
      rw [wA_n i2, this.1]
    · funext k
      rw [wF_n (by omega), wF_n (by omega), wA_F, this.2]
theorem Hist_takeBack_0 {w : Wd} {x : Nat} (hh : hOk w 0 x) : Hist_takeBack 49 1 (hp w) = some (-1, hp w) := by
  unfold Hist_takeBack
  simp only [c49_2, Option.bind_some, hh.1]
  rfl
theorem Hist_takeBack_w {w : Wd} {n x : Nat} (hw : WL w) (hh : hOk w (n + 1) x) (hm : w.2 9 0 = nI 40) (hz : stOk w (hB (prv x))) : ∃ w', Hist_takeBack 49 1 (hp w) = some ((w.1 51).getD (prv x) 0, hp w') ∧ WL w' ∧ stW w' 1 = stW w (hB (prv x)) ∧ stOk w' 1 ∧ hOk w' n (prv x) ∧ (∀ i, i ≠ 49 → (i < 1 ∨ 16 ≤ i) → w'.1 i = w.1 i ∧ w'.2 i = w.2 i) ∧ w'.1 49 = w.1 49 := by
  obtain ⟨h1, h2, h3, h4, h5⟩ := hh
  have hx : prv x < 12 := by unfold prv; split <;> omega
  have hB1 : 52 ≤ hB (prv x) ∧ hB (prv x) + 15 ≤ 232 := by unfold hB; omega
  have hF : Fr w (wF (wF w 49 2 (nI n)) 49 3 (nI (prv x))) 49 50 := by
    repeat (first | exact Fr.rfl' | refine Fr.cA ?_ ?_ ?_ | refine Fr.cF ?_ ?_ ?_)
    all_goals omega
  obtain ⟨w1, p1, p2, p3, p4, p5⟩ := Stat_copyFrom_w (w := wF (wF w 49 2 (nI n)) 49 3 (nI (prv x))) isSt_1 (isSt_h hx) (by omega) hw.F.F (by rw [(hF 9 (by omega)).2]; exact hm) (stOk_fr hF (by omega) hz)
  have f49 : w1.2 49 = (wF (wF w 49 2 (nI n)) 49 3 (nI (prv x))).2 49 := (p5 49 (by omega)).2
  have e3 : w1.2 49 3 = nI (prv x) := by rw [f49, wF_s]
  have f51 : w1.1 51 = w.1 51 := (p5 51 (by omega)).1
  have L := l51 hw
  have hj : Hist_takeBack_j38 49 1 49 (nI (prv x)) (hp (wF w 49 2 (nI n))) = some ((w.1 51).getD (prv x) 0, hp w1) := by
    unfold Hist_takeBack_j38
    simp only [p49_3, Option.bind_some, c49_0, c49_3, wF_s, hist_ref hx, chk_w isSt_1.1, p1, bnd2_some, c49_1, e3]
    rw [ald_w (j := prv x) s51 rfl (by rw [f51]; omega) (by omega), f51]
    rfl
  refine ⟨w1, ?_, p2, ?_, p4, ?_, ?_, ?_⟩
  · unfold Hist_takeBack
    simp only [c49_2, Option.bind_some]
    rw [h1, if_pos (nI_ne0 (by omega) (by omega))]
    rw [nI_pred]
    simp only [p49_2, c49_3, Option.bind_some]
    have e : (wF w 49 2 (nI n)).2 49 3 = nI x := by rw [wF_n (by omega), h3]
    rw [e]
    unfold prv at hj
    by_cases h0 : 0 < x
    · rw [if_neg (nI_nle h0 (by omega))]
      rw [if_pos h0] at hj
      have : nI x - 1 = nI (x - 1) := by
        have : x = (x - 1) + 1 := by omega
        rw [this, nI_pred]; simp
      rw [this, hj]; unfold prv; rw [if_pos h0]
    · have : x = 0 := by omega
      subst this
      rw [if_pos (show nI 0 ≤ 0 by decide)]
      rw [if_neg h0] at hj
      exact hj
  · rw [p3]; exact st_fr hF (by omega)
  · refine ⟨by rw [f49, wF_n (by omega), wF_s], by omega, e3, hx, ?_⟩
    intro j hj'
    have hne : ¬ hB j + 8 = 49 := by unfold hB; omega
    rw [(p5 (hB j + 8) (by unfold hB; omega)).2, (hF (hB j + 8) (by unfold hB; omega)).2]
    exact h5 j hj'
  · intro i i1 i2
    have q := p5 i (by omega)
    have r := hF i (by omega)
    exact ⟨q.1.trans r.1, q.2.trans r.2⟩
  · exact (p5 49 (by omega)).1
