def b2i (b : Bool) : Int32 := if b then 1 else 0
theorem bz0 : bz 0 = some 0 := rfl
theorem bz1 : bz 1 = some 1 := rfl
theorem bzb (b : Bool) : bz (b2i b) = some (b2i b) := by cases b <;> rfl
theorem b2i_0 {b : Bool} : b2i b = 0 ↔ b = false := by cases b <;> decide
theorem b2i_1 {b : Bool} : b2i b = 1 ↔ b = true := by cases b <;> decide
/-- what isn't between lo and hi stays -/
def Fr (w w' : Wd) (lo hi : Nat) : Prop := ∀ i, (i < lo ∨ hi ≤ i) → w'.1 i = w.1 i ∧ w'.2 i = w.2 i
theorem Fr.rfl' {w : Wd} {lo hi : Nat} : Fr w w lo hi := fun _ _ => ⟨rfl, rfl⟩
theorem Fr.tr {w w' w'' : Wd} {lo hi : Nat} (h1 : Fr w w' lo hi) (h2 : Fr w' w'' lo hi) : Fr w w'' lo hi := fun i hi => ⟨(h2 i hi).1.trans (h1 i hi).1, (h2 i hi).2.trans (h1 i hi).2⟩
theorem Fr.mono {w w' : Wd} {lo hi lo' hi' : Nat} (h : Fr w w' lo hi) (h1 : lo' ≤ lo) (h2 : hi ≤ hi') : Fr w w' lo' hi' := fun i hi => h i (by omega)
theorem Fr.A {w : Wd} {a lo hi : Nat} {xs : List Int32} (h1 : lo ≤ a) (h2 : a < hi) : Fr w (wA w a xs) lo hi := fun i hi => ⟨wA_n (by omega), rfl⟩
theorem Fr.F {w : Wd} {a k lo hi : Nat} {x : Int32} (h1 : lo ≤ a) (h2 : a < hi) : Fr w (wF w a k x) lo hi := fun i hi => ⟨rfl, by funext j; exact wF_n (by omega)⟩
theorem fill_w {w : Wd} {a : Nat} {x : Int32} (h : shp[a]? = some (.inr (.inl 0))) (hl : (w.1 a).length < 1000000) : J7_fill a x (hp w) = some ((), hp (wA w a (List.replicate (w.1 a).length x))) := by
  have hit : iter (J7_fill_b5 a x (nI (w.1 a).length)) Lmax (0, hp w) = some (nI (w.1 a).length, hp (wA w a (List.replicate (w.1 a).length x))) := by
    have hf0 : (w.1 a) = List.replicate 0 x ++ (w.1 a).drop 0 := by simp
    have key := iter_L (body := J7_fill_b5 a x (nI (w.1 a).length)) (fun j => (nI j, hp (wA w a (List.replicate j x ++ (w.1 a).drop j)))) (w.1 a).length (q := (nI (w.1 a).length, hp (wA w a (List.replicate (w.1 a).length x)))) hl ?_ ?_
    · have e0 : wA w a (List.replicate 0 x ++ (w.1 a).drop 0) = w := by
        rw [← hf0]
        unfold wA
        refine Prod.ext ?_ rfl
        funext i
        by_cases hi : i = a
        · subst hi; simp
        · simp [hi]
      simp only [e0] at key
      exact key
    · intro j hj
      have hc : ¬ nI (w.1 a).length ≤ nI j := nI_ge hj (by omega)
      have hlen : j < ((wA w a (List.replicate j x ++ (w.1 a).drop j)).1 a).length := by rw [wA_s]; simp; omega
      have eW : wA (wA w a (List.replicate j x ++ (w.1 a).drop j)) a (((wA w a (List.replicate j x ++ (w.1 a).drop j)).1 a).set j (nar 0 x)) = wA w a (List.replicate (j + 1) x ++ (w.1 a).drop (j + 1)) := by
        have eL : ((wA w a (List.replicate j x ++ (w.1 a).drop j)).1 a).set j (nar 0 x) = List.replicate (j + 1) x ++ (w.1 a).drop (j + 1) := by
          rw [wA_s, List.set_append_right _ _ (by simp), List.length_replicate, Nat.sub_self]
          simp only [nar, if_true, List.replicate_succ', List.append_assoc, List.append_cancel_left_eq]
          rw [List.drop_eq_getElem_cons hj]
          rfl
        rw [eL]
        unfold wA
        refine Prod.ext ?_ rfl
        funext i
        by_cases hi : i = a <;> simp [hi]
      simp only [J7_fill_b5, if_neg hc, ast_w h rfl hlen (by omega), Option.bind_some, nI_1, eW]
    · have hc : nI (w.1 a).length ≤ nI (w.1 a).length := nI_le (Nat.le_refl _) (by omega)
      simp only [J7_fill_b5, if_pos hc]
      simp
  simp only [J7_fill, alen_w h (by decide), Option.bind_some, hit, J7_fill_j20]
def isPlanP (g : PD) (plan : Int32) : Bool := decide (0 ≤ plan ∧ plan < 256) && (List.range 4).all (fun p => decide (unitsI plan p ≤ pMost g p))
theorem find_all {n : Nat} {P : Nat → Bool} : ((List.range n).find? (fun j => !P j)).isNone = (List.range n).all P := by
  cases h : (List.range n).find? (fun j => !P j) with
  | none =>
    have h1 := List.find?_eq_none.mp h
    symm
    simp only [Option.isNone_none, List.all_eq_true]
    intro x hx
    have := h1 x hx
    simpa using this
  | some j =>
    have h1 := List.find?_some h
    have h2 := List.mem_of_find?_eq_some h
    symm
    simp only [Option.isNone_some, List.all_eq_false]
    exact ⟨j, h2, by simpa using h1⟩
theorem Prog_isPlan_w {w : Wd} {a : Nat} {plan : Int32} (hs : isPg a) (hw : wfP (pdW w a)) : Prog_isPlan a plan (hp w) = some (b2i (isPlanP (pdW w a) plan), hp w) := by
  have hlen : (w.1 (a + 3)).length = 4 := hw.2.1.2.2.1
  have hit := iter_E (body := Prog_isPlan_b15 a plan) (fun j => (nI j, hp w)) 4 (fun j => !decide (unitsI plan j ≤ pMost (pdW w a) j)) (q := Sum.inr (nI 4, hp w)) (fun j => Sum.inl (nI j, hp w)) (by decide) ?_ ?_ ?_
  · unfold Prog_isPlan isPlanP
    by_cases h1 : plan < 0
    · have h1' : ¬ (0 ≤ plan ∧ plan < 256) := fun h => absurd h.1 (Int32.not_le.mpr h1)
      simp only [if_pos h1, Prog_isPlan_j11, bz0, Option.bind_some, h1', decide_false, Bool.false_and]
      rfl
    · rw [if_neg h1]
      by_cases h2 : plan < 256
      · have h2' : (0 ≤ plan ∧ plan < 256) := ⟨Int32.not_lt.mp h1, h2⟩
        have hz : ((0 : Int32), hp w) = (nI 0, hp w) := rfl
        rw [if_pos h2, hz, hit]
        simp only [Option.bind_some, h2', decide_true, Bool.true_and, and_self]
        rw [← find_all]
        cases hf : (List.range 4).find? (fun j => !decide (unitsI plan j ≤ pMost (pdW w a) j)) with
        | none => simp [Prog_isPlan_j42, bz1, b2i]
        | some j => simp [Prog_isPlan_j34, bz0, b2i]
      · have h2' : ¬ (0 ≤ plan ∧ plan < 256) := fun h => h2 h.2
        simp only [if_neg h2, Prog_isPlan_j11, bz0, Option.bind_some, h2', decide_false, Bool.false_and]
        rfl
  · intro j hj hP
    have hc : ¬ (4 : Int32) ≤ nI j := nI_ge (b := 4) hj (by omega)
    have hP2 : unitsI plan j ≤ pMost (pdW w a) j := by simpa using hP
    simp only [Prog_isPlan_b15, if_neg hc, Sp_unitsIn, bnd2_some, pgR5 hs, Option.bind_some, ald_w hs.2.2.2.1 rfl (show j < (w.1 (a + 3)).length by omega) (by omega), nI_1]
    exact if_pos hP2
  · intro j hj hP
    have hc : ¬ (4 : Int32) ≤ nI j := nI_ge (b := 4) hj (by omega)
    have hP2 : ¬ unitsI plan j ≤ pMost (pdW w a) j := by simpa using hP
    simp only [Prog_isPlan_b15, if_neg hc, Sp_unitsIn, bnd2_some, pgR5 hs, Option.bind_some, ald_w hs.2.2.2.1 rfl (show j < (w.1 (a + 3)).length by omega) (by omega), nI_1]
    exact if_neg hP2
  · have hc : (4 : Int32) ≤ nI 4 := by decide
    simp only [Prog_isPlan_b15, if_pos hc]
def hasN (n i : Int32) : Bool := decide (¬ i < 0 ∧ ¬ n ≤ i)
theorem Prog_hasPlant_w {w : Wd} {a : Nat} {i : Int32} (hs : isPg a) : Prog_hasPlant a i (hp w) = some (b2i (hasN (w.2 a 0) i), hp w) := by
  unfold Prog_hasPlant hasN
  by_cases h1 : i < 0
  · simp [h1, Prog_hasPlant_j16, Prog_hasPlant_j17, bz0, b2i]
  · by_cases h2 : w.2 a 0 ≤ i
    · simp [h1, pgI0 hs, h2, Prog_hasPlant_j16, Prog_hasPlant_j17, bz0, b2i]
    · simp [h1, pgI0 hs, h2, Prog_hasPlant_j16, Prog_hasPlant_j17, bz1, b2i]
theorem Prog_hasSite_w {w : Wd} {a : Nat} {i : Int32} (hs : isPg a) : Prog_hasSite a i (hp w) = some (b2i (hasN (w.2 a 1) i), hp w) := by
  unfold Prog_hasSite hasN
  by_cases h1 : i < 0
  · simp [h1, Prog_hasSite_j16, Prog_hasSite_j17, bz0, b2i]
  · by_cases h2 : w.2 a 1 ≤ i
    · simp [h1, pgI1 hs, h2, Prog_hasSite_j16, Prog_hasSite_j17, bz0, b2i]
    · simp [h1, pgI1 hs, h2, Prog_hasSite_j16, Prog_hasSite_j17, bz1, b2i]
theorem Prog_hasCase_w {w : Wd} {a : Nat} {i : Int32} (hs : isPg a) : Prog_hasCase a i (hp w) = some (b2i (hasN (w.2 a 2) i), hp w) := by
  unfold Prog_hasCase hasN
  by_cases h1 : i < 0
  · simp [h1, Prog_hasCase_j16, Prog_hasCase_j17, bz0, b2i]
  · by_cases h2 : w.2 a 2 ≤ i
    · simp [h1, pgI2 hs, h2, Prog_hasCase_j16, Prog_hasCase_j17, bz0, b2i]
    · simp [h1, pgI2 hs, h2, Prog_hasCase_j16, Prog_hasCase_j17, bz1, b2i]
