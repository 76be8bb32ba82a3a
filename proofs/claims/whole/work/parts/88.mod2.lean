/-! the reference: reaches, floors, the master -/
section Md2
variable {w : Wd}
theorem ldCuts (hw : WL w) (hm : mdOk (w.1 279)) : ald 0 (hp w) 279 9 = some (nI (mdN (w.1 279))) := by
  rw [ldN hw (i := 9) (j := 9) rfl (by omega)]
  exact congrArg some hm.2.1.1
theorem cut_at {r : List Int32} (hm : mdOk r) {i : Nat} (hi : i < mdN r) : cutV (mdG r) (mdC1 r i) := hm.2.2 _ (mdC_mem hi)
theorem cut_c4 {r : List Int32} (hm : mdOk r) {i : Nat} (hi : i < mdN r) : ∃ n, n < 4 ∧ cK (mdC1 r i) 0 = nI n := by
  obtain ⟨n, h1, h2⟩ := (cut_at hm hi).1
  have := hm.1.1.2.2.2
  exact ⟨n, by omega, h2⟩
theorem Mod_reachBy_w (hw : WL w) (hm : mdOk (w.1 279)) {c : Nat} {plan : Int32} (hc : c < 4) : Mod_reachBy 274 (nI c) plan (hp w) = some (rchP (mdG (w.1 279)) (mdC (w.1 279)) c plan, hp w) := by
  have hN := hm.2.1.2
  have hit : iter (Mod_reachBy_b5 274 (nI c) plan) Lmax (0, 0, hp w) = some (rchP (mdG (w.1 279)) (mdC (w.1 279)) c plan, nI (mdN (w.1 279)), hp w) := by
    refine iter_L (fun j => (((List.range j).map (mdC1 (w.1 279))).foldl (rchF (mdG (w.1 279)) c plan) 0, nI j, hp w)) (mdN (w.1 279)) (by omega) ?_ ?_
    · intro j hj
      have hcn : ¬ nI (mdN (w.1 279)) ≤ nI j := nI_ge hj (by omega)
      have hv := cut_at hm hj
      have o0 : Mod_ofCut 274 (nI j) 0 (hp w) = some (cK (mdC1 (w.1 279) j) 0, hp w) := Mod_ofCut_w hw (by omega) (show 0 < 13 by omega)
      have o1 : Mod_ofCut 274 (nI j) 1 (hp w) = some (cK (mdC1 (w.1 279) j) 1, hp w) := Mod_ofCut_w hw (by omega) (show 1 < 13 by omega)
      have tb := Mod_toldBy_w (plan := plan) hw hm.1 (show j < 103 by omega) (cut_c4 hm hj)
      have e : ((List.range (j + 1)).map (mdC1 (w.1 279))).foldl (rchF (mdG (w.1 279)) c plan) 0 = rchF (mdG (w.1 279)) c plan (((List.range j).map (mdC1 (w.1 279))).foldl (rchF (mdG (w.1 279)) c plan) 0) (mdC1 (w.1 279) j) := by
        rw [List.range_succ, List.map_append, List.foldl_append]
        rfl
      rw [e]
      generalize ((List.range j).map (mdC1 (w.1 279))).foldl (rchF (mdG (w.1 279)) c plan) 0 = M
      simp only [Mod_reachBy_b5, c274_5, ldCuts hw hm, Option.bind_some, if_neg hcn, k274, o0, o1, tb, bnd2_some, Mod_reachBy_j57, nI_1]
      unfold rchF
      by_cases t0 : cK (mdC1 (w.1 279) j) 0 = nI c
      · rw [if_neg (fun h => h t0)]
        by_cases t1 : cK (mdC1 (w.1 279) j) 1 = 0
        · rw [if_neg (fun h => h t1)]
          have t1' : ¬ cK (mdC1 (w.1 279) j) 1 = 1 := by rw [t1]; decide
          by_cases t2 : valP (mdG (w.1 279)) (mdC1 (w.1 279) j) plan ≤ M
          · rw [if_pos t2, if_neg (fun h => h.2.2 t2)]
          · rw [if_neg t2, if_pos ⟨t0, t1', t2⟩]
        · rw [if_pos t1]
          have t1' : cK (mdC1 (w.1 279) j) 1 = 1 := by
            rcases hv.2.1 with h | h
            · exact absurd h t1
            · exact h
          rw [if_neg (fun h => h.2.1 t1')]
      · rw [if_pos t0, if_neg (fun h => t0 h.1)]
    · simp only [Mod_reachBy_b5, c274_5, ldCuts hw hm, Option.bind_some, if_pos (nI_le (Nat.le_refl _) (show mdN (w.1 279) < 2 ^ 31 by omega))]
      rfl
  simp only [Mod_reachBy, hit, Option.bind_some, Mod_reachBy_j63]
theorem Mod_floorOf_w (hw : WL w) (hm : mdOk (w.1 279)) {plan : Int32} : Mod_floorOf 274 plan (hp w) = some (floorP (mdG (w.1 279)) (mdC (w.1 279)) plan, hp w) := by
  have hN := hm.2.1.2
  have hnc := hm.1.1.2.2
  have e2 : ald 0 (hp w) 279 2 = some (nI (pNc (mdG (w.1 279)))) := by rw [ldN hw (i := 2) (j := 2) rfl (by omega)]; exact congrArg some hnc.1
  have main : ∀ j, j < mdN (w.1 279) → Mod_floorOf_b2 274 plan (nI j, hp w) = if (decide (cK (mdC1 (w.1 279) j) 1 = 1) && !decide (valP (mdG (w.1 279)) (mdC1 (w.1 279) j) plan ≤ 0)) = true then some (.inr (.inl (nI j, hp w))) else some (.inl (nI (j + 1), hp w)) := by
    intro j hj
    have hcn : ¬ nI (mdN (w.1 279)) ≤ nI j := nI_ge hj (by omega)
    have o1 : Mod_ofCut 274 (nI j) 1 (hp w) = some (cK (mdC1 (w.1 279) j) 1, hp w) := Mod_ofCut_w hw (by omega) (show 1 < 13 by omega)
    have tb := Mod_toldBy_w (plan := plan) hw hm.1 (show j < 103 by omega) (cut_c4 hm hj)
    simp only [Mod_floorOf_b2, c274_5, ldCuts hw hm, Option.bind_some, if_neg hcn, k274, o1, tb, bnd2_some, Mod_floorOf_j34, nI_1]
    by_cases t1 : cK (mdC1 (w.1 279) j) 1 = 1
    · rw [if_neg (fun h => h t1)]
      by_cases t2 : valP (mdG (w.1 279)) (mdC1 (w.1 279) j) plan ≤ 0
      · rw [if_pos t2, if_neg (by simp [t2])]
      · rw [if_neg t2, if_pos (by simp [t1, t2])]
    · rw [if_pos t1, if_neg (by simp [t1])]
  have hit := iter_E (body := Mod_floorOf_b2 274 plan) (fun j => (nI j, hp w)) (mdN (w.1 279)) (fun j => decide (cK (mdC1 (w.1 279) j) 1 = 1) && !decide (valP (mdG (w.1 279)) (mdC1 (w.1 279) j) plan ≤ 0)) (q := Sum.inr (nI (mdN (w.1 279)), hp w)) (fun j => Sum.inl (nI j, hp w)) (by omega) (fun j hj hP => by rw [main j hj, if_neg (by rw [hP]; decide)]) (fun j hj hP => by rw [main j hj, if_pos hP]) (by simp only [Mod_floorOf_b2, c274_5, ldCuts hw hm, Option.bind_some, if_pos (nI_le (Nat.le_refl _) (show mdN (w.1 279) < 2 ^ 31 by omega))])
  have hbar : barP (mdG (w.1 279)) (mdC (w.1 279)) plan = ((List.range (mdN (w.1 279))).find? (fun j => decide (cK (mdC1 (w.1 279) j) 1 = 1) && !decide (valP (mdG (w.1 279)) (mdC1 (w.1 279) j) plan ≤ 0))).isSome := by
    unfold barP mdC
    rw [List.any_map]
    rw [Bool.eq_iff_iff, List.any_eq_true, List.find?_isSome]
    rfl
  have hit2 : iter (Mod_floorOf_b48 274 plan) Lmax (feesP (mdG (w.1 279)) plan, 0, hp w) = some (flrN (mdG (w.1 279)) (mdC (w.1 279)) plan (pNc (mdG (w.1 279))), nI (pNc (mdG (w.1 279))), hp w) := by
    refine iter_L (fun j => (flrN (mdG (w.1 279)) (mdC (w.1 279)) plan j, nI j, hp w)) (pNc (mdG (w.1 279))) (by omega) ?_ ?_
    · intro j hj
      have hcn : ¬ nI (pNc (mdG (w.1 279))) ≤ nI j := nI_ge hj (by omega)
      have a1 : ald 0 (hp w) 279 (47 + nI j) = some (pWt (mdG (w.1 279)) j) := by rw [m_wt (by omega)]; exact ldN hw (nI_add 47 j) (by omega)
      simp only [Mod_floorOf_b48, c274_5, e2, Option.bind_some, if_neg hcn, a1, k274, Mod_reachBy_w hw hm (show j < 4 by omega), bnd2_some, nI_1]
      rfl
    · simp only [Mod_floorOf_b48, c274_5, e2, Option.bind_some, if_pos (nI_le (Nat.le_refl _) (show pNc (mdG (w.1 279)) < 2 ^ 31 by omega))]
  unfold Mod_floorOf floorP
  have hz : ((0 : Int32), hp w) = (nI 0, hp w) := rfl
  rw [hz, hit, hbar]
  cases hf : (List.range (mdN (w.1 279))).find? (fun j => decide (cK (mdC1 (w.1 279) j) 1 = 1) && !decide (valP (mdG (w.1 279)) (mdC1 (w.1 279) j) plan ≤ 0)) with
  | none =>
    simp only [Option.bind_some, Sum.elim_inr, Mod_floorOf_j40, k274, Mod_feesOf_w hw hm.1, bnd2_some, hit2, Mod_floorOf_j83, Option.isSome_none]
    rw [if_neg (by decide)]
  | some j =>
    simp only [Option.bind_some, Sum.elim_inl, Mod_floorOf_j32, Option.isSome_some, if_true]
end Md2
/-- the lowest of what there is, the reference's way -/
def argM (T : Nat → Int32) : Nat → Int32 × Int32
  | 0 => (-1, 1000000000)
  | n + 1 => if T n = -1 then argM T n else if T n < (argM T n).2 then (nI n, T n) else argM T n
def argC (T : Nat → Int32) : Nat → Int32 × Int32
  | 0 => (-1, -1)
  | n + 1 => if T n = -1 then argC T n else if (argC T n).1 = -1 then (nI n, T n) else if (argC T n).2 ≤ T n then argC T n else (nI n, T n)
theorem arg_eq {T : Nat → Int32} : ∀ n, n ≤ 256 → (∀ i, i < n → T i = -1 ∨ (0 ≤ (T i).toInt ∧ (T i).toInt < 1000000000)) → (argM T n).1 = (argC T n).1 ∧ ((argC T n).1 = -1 ∧ (argM T n).2 = 1000000000 ∨ (¬ (argC T n).1 = -1 ∧ (argM T n).2 = (argC T n).2)) := by
  intro n
  induction n with
  | zero => intro _ _; exact ⟨rfl, Or.inl ⟨rfl, rfl⟩⟩
  | succ n ih =>
    intro hn hT
    have h := ih (by omega) (fun i hi => hT i (by omega))
    have eM : argM T (n + 1) = if T n = -1 then argM T n else if T n < (argM T n).2 then (nI n, T n) else argM T n := rfl
    have eC : argC T (n + 1) = if T n = -1 then argC T n else if (argC T n).1 = -1 then (nI n, T n) else if (argC T n).2 ≤ T n then argC T n else (nI n, T n) := rfl
    by_cases t1 : T n = -1
    · rw [if_pos t1] at eM eC
      rw [eM, eC]; exact h
    · rw [if_neg t1] at eM eC
      have hr : 0 ≤ (T n).toInt ∧ (T n).toInt < 1000000000 := by
        rcases hT n (by omega) with h' | h'
        · exact absurd h' t1
        · exact h'
      rcases h with ⟨h1, ⟨h2, h3⟩ | ⟨h2, h3⟩⟩
      · rw [if_pos h2] at eC
        rw [h3, if_pos (by rw [ti_lt]; have : (1000000000 : Int32).toInt = 1000000000 := rfl; omega)] at eM
        rw [eM, eC]
        exact ⟨rfl, Or.inr ⟨nI_m1 (by omega), rfl⟩⟩
      · rw [if_neg h2] at eC
        rw [h3] at eM
        by_cases t3 : (argC T n).2 ≤ T n
        · rw [if_pos t3] at eC
          rw [if_neg (fun h' => by rw [ti_lt] at h'; rw [ti_le] at t3; omega)] at eM
          rw [eM, eC]; exact ⟨h1, Or.inr ⟨h2, h3⟩⟩
        · rw [if_neg t3] at eC
          rw [if_pos (by rw [ti_lt]; rw [ti_le] at t3; omega)] at eM
          rw [eM, eC]
          exact ⟨rfl, Or.inr ⟨nI_m1 (by omega), rfl⟩⟩
theorem loP_arg {g : PD} {cs : List (List Int32)} : ∀ n, loP g cs n = argC (flrT g cs) n := by
  intro n
  induction n with
  | zero => rfl
  | succ n ih =>
    show (if flrT g cs n = -1 then loP g cs n else if (loP g cs n).1 = -1 then (nI n, flrT g cs n) else if (loP g cs n).2 ≤ flrT g cs n then loP g cs n else (nI n, flrT g cs n)) = _
    rw [ih]; rfl
theorem chP_arg {g : PD} : ∀ n, chP g n = argC (totT g) n := by
  intro n
  induction n with
  | zero => rfl
  | succ n ih =>
    show (if totT g n = -1 then chP g n else if (chP g n).1 = -1 then (nI n, totT g n) else if (chP g n).2 ≤ totT g n then chP g n else (nI n, totT g n)) = _
    rw [ih]; rfl
theorem flrT_rng {g : PD} (hg : wfP g) {cs : List (List Int32)} (hc : csOk g cs) (i : Nat) : flrT g cs i = -1 ∨ (0 ≤ (flrT g cs i).toInt ∧ (flrT g cs i).toInt < 1000000000) := by
  unfold flrT
  split
  · rcases floor_cases hg hc (nI i) with h | h
    · exact Or.inl h
    · exact Or.inr (by omega)
  · exact Or.inl rfl
theorem totT_rng {g : PD} (hg : wfP g) {i : Nat} (hi : i < 256) : totT g i = -1 ∨ (0 ≤ (totT g i).toInt ∧ (totT g i).toInt < 1000000000) := by
  unfold totT
  split
  · rcases total_cases hg hi with h | h
    · exact Or.inl h.1
    · exact Or.inr (by omega)
  · exact Or.inl rfl
theorem Mod_masterOf_w {w : Wd} (hw : WL w) (hm : mdOk (w.1 279)) : Mod_masterOf 274 (hp w) = some ((loP (mdG (w.1 279)) (mdC (w.1 279)) 256).1, hp w) := by
  have hit : iter (Mod_masterOf_b7 274) Lmax ((-1), 1000000000, 0, hp w) = some ((argM (flrT (mdG (w.1 279)) (mdC (w.1 279))) 256).1, (argM (flrT (mdG (w.1 279)) (mdC (w.1 279))) 256).2, nI 256, hp w) := by
    refine iter_L (fun j => ((argM (flrT (mdG (w.1 279)) (mdC (w.1 279))) j).1, (argM (flrT (mdG (w.1 279)) (mdC (w.1 279))) j).2, nI j, hp w)) 256 (by omega) ?_ ?_
    · intro j hj
      have hcn : ¬ (256 : Int32) ≤ nI j := nI_ge (b := 256) hj (by omega)
      have e : argM (flrT (mdG (w.1 279)) (mdC (w.1 279))) (j + 1) = if flrT (mdG (w.1 279)) (mdC (w.1 279)) j = -1 then argM (flrT (mdG (w.1 279)) (mdC (w.1 279))) j else if flrT (mdG (w.1 279)) (mdC (w.1 279)) j < (argM (flrT (mdG (w.1 279)) (mdC (w.1 279))) j).2 then (nI j, flrT (mdG (w.1 279)) (mdC (w.1 279)) j) else argM (flrT (mdG (w.1 279)) (mdC (w.1 279))) j := rfl
      rw [e]
      simp only [Mod_masterOf_b7, if_neg hcn, k274, Option.bind_some, Mod_isPlan_w hw hm.1, bnd2_some, Mod_floorOf_w hw hm, Mod_masterOf_j52, nI_1]
      by_cases hpl : isPlanP (mdG (w.1 279)) (nI j) = true
      · have ef : flrT (mdG (w.1 279)) (mdC (w.1 279)) j = floorP (mdG (w.1 279)) (mdC (w.1 279)) (nI j) := by unfold flrT; rw [if_pos hpl]
        rw [hpl, if_pos (by decide), ef]
        split
        · rfl
        · split <;> rfl
      · have hpl' : isPlanP (mdG (w.1 279)) (nI j) = false := by simpa using hpl
        have ef : flrT (mdG (w.1 279)) (mdC (w.1 279)) j = -1 := by unfold flrT; rw [if_neg hpl]
        rw [hpl', if_neg (by decide), if_pos ef]
    · simp only [Mod_masterOf_b7, if_pos (show (256 : Int32) ≤ nI 256 by decide)]
  have ea := (arg_eq (T := flrT (mdG (w.1 279)) (mdC (w.1 279))) 256 (Nat.le_refl _) (fun i _ => flrT_rng hm.1 hm.2.2 i)).1
  simp only [Mod_masterOf, hit, Option.bind_some, Mod_masterOf_j58, ea, loP_arg]
