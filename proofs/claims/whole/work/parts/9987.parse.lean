/-! a line, and the whole text -/
def lineP (tp : List Int32) (g : PD) (s : Nat) : Nat × Option PD :=
  if wdP tp s (strB 0) = true then plantP tp g s else if wdP tp s (strB 1) = true then siteP tp g s else if wdP tp s (strB 2) = true then roadP tp g s else if wdP tp s (strB 3) = true then caseP tp g s else (s, none)
theorem bz_b {b : Bool} : bz (b2i b) = some (b2i b) := by cases b <;> rfl
theorem nxT_ge {tp : List Int32} {s : Nat} (h : s ≤ tp.length) : s ≤ nxT tp s ∧ nxT tp s ≤ tp.length := by
  have h1 := tkE_rng h
  have h2 := nxT_rng h
  omega
theorem wd_len {tp : List Int32} {s : Nat} {ws : List Int32} (h : s ≤ tp.length) (hw : wdP tp s ws = true) (hl : 4 ≤ ws.length) : s + 4 ≤ nxT tp s := by
  unfold wdP at hw
  have := of_decide_eq_true hw
  have h2 := nxT_rng h
  omega
theorem needsP_ok {tp : List Int32} {c : Nat} : ∀ (f k : Nat) (g : PD) (s : Nat) {q : Nat} {g' : PD}, wfP g → c < pNc g → k + f ≤ pNs g → s ≤ tp.length → needsP tp c f k g s = (q, some g') → wfP g' ∧ s ≤ q ∧ q ≤ tp.length
  | 0, k, g, s, q, g', hg, _, _, hs, h => by
    rw [needsP_0] at h
    injection h with h1 h2
    injection h2 with h2
    subst h1; subst h2
    exact ⟨hg, Nat.le_refl _, hs⟩
  | f + 1, k, g, s, q, g', hg, hc, hk, hs, h => by
    by_cases h2 : kdA tp s = 2
    · cases e : nmP tp s 0 20 with
      | none =>
        rw [needsP_f h2 e] at h
        injection h with _ h3
        exact absurd h3 (by simp)
      | some v =>
        rw [needsP_s h2 e] at h
        have r := nmP_some e
        have hx := nxT_ge (tp := tp) hs
        have := needsP_ok f (k + 1) (gNeed g c k (nI v)) (nxT tp s) (gNeed_wf hg hc (by omega) (rng_n ⟨r.2.1, r.2.2.1⟩ (by omega))).1 hc (by show k + 1 + f ≤ pNs g; omega) hx.2 h
        exact ⟨this.1, by omega, this.2.2⟩
    · rw [needsP_n h2] at h
      injection h with h1 h3
      injection h3 with h3
      subst h1; subst h3
      exact ⟨hg, Nat.le_refl _, hs⟩
theorem lineP_ok {tp : List Int32} {g g' : PD} {s q : Nat} (hg : wfP g) (hs : s ≤ tp.length) (h : lineP tp g s = (q, some g')) : wfP g' ∧ s + 4 ≤ q ∧ q ≤ tp.length := by
  have x1 := nxT_ge (tp := tp) hs
  have x2 := nxT_ge (tp := tp) x1.2
  have x3 := nxT_ge (tp := tp) x2.2
  have x4 := nxT_ge (tp := tp) x3.2
  unfold lineP at h
  by_cases h0 : wdP tp s (strB 0) = true
  · have hl := wd_len hs h0 (by decide)
    rw [if_pos h0] at h
    unfold plantP at h
    by_cases h4 : pNp g < 4
    · rw [if_pos h4] at h
      cases e1 : nmP tp (nxT tp s) 0 999 with
      | none => rw [e1] at h; injection h with _ h3; exact absurd h3 (by simp)
      | some f =>
        cases e2 : nmP tp (nxT tp (nxT tp s)) 1 20 with
        | none => rw [e1] at h; dsimp only at h; rw [e2] at h; injection h with _ h3; exact absurd h3 (by simp)
        | some z =>
          cases e3 : nmP tp (nxT tp (nxT tp (nxT tp s))) 0 3 with
          | none => rw [e1] at h; dsimp only at h; rw [e2] at h; dsimp only at h; rw [e3] at h; injection h with _ h3; exact absurd h3 (by simp)
          | some m =>
            rw [e1] at h; dsimp only at h; rw [e2] at h; dsimp only at h; rw [e3] at h
            injection h with h1 h3
            injection h3 with h3
            subst h1; subst h3
            have r1 := nmP_some e1
            have r2 := nmP_some e2
            have r3 := nmP_some e3
            exact ⟨(addPlant_wf hg h4 (rng_n ⟨r1.2.1, r1.2.2.1⟩ (by omega)) (rng_n ⟨r2.2.1, r2.2.2.1⟩ (by omega)) (rng_n ⟨r3.2.1, r3.2.2.1⟩ (by omega))).1, by omega, by omega⟩
    · rw [if_neg h4] at h
      injection h with _ h3
      exact absurd h3 (by simp)
  · rw [if_neg h0] at h
    by_cases h1 : wdP tp s (strB 1) = true
    · have hl := wd_len hs h1 (by decide)
      rw [if_pos h1] at h
      unfold siteP at h
      by_cases h6 : pNs g < 6
      · rw [if_pos h6] at h
        injection h with h1 h3
        injection h3 with h3
        subst h1; subst h3
        exact ⟨(gSite_wf hg h6).1, by omega, by omega⟩
      · rw [if_neg h6] at h
        injection h with _ h3
        exact absurd h3 (by simp)
    · rw [if_neg h1] at h
      by_cases h2 : wdP tp s (strB 2) = true
      · have hl := wd_len hs h2 (by decide)
        rw [if_pos h2] at h
        unfold roadP at h
        cases e1 : nmP tp (nxT tp s) 0 ((pNp g : Int) - 1) with
        | none => rw [e1] at h; injection h with _ h3; exact absurd h3 (by simp)
        | some p =>
          cases e2 : nmP tp (nxT tp (nxT tp s)) 0 ((pNs g : Int) - 1) with
          | none => rw [e1] at h; dsimp only at h; rw [e2] at h; injection h with _ h3; exact absurd h3 (by simp)
          | some t =>
            rw [e1] at h; dsimp only at h; rw [e2] at h; dsimp only at h
            by_cases ht : pToll g p t = -1
            · rw [if_pos ht] at h
              cases e3 : nmP tp (nxT tp (nxT tp (nxT tp s))) 0 99 with
              | none => rw [e3] at h; injection h with _ h3; exact absurd h3 (by simp)
              | some v =>
                rw [e3] at h
                injection h with h1 h3
                injection h3 with h3
                subst h1; subst h3
                have r1 := nmP_some e1
                have r2 := nmP_some e2
                have r3 := nmP_some e3
                exact ⟨gRoad_wf hg (by omega) (by omega) (rng_n ⟨by omega, r3.2.2.1⟩ (by omega)), by omega, by omega⟩
            · rw [if_neg ht] at h
              injection h with _ h3
              exact absurd h3 (by simp)
      · rw [if_neg h2] at h
        by_cases h3 : wdP tp s (strB 3) = true
        · have hl := wd_len hs h3 (by decide)
          rw [if_pos h3] at h
          unfold caseP at h
          by_cases h4 : pNc g < 4
          · rw [if_pos h4] at h
            cases e1 : nmP tp (nxT tp s) 1 9 with
            | none => rw [e1] at h; injection h with _ h3; exact absurd h3 (by simp)
            | some v =>
              rw [e1] at h; dsimp only at h
              have r1 := nmP_some e1
              obtain ⟨gw, gn⟩ := addCase_wf (v := nI v) hg h4 (rng_n ⟨r1.2.1, r1.2.2.1⟩ (by omega))
              have := needsP_ok (pNs g) 0 (pdAddCase g (nI v)) (nxT tp (nxT tp s)) gw (by omega) (by show 0 + pNs g ≤ pNs g; omega) x2.2 h
              exact ⟨this.1, by omega, this.2.2⟩
          · rw [if_neg h4] at h
            injection h with _ h3
            exact absurd h3 (by simp)
        · rw [if_neg h3] at h
          injection h with _ h3
          exact absurd h3 (by simp)
section LC
variable {w : Wd} {tp : List Int32} {g : PD} {s : Nat}
theorem line_C (h : liveC w tp g s) (hg : wfP g) : ∃ w', Tape_takeLine 40 42 (hp w) = some (b2i (lineP tp g s).2.isSome, hp w') ∧ resC w' tp (lineP tp g s) ∧ frC w w' := by
  have q0 := word_C h.1 h.2.1 h.2.2.1 wdS_0
  have q1 := word_C h.1 h.2.1 h.2.2.1 wdS_1
  have q2 := word_C h.1 h.2.1 h.2.2.1 wdS_2
  have q3 := word_C h.1 h.2.1 h.2.2.1 wdS_3
  unfold lineP
  by_cases h0 : wdP tp s (strB 0) = true
  · rw [if_pos h0]
    obtain ⟨w', a, b, c⟩ := plant_C h hg
    refine ⟨w', ?_, b, c⟩
    unfold Tape_takeLine
    rw [k40, Option.bind_some, q0, bnd2_some, b2i_t h0, if_neg (by decide), k40, Option.bind_some, a, bnd2_some, bz_b, Option.bind_some]
  · rw [if_neg h0]
    by_cases h1 : wdP tp s (strB 1) = true
    · rw [if_pos h1]
      obtain ⟨w', a, b, c⟩ := site_C h hg
      refine ⟨w', ?_, b, c⟩
      unfold Tape_takeLine
      rw [k40, Option.bind_some, q0, bnd2_some, b2i_f h0, if_pos rfl, k40, Option.bind_some, q1, bnd2_some, b2i_t h1, if_neg (by decide), k40, Option.bind_some, a, bnd2_some, bz_b, Option.bind_some]
    · rw [if_neg h1]
      by_cases h2 : wdP tp s (strB 2) = true
      · rw [if_pos h2]
        obtain ⟨w', a, b, c⟩ := road_C h hg
        refine ⟨w', ?_, b, c⟩
        unfold Tape_takeLine
        rw [k40, Option.bind_some, q0, bnd2_some, b2i_f h0, if_pos rfl, k40, Option.bind_some, q1, bnd2_some, b2i_f h1, if_pos rfl, k40, Option.bind_some, q2, bnd2_some, b2i_t h2, if_neg (by decide), k40, Option.bind_some, a, bnd2_some, bz_b, Option.bind_some]
      · rw [if_neg h2]
        by_cases h3 : wdP tp s (strB 3) = true
        · rw [if_pos h3]
          obtain ⟨w', a, b, c⟩ := case_C h hg
          refine ⟨w', ?_, b, c⟩
          unfold Tape_takeLine Tape_takeLine_j66 Tape_takeLine_j67
          rw [k40, Option.bind_some, q0, bnd2_some, b2i_f h0, if_pos rfl, k40, Option.bind_some, q1, bnd2_some, b2i_f h1, if_pos rfl, k40, Option.bind_some, q2, bnd2_some, b2i_f h2, if_pos rfl, k40, Option.bind_some, q3, bnd2_some, b2i_t h3, if_neg (by decide), k40, Option.bind_some, a, bnd2_some]
          cases (caseP tp g s).2.isSome
          · rw [b2f, if_pos rfl, bz0, Option.bind_some]
          · rw [b2t, if_neg (by decide), bz1, Option.bind_some]
        · rw [if_neg h3]
          refine ⟨w, ?_, h.fail, frC.rfl'⟩
          unfold Tape_takeLine Tape_takeLine_j66 Tape_takeLine_j67
          rw [k40, Option.bind_some, q0, bnd2_some, b2i_f h0, if_pos rfl, k40, Option.bind_some, q1, bnd2_some, b2i_f h1, if_pos rfl, k40, Option.bind_some, q2, bnd2_some, b2i_f h2, if_pos rfl, k40, Option.bind_some, q3, bnd2_some, b2i_f h3, if_pos rfl, bz0, Option.bind_some, Option.isSome_none, b2f]
theorem line_R (h : liveR w tp g s) (hg : wfP g) : ∃ w', Mod_line 274 (hp w) = some ((), hp w') ∧ resR w' tp (lineP tp g s) ∧ frL w w' := by
  have q0 := word_R h.1 h.2.1 h.2.2.1 wdS_0
  have q1 := word_R h.1 h.2.1 h.2.2.1 wdS_1
  have q2 := word_R h.1 h.2.1 h.2.2.1 wdS_2
  have q3 := word_R h.1 h.2.1 h.2.2.1 wdS_3
  unfold lineP
  by_cases h0 : wdP tp s (strB 0) = true
  · rw [if_pos h0]
    obtain ⟨w', a, b, c⟩ := plant_R h hg
    refine ⟨w', ?_, b, c⟩
    unfold Mod_line Mod_line_j104
    rw [k274, Option.bind_some, q0, bnd2_some, b2i_t h0, if_neg (by decide), k274, Option.bind_some, a, bnd2_some]
  · rw [if_neg h0]
    by_cases h1 : wdP tp s (strB 1) = true
    · rw [if_pos h1]
      obtain ⟨w', a, b, c⟩ := site_R h hg
      refine ⟨w', ?_, b, c⟩
      unfold Mod_line Mod_line_j104
      rw [k274, Option.bind_some, q0, bnd2_some, b2i_f h0, if_pos rfl, k274, Option.bind_some, q1, bnd2_some, b2i_t h1, if_neg (by decide), ← a, k274]
    · rw [if_neg h1]
      by_cases h2 : wdP tp s (strB 2) = true
      · rw [if_pos h2]
        obtain ⟨w', a, b, c⟩ := road_R h hg
        refine ⟨w', ?_, b, c⟩
        unfold Mod_line Mod_line_j104
        rw [k274, Option.bind_some, q0, bnd2_some, b2i_f h0, if_pos rfl, k274, Option.bind_some, q1, bnd2_some, b2i_f h1, if_pos rfl, k274, Option.bind_some, q2, bnd2_some, b2i_t h2, if_neg (by decide), k274, Option.bind_some, a, bnd2_some]
      · rw [if_neg h2]
        by_cases h3 : wdP tp s (strB 3) = true
        · rw [if_pos h3]
          obtain ⟨w', a, b, c⟩ := case_R h hg
          refine ⟨w', ?_, b, c⟩
          unfold Mod_line Mod_line_j104
          rw [k274, Option.bind_some, q0, bnd2_some, b2i_f h0, if_pos rfl, k274, Option.bind_some, q1, bnd2_some, b2i_f h1, if_pos rfl, k274, Option.bind_some, q2, bnd2_some, b2i_f h2, if_pos rfl, k274, Option.bind_some, q3, bnd2_some, b2i_t h3, if_neg (by decide), k274, Option.bind_some, a, bnd2_some]
        · rw [if_neg h3]
          obtain ⟨w', a, b, c, _⟩ := h.wrong
          refine ⟨w', ?_, b, c⟩
          unfold Mod_line Mod_line_j104
          rw [k274, Option.bind_some, q0, bnd2_some, b2i_f h0, if_pos rfl, k274, Option.bind_some, q1, bnd2_some, b2i_f h1, if_pos rfl, k274, Option.bind_some, q2, bnd2_some, b2i_f h2, if_pos rfl, k274, Option.bind_some, q3, bnd2_some, b2i_f h3, if_pos rfl, k274, Option.bind_some, a, bnd2_some]
end LC
