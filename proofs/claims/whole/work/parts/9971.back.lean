/-! back -/
section Rd
variable {w : Wd} {st : ST} {tm : List Int32} {x : Nat} {hi : List (ST × Int32)} {im im' : Nat → Option (ST × List Int32)} {rf : Nat → Int32} {ss : Int32} {tp : List Int32} {ft : Int32}
theorem cls_back (h : clsI w st tm x hi im rf ss tp ft) {k : Nat} (hk : k < 2) {s : ST × List Int32} (hs : im k = some s) : ∃ w', Sp_back 0 (nI k) (hp w) = some (0, hp w') ∧ clsI w' s.1 s.2 x [] im rf 0 tp ft ∧ Fr w w' 0 274 := by
  have hb : 244 ≤ imB k ∧ imB k + 15 ≤ 274 := by unfold imB; omega
  obtain ⟨h0, ⟨h1, h2, h3, h4, h5⟩, h6, ⟨h7, h7'⟩, h8, h9, h10⟩ := h
  obtain ⟨m1, m2, m3⟩ := h8 k hk
  obtain ⟨m4, m5, m6⟩ := m3 s hs
  rw [hs] at m2
  obtain ⟨w1, a1, b1, c1, d1, e1⟩ := Stat_copyFrom_w (w := w) isSt_1 (isSt_i hk) (by omega) h0 h1.1 m5
  rw [m4] at c1
  have ei : nI k * 4 = nI (4 * k) := by rw [show (4 : Int32) = nI 4 from rfl, nI_mul, Nat.mul_comm]
  obtain ⟨w2, a2, b2, c2, d2, e2⟩ := cp_at (a := 233) (b := 16) (i := 4 * k) (j := 0) (n := 4) (sp := nI k * 4) (dp := 0) (m := 4) b1 s233 s16 ei rfl rfl (by omega) (by omega) (by omega) (show 4 * k + 4 ≤ 8 by omega) (by decide)
  obtain ⟨w3, a3, b3, c3, d3, d3', e3⟩ := pf_eq (x := 0) b2 p49_2
  obtain ⟨w4, a4, b4, c4, d4, e4⟩ := cls_derived (g := s.1.1) b3
  have hF : ∀ i, (i = 0 ∨ (17 ≤ i ∧ i < 20) ∨ (34 ≤ i ∧ i ≠ 49)) → w4.1 i = w.1 i ∧ w4.2 i = w.2 i := by
    intro i hi
    have q4 := e4 i (by omega)
    have q3 := e3 i (by omega)
    have q2 := e2 i (by omega)
    have q1 := e1 i (by omega)
    exact ⟨q4.1.trans (q3.1.trans (q2.1.trans q1.1)), q4.2.trans (q3.2.trans (q2.2.trans q1.2))⟩
  have hss := st_same (w := w1) (w' := w4) (b := 1) (fun i g1 g2 => by
    have q4 := e4 i (by omega)
    have q3 := e3 i (by omega)
    have q2 := e2 i (by omega)
    exact ⟨q4.1.trans (q3.1.trans q2.1), q4.2.trans (q3.2.trans q2.2)⟩)
  have h16 : w4.1 16 = s.2 := by
    rw [(e4 16 (by omega)).1, c3, c2, (e1 233 (by omega)).1, (e1 16 (by omega)).1, ← m6]
    symm
    refine slc_full (by rw [cpy_len]; exact h0 16) (fun q hq => ?_)
    have L16 : (w.1 16).length = 4 := h0 16
    rw [gD_cpy, if_pos ⟨by omega, by omega⟩]
    rfl
  have g49 : w4.2 49 = w3.2 49 := (e4 49 (by omega)).2
  have hI : clsI w4 s.1 s.2 x [] im rf ss tp ft := by
    refine ⟨b4, ⟨hss.2 d1, by rw [hss.1]; exact c1, c4, .inl d4, by rw [(hF 235 (by omega)).2]; exact h5⟩, h16, ⟨⟨by rw [g49]; exact d3, by show 0 ≤ 12; omega, ?_, h7.2.2.2.1, fun j hj => ?_⟩, fun t s' ht => by simp at ht⟩, clsM_fr h8 (fun i h => hF i (by omega)), ?_, ?_⟩
    · rw [g49, d3' 3 (by omega), (e2 49 (by omega)).2, (e1 49 (by omega)).2]
      exact h7.2.2.1
    · have := hB_rng hj
      rw [(hF (hB j + 8) (by omega)).2]
      exact h7.2.2.2.2 j hj
    · unfold clsR at h9 ⊢
      rw [(hF 243 (by omega)).1, (hF 0 (by omega)).2]; exact h9
    · unfold clsT at h10 ⊢
      rw [(hF 41 (by omega)).1, (hF 40 (by omega)).2]; exact h10
  obtain ⟨w5, a5, b5, e5⟩ := cls_accept hI 0
  refine ⟨w5, ?_, b5, fun i hi => ⟨((e5 i (by omega)).1).trans (hF i (by omega)).1, ((e5 i (by omega)).2).trans (hF i (by omega)).2⟩⟩
  have c1' : ¬ nI k < 0 := nI_pos (by omega)
  have c2' : nI k < 2 := nI_lt (b := 2) hk (by omega)
  have l1 : ald 1 (hp w) 234 (nI k) = some 1 := by
    rw [ald_w (j := k) s234 rfl (by rw [l234 h0]; exact hk) (by omega), m2]; rfl
  unfold Sp_back
  rw [if_neg c1', if_pos c2', c0_8, Option.bind_some, l1, Option.bind_some, if_pos (by decide), c0_0, Option.bind_some, c0_6, Option.bind_some, im_ref hk, Option.bind_some, k1, Option.bind_some, a1, bnd2_some, c0_7, Option.bind_some, c0_1, Option.bind_some, a2, Option.bind_some, c0_5, Option.bind_some, a3, Option.bind_some, k0, Option.bind_some, a4, bnd2_some, k0, Option.bind_some, a5, bnd2_some]
theorem ref_back (h : refI w st tm x hi im rf ss tp ft) {k : Nat} (hk : k < 2) {s : ST × List Int32} (hs : im k = some s) : ∃ w', Mod_back 274 (nI k) (hp w) = some (0, hp w') ∧ refI w' s.1 s.2 x [] im rf 0 tp ft ∧ Fr w w' 274 292 := by
  have eb : (1431 : Int32) * nI k = nI (1431 * k) := nI_mul 1431 k
  obtain ⟨h0, h1, h2, h3, ⟨h4, h5, h6⟩, h7, h8, h9⟩ := h
  obtain ⟨m2, m3⟩ := h7 k hk
  obtain ⟨m4, m5⟩ := m3 s hs
  rw [hs] at m2
  obtain ⟨q, i1, w1, rfl, hA⟩ := iter_I (body := Mod_back_b39 274 (nI k) (nI (1431 * k))) (fun j s => ∃ W, s = (nI j, hp W) ∧ scI w W 279 285 0 (1431 * k) j) (fun r => ∃ W, r = (nI 1427, hp W) ∧ scI w W 279 285 0 (1431 * k) 1427) 1427 (s0 := (0, hp w)) (by omega) ⟨w, rfl, scI.zero h0⟩ (by
    rintro j s hj ⟨W, rfl, hW⟩
    left
    have hcn : ¬ (1427 : Int32) ≤ nI j := nI_ge (b := 1427) hj (by omega)
    have q1 : ald 0 (hp W) 285 (nI (1431 * k) + nI j) = some ((w.1 285).getD (1431 * k + j) 0) := by rw [ald_w (j := 1431 * k + j) s285 (nI_add _ _) (by rw [l285 hW.1]; omega) (by omega), (hW.2.1 285 (by omega)).1]
    obtain ⟨V, v1, v2, v3, v4, v5⟩ := st_at (i := nI j) (x := (w.1 285).getD (1431 * k + j) 0) (j := 0 + j) hW.1 s279 (by rw [Nat.zero_add]) (show 0 + j < 1427 by omega) (by omega)
    exact ⟨(nI (j + 1), hp V), by simp only [Mod_back_b39, if_neg hcn, c274_15, c274_5, Option.bind_some, q1, v1, nI_1], V, rfl, hW.step (show 0 + j < 1427 by omega) v2 v3 v4 v5⟩) (by
    rintro s ⟨W, rfl, hW⟩
    exact ⟨(nI 1427, hp W), by simp only [Mod_back_b39, if_pos (show (1427 : Int32) ≤ nI 1427 by decide)], W, rfl, hW⟩)
  obtain ⟨q, i2, w2, rfl, hB⟩ := iter_I (body := Mod_back_b68 274 (nI k) (nI (1431 * k))) (fun j s => ∃ W, s = (nI j, hp W) ∧ scI w1 W 276 285 0 (1431 * k + 1427) j) (fun r => ∃ W, r = (nI 4, hp W) ∧ scI w1 W 276 285 0 (1431 * k + 1427) 4) 4 (s0 := (0, hp w1)) (by omega) ⟨w1, rfl, scI.zero hA.1⟩ (by
    rintro j s hj ⟨W, rfl, hW⟩
    left
    have hcn : ¬ (4 : Int32) ≤ nI j := nI_ge (b := 4) hj (by omega)
    have q1 : ald 0 (hp W) 285 (nI (1431 * k) + 1427 + nI j) = some ((w1.1 285).getD (1431 * k + 1427 + j) 0) := by rw [ald_w (j := 1431 * k + 1427 + j) s285 (by rw [show (1427 : Int32) = nI 1427 from rfl, nI_add, nI_add]) (by rw [l285 hW.1]; omega) (by omega), (hW.2.1 285 (by omega)).1]
    obtain ⟨V, v1, v2, v3, v4, v5⟩ := st_at (i := nI j) (x := (w1.1 285).getD (1431 * k + 1427 + j) 0) (j := 0 + j) hW.1 s276 (by rw [Nat.zero_add]) (show 0 + j < 4 by omega) (by omega)
    exact ⟨(nI (j + 1), hp V), by simp only [Mod_back_b68, if_neg hcn, c274_15, c274_2, Option.bind_some, q1, v1, nI_1], V, rfl, hW.step (show 0 + j < 4 by omega) v2 v3 v4 v5⟩) (by
    rintro s ⟨W, rfl, hW⟩
    exact ⟨(nI 4, hp W), by simp only [Mod_back_b68, if_pos (show (4 : Int32) ≤ nI 4 by decide)], W, rfl, hW⟩)
  obtain ⟨w3, a3, b3, c3, d3, d3', e3⟩ := pf_eq (x := 0) hB.1 p274_13
  have f3 : ∀ i, i ≠ 279 → i ≠ 276 → w3.1 i = w.1 i := fun i i1 i2 => by
    rw [c3, (hB.2.1 i (by omega)).1, (hA.2.1 i (by omega)).1]
  have g3 : ∀ j, j ≠ 13 → w3.2 274 j = w.2 274 j := fun j hj => by
    rw [d3' j hj, hB.2.2.1, hA.2.2.1]
  have r279 : w3.1 279 = slc (w.1 285) (1431 * k) 1427 := by
    symm
    refine slc_full (l279 b3) (fun q hq => ?_)
    rw [c3, (hB.2.1 279 (by omega)).1, hA.2.2.2 q, if_pos (by omega), Nat.sub_zero]
  have r276 : w3.1 276 = slc (w.1 285) (1431 * k + 1427) 4 := by
    symm
    refine slc_full (l276 b3) (fun q hq => ?_)
    rw [c3, hB.2.2.2 q, if_pos (by omega), Nat.sub_zero, (hA.2.1 285 (by omega)).1]
  have hI : refI w3 s.1 s.2 x [] im rf ss tp ft := by
    refine ⟨b3, by rw [r279]; exact m4, by rw [r276]; exact m5, by rw [f3 277 (by omega) (by omega), f3 278 (by omega) (by omega)]; exact h3, ⟨d3, by rw [g3 14 (by omega)]; exact h5, fun t s' ht => by simp at ht⟩, ?_, ?_, ?_⟩
    · unfold refM at h7 ⊢
      rw [f3 286 (by omega) (by omega), f3 285 (by omega) (by omega)]; exact h7
    · unfold refR at h8 ⊢
      rw [f3 275 (by omega) (by omega), g3 0 (by omega)]; exact h8
    · unfold refT at h9 ⊢
      rw [f3 282 (by omega) (by omega), g3 9 (by omega), g3 10 (by omega)]; exact h9
  obtain ⟨w4, a4, b4, e4⟩ := ref_accept hI 0
  have f3' : ∀ i, (i < 274 ∨ 292 ≤ i) → w3.2 i = w.2 i := fun i hi => by
    rw [(e3 i (by omega)).2, hB.2.2.1, hA.2.2.1]
  refine ⟨w4, ?_, b4, fun i hi => ⟨((e4 i (by omega)).1).trans (f3 i (by omega) (by omega)), ((e4 i (by omega)).2).trans (f3' i hi)⟩⟩
  have hin : isInP (nI k) 0 1 = true := by
    rw [isIn_iff, ti_0, show (1 : Int32).toInt = 1 from rfl, nI_toInt (by omega)]; omega
  have l1 : ald 1 (hp w) 286 (nI k) = some 1 := by
    rw [ald_w (j := k) s286 rfl (by rw [l286 h0]; exact hk) (by omega), m2]; rfl
  unfold Mod_back
  rw [Mod_isIn_w, bnd2_some, b2i_t hin, if_pos (by decide), c274_16, Option.bind_some, l1, Option.bind_some, if_pos (by decide), eb, i1, Option.bind_some]
  unfold Mod_back_j66
  rw [i2, Option.bind_some]
  unfold Mod_back_j97
  rw [a3, Option.bind_some, k274, Option.bind_some, a4, bnd2_some]
theorem call_back (h : lawJ w st tm x hi im rf ss tp ft) (a : Int32) : callOk w (Sp_back 0 a) (Mod_back 274 a) := by
  have t1 : (1 : Int32).toInt = 1 := rfl
  have t2 : (2 : Int32).toInt = 2 := rfl
  by_cases ha : isInP a 0 1 = true
  · have ha' := isIn_iff.mp ha
    rw [ti_0, t1] at ha'
    obtain ⟨k, hk, rfl, hk2⟩ := i32_nat (i := a) (by omega)
    have hk3 : k < 2 := by omega
    cases hs : im k with
    | some s =>
      refine law_step (y := 0) h (cls_back h.2.1 hk3 hs) (fun w1 hr => ref_back hr hk3 hs) ?_
      obtain ⟨v1, v2, v3, v4, v5, v6⟩ := h.1
      have := v6 k s hk3 hs
      exact ⟨this.1, this.2, v3, by show 0 ≤ 12; omega, fun s' hs' => absurd hs' (List.not_mem_nil), v6⟩
    | none =>
      refine law_refuse (m := 1) (b := -2) h (by omega) (by decide) ?_ (fun w1 hr => ?_)
      · have m2 := (h.2.1.2.2.2.2.1 k hk3).2.1
        rw [hs] at m2
        have l1 : ald 1 (hp w) 234 (nI k) = some 0 := by
          rw [ald_w (j := k) s234 rfl (by rw [l234 h.2.1.1]; exact hk3) (by omega), m2]; rfl
        have c1' : ¬ nI k < 0 := nI_pos (by omega)
        have c2' : nI k < 2 := nI_lt (b := 2) hk3 (by omega)
        unfold Sp_back
        rw [if_neg c1', if_pos c2', c0_8, Option.bind_some, l1, Option.bind_some, if_neg (fun hh => hh rfl), k0, Option.bind_some]
      · have m2 := (hr.2.2.2.2.2.1 k hk3).1
        rw [hs] at m2
        have l1 : ald 1 (hp w1) 286 (nI k) = some 0 := by
          rw [ald_w (j := k) s286 rfl (by rw [l286 hr.1]; exact hk3) (by omega), m2]; rfl
        unfold Mod_back
        rw [Mod_isIn_w, bnd2_some, b2i_t ha, if_pos (by decide), c274_16, Option.bind_some, l1, Option.bind_some, if_neg (fun hh => hh rfl), k274, Option.bind_some]
  · refine law_refuse (m := 0) (b := -1) h (by omega) (by decide) ?_ (fun w1 hr => ?_)
    · have j9 : Sp_back_j9 0 a (hp w) = bnd2 (Sp_refuse 0 (-1) (hp w)) (fun x h => some (x, h)) := by
        unfold Sp_back_j9
        rw [k0, Option.bind_some]
      rw [isIn_iff, ti_0, t1] at ha
      unfold Sp_back
      by_cases h1 : a < 0
      · rw [if_pos h1, j9]
      · rw [if_neg h1]
        rw [ti_lt, ti_0] at h1
        rw [if_neg (by rw [ti_lt, t2]; omega), j9]
    · unfold Mod_back
      rw [Mod_isIn_w, bnd2_some, b2i_f ha, if_neg (fun hh => hh rfl), k274, Option.bind_some]
end Rd
