/-! calls that change: clear, terms -/
theorem tmV_set {tm : List Int32} {k : Nat} {v : Int32} (h : tmV tm) (hk : k < 4) (hv : (([0, 0, 0, 4] : List Int32).getD k 0).toInt ≤ v.toInt ∧ v.toInt ≤ (([1, 9, 1000, 40] : List Int32).getD k 0).toInt) : tmV (tm.set k v) := by
  obtain ⟨h0, h1, h2, h3, h4⟩ := h
  have : k = 0 ∨ k = 1 ∨ k = 2 ∨ k = 3 := by omega
  refine ⟨by rw [List.length_set]; exact h0, ?_, ?_, ?_, ?_⟩ <;> rw [gD_set, h0] <;> rcases this with rfl | rfl | rfl | rfl
  · rw [if_pos (by omega)]; exact hv
  · rw [if_neg (by omega)]; exact h1
  · rw [if_neg (by omega)]; exact h1
  · rw [if_neg (by omega)]; exact h1
  · rw [if_neg (by omega)]; exact h2
  · rw [if_pos (by omega)]; exact hv
  · rw [if_neg (by omega)]; exact h2
  · rw [if_neg (by omega)]; exact h2
  · rw [if_neg (by omega)]; exact h3
  · rw [if_neg (by omega)]; exact h3
  · rw [if_pos (by omega)]; exact hv
  · rw [if_neg (by omega)]; exact h3
  · rw [if_neg (by omega)]; exact h4
  · rw [if_neg (by omega)]; exact h4
  · rw [if_neg (by omega)]; exact h4
  · rw [if_pos (by omega)]; exact hv
section Rd
variable {w : Wd} {st : ST} {tm : List Int32} {x : Nat} {hi : List (ST × Int32)} {im : Nat → Option (ST × List Int32)} {rf : Nat → Int32} {ss : Int32} {tp : List Int32} {ft : Int32}
theorem clsI_tm (h : clsI w st tm x hi im rf ss tp ft) {w' : Wd} {tm' : List Int32} (hw' : WL w') (hF : Fr w w' 16 17) (ht : w'.1 16 = tm') : clsI w' st tm' x hi im rf ss tp ft := by
  obtain ⟨h0, ⟨h1, h2, h3, h4, h5⟩, h6, h7, h8, h9, h10⟩ := h
  have f : ∀ i, i ≠ 16 → w'.1 i = w.1 i ∧ w'.2 i = w.2 i := fun i hi => hF i (by omega)
  have hs := st_same (w := w) (w' := w') (b := 1) (fun i _ h2 => f i (by omega))
  refine ⟨hw', ⟨hs.2 h1, by rw [hs.1]; exact h2, bkOk_fr h3 (f 22 (by omega)).1 (f 23 (by omega)).1 (f 32 (by omega)).1, ?_, by rw [(f 235 (by omega)).2]; exact h5⟩, ht, clsH_fr h7 (fun i _ h => f i (by omega)), clsM_fr h8 (fun i h => f i (by omega)), ?_, ?_⟩
  · rw [(f 33 (by omega)).2]
    rcases h4 with h | ⟨h, h'⟩
    · exact Or.inl h
    · exact Or.inr ⟨h, bdA_fr h' (f 34 (by omega)).1 (f 35 (by omega)).1⟩
  · unfold clsR at h9 ⊢
    rw [(f 243 (by omega)).1, (f 0 (by omega)).2]; exact h9
  · unfold clsT at h10 ⊢
    rw [(f 41 (by omega)).1, (f 40 (by omega)).2]; exact h10
theorem refI_tm {w w' : Wd} {tm' : List Int32} (h : refI w st tm x hi im rf ss tp ft) (hw' : WL w') (hF : Fr w w' 276 277) (ht : w'.1 276 = tm') : refI w' st tm' x hi im rf ss tp ft := by
  obtain ⟨h0, h1, h2, h3, h4, h5, h6, h7⟩ := h
  have f : ∀ i, i ≠ 276 → w'.1 i = w.1 i ∧ w'.2 i = w.2 i := fun i hi => hF i (by omega)
  refine ⟨hw', by rw [(f 279 (by omega)).1]; exact h1, ht, by rw [(f 277 (by omega)).1, (f 278 (by omega)).1]; exact h3, ?_, ?_, ?_, ?_⟩
  · unfold refH at h4 ⊢
    rw [(f 283 (by omega)).1, (f 284 (by omega)).1, (f 274 (by omega)).2]
    exact h4
  · unfold refM at h5 ⊢
    rw [(f 285 (by omega)).1, (f 286 (by omega)).1]
    exact h5
  · unfold refR at h6 ⊢
    rw [(f 275 (by omega)).1, (f 274 (by omega)).2]
    exact h6
  · unfold refT at h7 ⊢
    rw [(f 282 (by omega)).1, (f 274 (by omega)).2]
    exact h7
theorem call_terms (h : lawJ w st tm x hi im rf ss tp ft) (a b : Int32) : callOk w (Sp_terms 0 a b) (Mod_terms 274 a b) := by
  have t3 : (3 : Int32).toInt = 3 := rfl
  have t4 : (4 : Int32).toInt = 4 := rfl
  have hin : isInP a 0 3 = true ↔ 0 ≤ a.toInt ∧ a.toInt ≤ 3 := by rw [isIn_iff, ti_0, t3]
  by_cases ha : 0 ≤ a.toInt ∧ a.toInt ≤ 3
  · obtain ⟨k, hk, rfl, hk2⟩ := i32_nat (i := a) (by omega)
    have hk4 : k < 4 := by omega
    have F0 : ald 0 (hp w) (FB + 0) (nI k) = some (([0, 0, 0, 4] : List Int32).getD k 0) := ald_F0 hk4
    have F1 : ald 0 (hp w) (FB + 1) (nI k) = some (([1, 9, 1000, 40] : List Int32).getD k 0) := ald_F1 hk4
    have pre : Sp_terms 0 (nI k) b (hp w) = if b < ([0, 0, 0, 4] : List Int32).getD k 0 then Sp_terms_j33 0 (nI k) b (hp w) else (if b ≤ ([1, 9, 1000, 40] : List Int32).getD k 0 then (gfR (hp w) 0 10 1).bind fun a7 => (ald 0 (hp w) a7 (nI k)).bind fun x8 => (gfR (hp w) 0 10 1).bind fun a9 => (ast 0 (hp w) a9 (nI k) b).bind fun h10 => (chk h10 0 10).bind fun _ => bnd2 (Sp_accept 0 x8 h10) fun x12 h11 => some (x12, h11) else Sp_terms_j33 0 (nI k) b (hp w)) := by
      unfold Sp_terms
      rw [if_neg (show ¬ nI k < 0 by rw [ti_lt, ti_0]; omega), if_pos (show nI k < 4 by rw [ti_lt, t4]; omega), F0, Option.bind_some, F1, Option.bind_some]
    have refp : ∀ w1, refI w1 st tm x hi im rf ss tp ft → Mod_terms 274 (nI k) b (hp w1) = if ¬ b2i (isInP b (([0, 0, 0, 4] : List Int32).getD k 0) (([1, 9, 1000, 40] : List Int32).getD k 0)) = 0 then (gfR (hp w1) 274 11 2).bind fun a11 => (ald 0 (hp w1) a11 (nI k)).bind fun x12 => (gfR (hp w1) 274 11 2).bind fun a13 => (ast 0 (hp w1) a13 (nI k) b).bind fun h14 => (chk h14 274 11).bind fun _ => bnd2 (Mod_tells 274 x12 h14) fun x16 h15 => some (x16, h15) else Mod_terms_j28 274 (nI k) b (hp w1) := by
      intro w1 hr
      have q0 : ald 0 (hp w1) 277 (nI k) = some (([0, 0, 0, 4] : List Int32).getD k 0) := by
        rw [ald_w (j := k) s277 rfl (by rw [l277 hr.1]; exact hk4) (by omega), hr.2.2.2.1.1]
      have q1 : ald 0 (hp w1) 278 (nI k) = some (([1, 9, 1000, 40] : List Int32).getD k 0) := by
        rw [ald_w (j := k) s278 rfl (by rw [l278 hr.1]; exact hk4) (by omega), hr.2.2.2.1.2]
      unfold Mod_terms
      rw [Mod_isIn_w, bnd2_some, b2i_t (hin.mpr (by omega)), if_neg (by decide), c274_3, Option.bind_some, q0, Option.bind_some, c274_4, Option.bind_some, q1, Option.bind_some, Mod_isIn_w, bnd2_some]
    by_cases hb : (([0, 0, 0, 4] : List Int32).getD k 0).toInt ≤ b.toInt ∧ b.toInt ≤ (([1, 9, 1000, 40] : List Int32).getD k 0).toInt
    · refine law_step (y := tm.getD k 0) (st' := st) (tm' := tm.set k b) (x' := x) (hi' := hi) (im' := im) (rf' := rf) (ss' := 0) (tp' := tp) (ft' := ft) h ?_ (fun w1 hr => ?_) ⟨h.1.1, tmV_set h.1.2.1 hk4 hb, h.1.2.2⟩
      · have l : ald 0 (hp w) 16 (nI k) = some (tm.getD k 0) := by rw [ald_w (j := k) s16 rfl (by rw [l16 h.2.1.1]; exact hk4) (by omega), h.2.1.2.2.1]
        obtain ⟨w1, a1, b1, c1, d1, e1⟩ := st_at (i := nI k) (x := b) (j := k) h.2.1.1 s16 rfl hk4 (by omega)
        obtain ⟨w2, a2, b2, e2⟩ := cls_accept (clsI_tm h.2.1 b1 e1 (by rw [c1, h.2.1.2.2.1])) (tm.getD k 0)
        refine ⟨w2, ?_, b2, (e1.mono (by omega) (by omega)).tr e2⟩
        rw [pre, if_neg (by rw [ti_lt]; omega), if_pos (by rw [ti_le]; omega), c0_1, Option.bind_some, l, Option.bind_some, Option.bind_some, a1, Option.bind_some, k0, Option.bind_some, a2, bnd2_some]
      · have l : ald 0 (hp w1) 276 (nI k) = some (tm.getD k 0) := by rw [ald_w (j := k) s276 rfl (by rw [l276 hr.1]; exact hk4) (by omega), hr.2.2.1]
        obtain ⟨w2, a1, b1, c1, d1, e1⟩ := st_at (i := nI k) (x := b) (j := k) hr.1 s276 rfl hk4 (by omega)
        obtain ⟨w3, a2, b2, e2⟩ := ref_accept (refI_tm hr b1 e1 (by rw [c1, hr.2.2.1])) (tm.getD k 0)
        refine ⟨w3, ?_, b2, (e1.mono (by omega) (by omega)).tr e2⟩
        rw [refp w1 hr, b2i_t (isIn_iff.mpr hb), if_pos (by decide), c274_2, Option.bind_some, l, Option.bind_some, Option.bind_some, a1, Option.bind_some, k274, Option.bind_some, a2, bnd2_some]
    · refine law_refuse (m := 0) (b := -1) h (by omega) (by decide) ?_ (fun w1 hr => ?_)
      · have j33 : Sp_terms_j33 0 (nI k) b (hp w) = bnd2 (Sp_refuse 0 (-1) (hp w)) (fun x h => some (x, h)) := by
          unfold Sp_terms_j33
          rw [k0, Option.bind_some]
        rw [pre]
        by_cases hb1 : b < ([0, 0, 0, 4] : List Int32).getD k 0
        · rw [if_pos hb1, j33]
        · rw [if_neg hb1]
          rw [ti_lt] at hb1
          rw [if_neg (by rw [ti_le]; omega), j33]
      · rw [refp w1 hr, b2i_f (fun hh => hb (isIn_iff.mp hh)), if_neg (fun hh => hh rfl)]
        unfold Mod_terms_j28
        rw [k274, Option.bind_some]
  · refine law_refuse (m := 0) (b := -1) h (by omega) (by decide) ?_ (fun w1 hr => ?_)
    · have j9 : Sp_terms_j9 0 a b (hp w) = bnd2 (Sp_refuse 0 (-1) (hp w)) (fun x h => some (x, h)) := by
        unfold Sp_terms_j9
        rw [k0, Option.bind_some]
      unfold Sp_terms
      by_cases h1 : a < 0
      · rw [if_pos h1, j9]
      · rw [if_neg h1]
        rw [ti_lt, ti_0] at h1
        rw [if_neg (by rw [ti_lt, t4]; omega), j9]
    · unfold Mod_terms
      rw [Mod_isIn_w, bnd2_some, b2i_f (fun hh => ha (hin.mp hh)), if_pos rfl]
      unfold Mod_terms_j28
      rw [k274, Option.bind_some]
theorem call_clear (h : lawJ w st tm x hi im rf ss tp ft) : callOk w (Sp_clear 0) (Mod_clear 274) := by
  obtain ⟨hg, hc, hs⟩ := J_pd h.2.1
  have hL := h.1.1.2.2.2
  refine law_step (y := nI st.2.1.length) (st' := (st.1, [], sr0)) (tm' := tm) (x' := nxt x) (hi' := push (st, 9) hi) (im' := im) (rf' := rf) (ss' := ss) (tp' := tp) (ft' := ft) h ?_ (fun w1 hr => ?_) (vA_push (st' := (st.1, [], sr0)) h.1 ⟨h.1.1.1, csOk_nil, srOk_0, by show ([] : List (List Int32)).length ≤ 40; simp⟩ 9 (by decide))
  · obtain ⟨w1, a1, b1, e1⟩ := cls_keep h.2.1 9
    obtain ⟨z1, N1, q1⟩ := J_n b1
    obtain ⟨w2, a2, b2, c2, d2, d2', e2⟩ := pf_eq (w := w1) (a := 9) (ci := 2) (k := 1) (x := 0) b1.1 p9_1
    obtain ⟨w3, a3, b3, c3, e3⟩ := Srch_reset_w (a := 15) isSt_1.2.2.2 b2
    obtain ⟨w4, a4, b4, c4, d4, d4', e4⟩ := pf_at (x := 1) (a := 33) (ci := 1) (fs := [none, some 34, some 35]) (k := 0) b3 (by decide +kernel) rfl
    have f4 : ∀ i, i ≠ 9 → i ≠ 15 → i ≠ 33 → w4.1 i = w1.1 i ∧ w4.2 i = w1.2 i := by
      intro i i1 i2 i3
      have g4 := e4 i (by omega)
      have g3 := e3 i (by omega)
      have g2 := e2 i (by omega)
      exact ⟨g4.1.trans (g3.1.trans g2.1), g4.2.trans (g3.2.trans g2.2)⟩
    obtain ⟨h0, ⟨h1, h2, h3, h4, h5⟩, h6, h7, h8, h9, h10⟩ := b1
    have q9 : w4.2 9 = w2.2 9 := ((e4 9 (by omega)).2).trans (e3 9 (by omega)).2
    have cn4 : cN w4 9 = 0 := by unfold cN; rw [q9, d2]; rfl
    have p4 : pdW w4 2 = st.1 := by
      have : pdW w1 2 = st.1 := by rw [← h2]; rfl
      rw [← this]
      unfold pdW
      rw [(f4 2 (by omega) (by omega) (by omega)).2, (f4 3 (by omega) (by omega) (by omega)).1, (f4 4 (by omega) (by omega) (by omega)).1, (f4 5 (by omega) (by omega) (by omega)).1, (f4 6 (by omega) (by omega) (by omega)).1, (f4 7 (by omega) (by omega) (by omega)).1, (f4 8 (by omega) (by omega) (by omega)).1]
    refine ⟨w4, ?_, ⟨b4, ⟨⟨?_, ?_⟩, ?_, bkOk_fr h3 (f4 22 (by omega) (by omega) (by omega)).1 (f4 23 (by omega) (by omega) (by omega)).1 (f4 32 (by omega) (by omega) (by omega)).1, .inl d4, by rw [(f4 235 (by omega) (by omega) (by omega)).2]; exact h5⟩, by rw [(f4 16 (by omega) (by omega) (by omega)).1]; exact h6, clsH_fr h7 (fun i a b => f4 i (by omega) (by omega) (by omega)), clsM_fr h8 (fun i h => f4 i (by omega) (by omega) (by omega)), ?_, ?_⟩, fun i hi => ?_⟩
    · unfold Sp_clear
      rw [c0_5, Option.bind_some, c0_0, Option.bind_some, k49, Option.bind_some, a1, bnd2_some, c0_0, Option.bind_some, c1_1, Option.bind_some, c9_1, Option.bind_some, q1, Option.bind_some, c1_1, Option.bind_some, a2, Option.bind_some, c0_0, Option.bind_some, c1_2, Option.bind_some, k15, Option.bind_some, a3, bnd2_some, c0_2, Option.bind_some, c17_1, Option.bind_some, bz1, Option.bind_some, a4, Option.bind_some]
    · show w4.2 9 0 = nI 40
      rw [q9, d2' 0 (by omega)]
      exact h1.1
    · show cSz w4 9 40
      exact ⟨by rw [cn4, q9, d2]; rfl, by rw [cn4]; omega⟩
    · show (pdW w4 2, cutsW w4 9, srW w4 15) = _
      rw [p4, sr_fr e4 (by omega), c3]
      unfold cutsW
      rw [cn4]
      rfl
    · unfold clsR at h9 ⊢
      rw [(f4 243 (by omega) (by omega) (by omega)).1, (f4 0 (by omega) (by omega) (by omega)).2]; exact h9
    · unfold clsT at h10 ⊢
      rw [(f4 41 (by omega) (by omega) (by omega)).1, (f4 40 (by omega) (by omega) (by omega)).2]; exact h10
    · have g4 := f4 i (by omega) (by omega) (by omega)
      have g1 := e1 i (by omega)
      exact ⟨g4.1.trans g1.1, g4.2.trans g1.2⟩
  · obtain ⟨w2, a2, b2, c2', k2', e2⟩ := Mod_keepsAhead_w hr.1
    have f2 : w2.1 279 = w1.1 279 := (e2 279 (by omega)).1
    have hI2 : refI w2 st tm x hi im rf ss tp ft := refI_M hr b2 ⟨fun i i1 i2 i3 i4 => e2 i (by omega), fun k _ _ _ _ _ _ _ => by rw [k2']⟩
    have l9 : ald 0 (hp w2) 279 9 = some (nI st.2.1.length) := by rw [ldN b2 (i := 9) (j := 9) rfl (by omega), hI2.2.1.2.2.2.1]
    obtain ⟨w3, a3, b3, c3, k3, e3⟩ := st_at (i := 9) (x := 0) (j := 9) b2 s279 rfl (by decide) (by omega)
    have r3 : rowIs (w3.1 279) st.1 [] st.2.2 := by rw [c3]; exact row_nil hI2.2.1 (l279 b2)
    obtain ⟨w4, a4, b4, c4, k4, e4⟩ := Mod_forgets_w b3 r3
    have hI4 : refI w4 (st.1, [], sr0) tm x hi im rf ss tp ft := refI_row hI2 b4 (e3.tr e4) c4
    obtain ⟨w5, a5, b5, e5⟩ := ref_keeps hI4 h.1.2.2.1 h.1.2.2.2.1 (old := st) (by rw [(e4 280 (by omega)).1, (e3 280 (by omega)).1, c2']; exact hr.2.1) 9
    refine ⟨w5, ?_, b5, ((e2.mono (by omega) (by omega)).tr ((e3.tr e4).mono (by omega) (by omega))).tr e5⟩
    unfold Mod_clear
    rw [k274, Option.bind_some, a2, bnd2_some, c274_5, Option.bind_some, l9, Option.bind_some, Option.bind_some, a3, Option.bind_some, k274, Option.bind_some, a4, bnd2_some, k274, Option.bind_some, a5, bnd2_some]
end Rd
