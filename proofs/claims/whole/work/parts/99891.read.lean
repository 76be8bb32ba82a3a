/-! read, the call -/
section Rd
variable {w : Wd} {st st' : ST} {tm : List Int32} {x : Nat} {hi : List (ST × Int32)} {im : Nat → Option (ST × List Int32)} {rf : Nat → Int32} {ss : Int32} {tp tp' : List Int32} {ft ft' : Int32}
theorem clsI_tp {w' : Wd} (h : clsI w st tm x hi im rf ss tp ft) (hw' : WL w') (hF : Fr w w' 40 49) (hT : clsT w' tp' ft') : clsI w' st tm x hi im rf ss tp' ft' := by
  obtain ⟨h0, ⟨h1, h2, h3, h4, h5⟩, h6, h7, h8, h9, h10⟩ := h
  have f : ∀ i, (i < 40 ∨ 49 ≤ i) → w'.1 i = w.1 i ∧ w'.2 i = w.2 i := hF
  have hs := st_same (w := w) (w' := w') (b := 1) (fun i _ h2 => f i (by omega))
  refine ⟨hw', ⟨hs.2 h1, by rw [hs.1]; exact h2, bkOk_fr h3 (f 22 (by omega)).1 (f 23 (by omega)).1 (f 32 (by omega)).1, ?_, by rw [(f 235 (by omega)).2]; exact h5⟩, by rw [(f 16 (by omega)).1]; exact h6, clsH_fr h7 (fun i _ h => f i (by omega)), clsM_fr h8 (fun i h => f i (by omega)), ?_, hT⟩
  · rw [(f 33 (by omega)).2]
    rcases h4 with h | ⟨h, h'⟩
    · exact Or.inl h
    · exact Or.inr ⟨h, bdA_fr h' (f 34 (by omega)).1 (f 35 (by omega)).1⟩
  · unfold clsR at h9 ⊢
    rw [(f 243 (by omega)).1, (f 0 (by omega)).2]; exact h9
theorem refI_rd {V : Wd} (h : refI w st tm x hi im rf ss tp ft) (hV : WL V) (hA : ∀ i, i ≠ 279 → i ≠ 280 → V.1 i = w.1 i) (hB : ∀ k, k = 0 ∨ k = 13 ∨ k = 14 → V.2 274 k = w.2 274 k) (h9 : V.2 274 9 = 0) (h10 : V.2 274 10 = ft') (hrow : rowX (V.1 279) st') : refI V st' tm x hi im rf ss [] ft' := by
  obtain ⟨h0, h1, h2, h3, h4, h5, h6, h7⟩ := h
  refine ⟨hV, hrow, by rw [hA 276 (by omega) (by omega)]; exact h2, by rw [hA 277 (by omega) (by omega), hA 278 (by omega) (by omega)]; exact h3, ?_, ?_, ?_, h9, fun k hk => absurd hk (by simp), h10⟩
  · unfold refH at h4 ⊢
    rw [hB 13 (by omega), hB 14 (by omega), hA 283 (by omega) (by omega), hA 284 (by omega) (by omega)]
    exact h4
  · unfold refM at h5 ⊢
    rw [hA 285 (by omega) (by omega), hA 286 (by omega) (by omega)]
    exact h5
  · unfold refR at h6 ⊢
    rw [hB 0 (by omega), hA 275 (by omega) (by omega)]
    exact h6
theorem cls_after0 (h : clsI w st tm x hi im rf ss tp ft) {V : Wd} {g' : PD} (hV : WL V) (hg' : wfP g') (hp' : pdW V 2 = g') (hk : bkOk V g') (h90 : V.2 9 0 = nI 40) (h91 : V.2 9 1 = 0) (hF : ∀ i, (i < 2 ∨ 10 ≤ i) → (i < 20 ∨ 33 ≤ i) → V.1 i = w.1 i ∧ V.2 i = w.2 i) : ∃ W, Sp_afterChange 0 (hp V) = some ((), hp W) ∧ clsI W (g', [], sr0) tm x hi im rf ss tp ft ∧ Fr w W 0 274 := by
  obtain ⟨w1, a1, b1, c1, e1⟩ := Srch_reset_w (a := 15) isSt_1.2.2.2 hV
  have p1 : pdW w1 2 = g' := by rw [← hp']; exact pd_fr e1 (by omega)
  have n1 : cN w1 9 = 0 := by unfold cN; rw [(e1 9 (by omega)).2, h91]; rfl
  have z1 : cSz w1 9 40 := ⟨by rw [n1, (e1 9 (by omega)).2, h91]; rfl, by rw [n1]; omega⟩
  have cs1 : cutsW w1 9 = [] := by
    unfold cutsW
    rw [n1]
    rfl
  obtain ⟨w2, a2, b2, c2, d2, d2', e2⟩ := Cuts_keepHolding_w isCt_9 isPg_2 (by omega) b1 (by rw [p1]; exact hg') z1
  rw [p1, cs1] at c2
  obtain ⟨w3, a3, b3, c3, d3, d3', e3⟩ := pf_at (x := 1) (a := 33) (ci := 1) (fs := [none, some 34, some 35]) (k := 0) b2 (by decide +kernel) rfl
  have f3 : ∀ i, (i < 2 ∨ 16 ≤ i) → (i < 20 ∨ 34 ≤ i) → w3.1 i = w.1 i ∧ w3.2 i = w.2 i := by
    intro i h1 h2
    have g3 := e3 i (by omega)
    have g2 := e2 i (by omega)
    have g1 := e1 i (by omega)
    have g0 := hF i (by omega) (by omega)
    exact ⟨g3.1.trans (g2.1.trans (g1.1.trans g0.1)), g3.2.trans (g2.2.trans (g1.2.trans g0.2))⟩
  have p3 : pdW w3 2 = g' := by rw [← p1, ← pd_fr e2 (b := 2) (by omega)]; exact pd_fr e3 (by omega)
  obtain ⟨h0, ⟨h1, h2, h3, h4, h5⟩, h6, h7, h8, h9, h10⟩ := h
  refine ⟨w3, ?_, ⟨b3, ⟨⟨?_, ?_⟩, ?_, ?_, .inl d3, by rw [(f3 235 (by omega) (by omega)).2]; exact h5⟩, by rw [(f3 16 (by omega) (by omega)).1]; exact h6, clsH_fr h7 (fun i a b => f3 i (by omega) (by omega)), clsM_fr h8 (fun i h => f3 i (by omega) (by omega)), ?_, ?_⟩, fun i hi => f3 i (by omega) (by omega)⟩
  · unfold Sp_afterChange
    rw [c0_0, Option.bind_some, c1_2, Option.bind_some, k15, Option.bind_some, a1, bnd2_some, c0_0, Option.bind_some, c1_1, Option.bind_some, Option.bind_some, c1_0, Option.bind_some, k9, Option.bind_some, a2, bnd2_some, c0_2, Option.bind_some, c17_1, Option.bind_some, bz1, Option.bind_some, a3, Option.bind_some]
  · show w3.2 9 0 = nI 40
    rw [(e3 9 (by omega)).2, d2', (e1 9 (by omega)).2]
    exact h90
  · show cSz w3 9 40
    exact cSz_fr e3 (by omega) d2
  · show (pdW w3 2, cutsW w3 9, srW w3 15) = _
    rw [p3, cuts_fr e3 (by omega), c2, sr_fr e3 (by omega), sr_fr e2 (by omega), c1]
    rfl
  · show bkOk w3 g'
    refine bkOk_fr hk ?_ ?_ ?_
    · rw [(e3 22 (by omega)).1, (e2 22 (by omega)).1, (e1 22 (by omega)).1]
    · rw [(e3 23 (by omega)).1, (e2 23 (by omega)).1, (e1 23 (by omega)).1]
    · rw [(e3 32 (by omega)).1, (e2 32 (by omega)).1, (e1 32 (by omega)).1]
  · unfold clsR at h9 ⊢
    rw [(f3 243 (by omega) (by omega)).1, (f3 0 (by omega) (by omega)).2]; exact h9
  · unfold clsT at h10 ⊢
    rw [(f3 41 (by omega) (by omega)).1, (f3 40 (by omega) (by omega)).2]; exact h10
theorem pgLen_2 : pgLen 2 := isSt_1.2.1.2
theorem cls_read (h : clsI w st tm x hi im rf ss tp ft) : match (parP tp 400 0 pd0 (gn spB tp 0)).2 with
    | none => ∃ w', Sp_read 0 (hp w) = some (-6, hp w') ∧ clsI w' st tm x hi im (updR rf 5) (-6) [] (nI (parP tp 400 0 pd0 (gn spB tp 0)).1) ∧ Fr w w' 0 274
    | some r => wfP r.2 ∧ ∃ w', Sp_read 0 (hp w) = some (nI r.1, hp w') ∧ clsI w' (r.2, [], sr0) tm (nxt x) (push (st, 0) hi) im rf 0 [] (-1) ∧ Fr w w' 0 274 := by
  have hT := h.2.2.2.2.2.2
  obtain ⟨w1, y, a1, b1, f1, r1⟩ := parse_C (tp := tp) h.1 ⟨hT.1, hT.2.1, hT.2.2.1⟩
  obtain ⟨w2, a2, b2, c2, d2, d2', e2⟩ := pf_eq (x := 0) b1 p40_1
  have F2 : Fr w w2 40 49 := f1.tr (e2.mono (by omega) (by omega))
  have pre : Sp_read 0 (hp w) = (if ¬ y = (-1) then (gfR (hp w2) 0 10 5).bind fun a7 => (gfR (hp w2) 0 10 0).bind fun a8 => (chk (hp w2) a7 5).bind fun _ => bnd2 (Hist_keep a7 a8 0 (hp w2)) fun _ h9 => (gfR h9 0 10 0).bind fun a10 => (gfR h9 a10 8 0).bind fun a11 => (gfR h9 0 10 4).bind fun a12 => (chk h9 a11 6).bind fun _ => bnd2 (Prog_copyFrom a11 a12 h9) fun _ h13 => (gfR h13 0 10 0).bind fun a14 => (gfR h13 a14 8 1).bind fun a15 => (pfV h13 a15 2 1 (.int 0)).bind fun h16 => (gfR h16 0 10 2).bind fun a17 => (gfR h16 a17 3 0).bind fun a18 => (chk h16 a18 0).bind fun _ => bnd2 (Book_forgetAll a18 h16) fun _ h19 => (chk h19 0 10).bind fun _ => bnd2 (Sp_afterChange 0 h19) fun _ h20 => (chk h20 0 10).bind fun _ => bnd2 (Sp_accept 0 y h20) fun x22 h21 => some (x22, h21) else (chk (hp w2) 0 10).bind fun _ => bnd2 (Sp_refuse 0 (-6) (hp w2)) fun x24 h23 => some (x24, h23)) := by
    unfold Sp_read
    rw [c0_3, Option.bind_some, c0_4, Option.bind_some, k40, Option.bind_some, a1, bnd2_some, c0_3, Option.bind_some, a2, Option.bind_some]
  unfold parC at r1
  cases eR : (parP tp 400 0 pd0 (gn spB tp 0)).2 with
  | none =>
    rw [eR] at r1
    obtain ⟨rfl, r2⟩ := r1
    have hI : clsI w2 st tm x hi im rf ss [] (nI (parP tp 400 0 pd0 (gn spB tp 0)).1) := clsI_tp h b2 F2 ⟨d2, by show 0 ≤ 400; omega, fun k hk => absurd hk (by simp), by rw [d2' 2 (by omega)]; exact r2⟩
    obtain ⟨w3, a3, b3, e3⟩ := cls_refuse hI (m := 5) (by omega) (b := -6) (by decide)
    refine ⟨w3, ?_, b3, (F2.mono (by omega) (by omega)).tr e3⟩
    rw [pre, if_neg (fun hh => hh rfl), k0, Option.bind_some, a3, bnd2_some]
  | some r =>
    rw [eR] at r1
    obtain ⟨rfl, r2, r3, r4, r5⟩ := r1
    refine ⟨r4, ?_⟩
    have hI : clsI w2 st tm x hi im rf ss [] (-1) := clsI_tp h b2 F2 ⟨d2, by show 0 ≤ 400; omega, fun k hk => absurd hk (by simp), by rw [d2' 2 (by omega)]; exact r2⟩
    have p2 : pdW w2 42 = r.2 := by rw [← r3]; exact pd_fr e2 (by omega)
    obtain ⟨w3, a3, b3, e3⟩ := cls_keep hI 0
    have p3 : pdW w3 42 = r.2 := by rw [← p2]; exact pd_fr e3 (by omega)
    obtain ⟨w4, a4, p4, e4, s4⟩ := Prog_copyFrom_w (w := w3) isPg_2 isPg_42 (by omega) (pgLen_2.w b3.1) (pgLen_42.w b3.1)
    rw [p3] at p4
    have b4 := s4.wl b3.1
    obtain ⟨w5, a5, b5, c5, d5, d5', e5⟩ := pf_eq (x := 0) b4 p9_1
    obtain ⟨w6, a6, b6, e6, k6⟩ := Book_forgetAll_w (g := r.2) b5
    have p6 : pdW w6 2 = r.2 := by rw [← p4, ← pd_fr e5 (b := 2) (by omega)]; exact pd_fr e6 (by omega)
    obtain ⟨w7, a7, b7, e7⟩ := cls_after0 b3 b6 r4 p6 k6 (by
      rw [(e6 9 (by omega)).2, d5' 0 (by omega), (e4 9 (by omega)).2]
      exact b3.2.1.1.1) (by rw [(e6 9 (by omega)).2, d5]) (fun i h1 h2 => by
      have q6 := e6 i (by omega)
      have q5 := e5 i (by omega)
      have q4 := e4 i (by omega)
      exact ⟨q6.1.trans (q5.1.trans q4.1), q6.2.trans (q5.2.trans q4.2)⟩)
    obtain ⟨w8, a8, b8, e8⟩ := cls_accept b7 (nI r.1)
    refine ⟨w8, ?_, b8, (((F2.mono (by omega) (by omega)).tr (e3.mono (by omega) (by omega))).tr e7).tr e8⟩
    rw [pre, if_pos (ne_m1 (by omega)), c0_5, Option.bind_some, c0_0, Option.bind_some, k49, Option.bind_some, a3, bnd2_some, c0_0, Option.bind_some, c1_0, Option.bind_some, c0_4, Option.bind_some, k2, Option.bind_some, a4, bnd2_some, c0_0, Option.bind_some, c1_1, Option.bind_some, a5, Option.bind_some, c0_2, Option.bind_some, c17_0, Option.bind_some, k18, Option.bind_some, a6, bnd2_some, k0, Option.bind_some, a7, bnd2_some, k0, Option.bind_some, a8, bnd2_some]
theorem ref_read (h : refI w st tm x hi im rf ss tp ft) (hb : byOk tp) (hx : x < 12) (hh : hi.length ≤ 12) : match (parP tp 400 0 pd0 (gn spB tp 0)).2 with
    | none => ∃ w', Mod_read 274 (hp w) = some (-6, hp w') ∧ refI w' st tm x hi im (updR rf 5) (-6) [] (nI (parP tp 400 0 pd0 (gn spB tp 0)).1) ∧ Fr w w' 274 292
    | some r => ∃ w', Mod_read 274 (hp w) = some (nI r.1, hp w') ∧ refI w' (r.2, [], sr0) tm (nxt x) (push (st, 0) hi) im rf 0 [] (-1) ∧ Fr w w' 274 292 := by
  have hT := h.2.2.2.2.2.2.2
  obtain ⟨v1, a1, b1, c1, d1, d1', e1⟩ := pf_eq (x := nI tp.length) h.1 p274_17
  obtain ⟨v2, a2, b2, c2, d2, d2', e2⟩ := pf_eq (x := 0) b1 p274_9
  obtain ⟨v3, a3, b3, c3, d3, d3', e3⟩ := pf_eq (x := 0) b2 p274_19
  obtain ⟨v4, a4, b4, c4, d4, d4', e4⟩ := pf_eq (x := 0) b3 p274_20
  obtain ⟨v5, a5, b5, c5, d5, d5', e5⟩ := pf_eq (x := -1) b4 p274_10
  obtain ⟨v6, a6, b6, c6, k6, e6⟩ := Mod_keepsAhead_w b5
  obtain ⟨v7, a7, b7, r7, k7, e7⟩ := Mod_empties_w b6
  have A5 : v5.1 = w.1 := by rw [c5, c4, c3, c2, c1]
  have A7 : ∀ i, i ≠ 279 → i ≠ 280 → v7.1 i = w.1 i := fun i i1 i2 => by rw [(e7 i (by omega)).1, (e6 i (by omega)).1, A5]
  have B7 : ∀ k, v7.2 274 k = v5.2 274 k := fun k => by rw [k7, k6]
  have B7' : ∀ k, k ≠ 17 → k ≠ 9 → k ≠ 19 → k ≠ 20 → k ≠ 10 → v7.2 274 k = w.2 274 k := fun k k1 k2 k3 k4 k5 => by rw [B7, d5' k k5, d4' k k4, d3' k k3, d2' k k2, d1' k k1]
  have g17 : v7.2 274 17 = nI tp.length := by rw [B7, d5' 17 (by omega), d4' 17 (by omega), d3' 17 (by omega), d2' 17 (by omega), d1]
  have g9 : v7.2 274 9 = 0 := by rw [B7, d5' 9 (by omega), d4' 9 (by omega), d3' 9 (by omega), d2]
  have g19 : v7.2 274 19 = nI 0 := by rw [B7, d5' 19 (by omega), d4' 19 (by omega), d3]; rfl
  have g20 : v7.2 274 20 = 0 := by rw [B7, d5' 20 (by omega), d4]
  have g10 : v7.2 274 10 = -1 := by rw [B7, d5]
  have g280 : v7.1 280 = w.1 279 := by rw [(e7 280 (by omega)).1, c6, A5]
  have C7 : ∀ i, i ≠ 274 → v7.2 i = w.2 i := fun i hi => by rw [k7, k6, (e5 i (by omega)).2, (e4 i (by omega)).2, (e3 i (by omega)).2, (e2 i (by omega)).2, (e1 i (by omega)).2]
  have hp7 : preR v7 tp pd0 0 := ⟨b7, ⟨g17, hb, fun k hk => by rw [A7 282 (by omega) (by omega)]; exact hT.2.1 k hk⟩, by omega, g19, g20, g10, r7⟩
  obtain ⟨l, W, i1, fW, dW⟩ := read_R hp7
  obtain ⟨V, j1, fV, dV⟩ := done_R dW
  have F : frL v7 V := fW.tr fV
  have AV : ∀ i, i ≠ 279 → i ≠ 280 → V.1 i = w.1 i := fun i i1 i2 => by rw [F.1 i i1, A7 i i1 i2]
  have BV : ∀ k, k = 0 ∨ k = 13 ∨ k = 14 → V.2 274 k = w.2 274 k := fun k hk => by rw [F.2.1 k (by omega) (by omega) (by omega) (by omega), B7' k (by omega) (by omega) (by omega) (by omega) (by omega)]
  have V9 : V.2 274 9 = 0 := by rw [F.2.1 9 (by omega) (by omega) (by omega) (by omega), g9]
  have V280 : V.1 280 = w.1 279 := by rw [F.1 280 (by omega), g280]
  have FV : Fr w V 274 292 := fun i hi => ⟨AV i (by omega) (by omega), by rw [F.2.2 i (by omega) (by omega), C7 i (by omega)]⟩
  have pre : Mod_read 274 (hp w) = Mod_read_j118 274 l 0 (hp V) := by
    unfold Mod_read
    rw [c274_9, Option.bind_some, hT.1, a1, Option.bind_some, a2, Option.bind_some, a3, Option.bind_some, bz0, Option.bind_some, a4, Option.bind_some, a5, Option.bind_some, k274, Option.bind_some, a6, bnd2_some, k274, Option.bind_some, a7, bnd2_some, i1, Option.bind_some]
    dsimp only
    rw [j1]
  cases eR : (parP tp 400 0 pd0 (gn spB tp 0)).2 with
  | none =>
    rcases dV with ⟨hd, _⟩ | ⟨l', g', rfl, hl, h2, hn⟩
    · obtain ⟨q, i2, U, rfl, hU⟩ := iter_I (body := Mod_read_b127 274 l 0) (fun j s => ∃ U, s = (nI j, hp U) ∧ scI V U 279 280 0 0 j) (fun r => ∃ U, r = (nI 1427, hp U) ∧ scI V U 279 280 0 0 1427) 1427 (s0 := (0, hp V)) (by omega) ⟨V, rfl, scI.zero hd.1⟩ (by
        rintro j s hj ⟨U, rfl, hU⟩
        left
        have hcn : ¬ (1427 : Int32) ≤ nI j := nI_ge (b := 1427) hj (by omega)
        have q1 : ald 0 (hp U) 280 (nI j) = some ((V.1 280).getD (0 + j) 0) := by rw [ald_w (j := j) s280 rfl (by rw [l280 hU.1]; exact hj) (by omega), (hU.2.1 280 (by omega)).1, Nat.zero_add]
        obtain ⟨T, v1, v2, v3, v4, v5⟩ := st_at (i := nI j) (x := (V.1 280).getD (0 + j) 0) (j := 0 + j) hU.1 s279 (by rw [Nat.zero_add]) (show 0 + j < 1427 by omega) (by omega)
        exact ⟨(nI (j + 1), hp T), by simp only [Mod_read_b127, if_neg hcn, c274_5, c274_6, Option.bind_some, q1, v1, nI_1], T, rfl, hU.step (show 0 + j < 1427 by omega) v2 v3 v4 v5⟩) (by
        rintro s ⟨U, rfl, hU⟩
        exact ⟨(nI 1427, hp U), by simp only [Mod_read_b127, if_pos (show (1427 : Int32) ≤ nI 1427 by decide)], U, rfl, hU⟩)
      have r279 : U.1 279 = w.1 279 := by
        rw [← V280]
        apply ext_gD
        · rw [l279 hU.1, l280 hd.1]
        · intro k hk
          rw [l280 hd.1] at hk
          rw [hU.2.2.2 k, if_pos (by omega), Nat.sub_zero, Nat.zero_add]
      have hI : refI U st tm x hi im rf ss [] (nI (parP tp 400 0 pd0 (gn spB tp 0)).1) := refI_rd h hU.1 (fun i i1 i2 => by rw [(hU.2.1 i (by omega)).1, AV i i1 i2]) (fun k hk => by rw [hU.2.2.1, BV k hk]) (by rw [hU.2.2.1, V9]) (by rw [hU.2.2.1]; exact hd.2.2.2.2) (by rw [r279]; exact h.2.1)
      obtain ⟨w3, a3, b3, e3⟩ := ref_refuse hI (m := 5) (by omega) (b := -6) (by decide)
      refine ⟨w3, ?_, b3, (FV.tr (hU.2.1.mono (by omega) (by omega))).tr e3⟩
      rw [pre]
      unfold Mod_read_j118
      rw [c274_20, Option.bind_some, hd.2.2.2.1, if_neg (by decide), i2, Option.bind_some]
      unfold Mod_read_j152
      rw [k274, Option.bind_some, a3, bnd2_some]
    · rw [eR] at hn
      exact absurd hn (by simp)
  | some r =>
    rcases dV with ⟨_, hn⟩ | ⟨l', g', rfl, hl, h2, hn⟩
    · rw [eR] at hn
      exact absurd hn (by simp)
    · rw [eR] at hn
      have er := Option.some.inj hn
      subst er
      have hI : refI V (g', [], sr0) tm x hi im rf ss [] (-1) := refI_rd h hl.1 AV BV V9 hl.2.2.2.2.1 hl.2.2.2.2.2
      obtain ⟨w4, q1, q2, q3⟩ := ref_keeps hI hx hh (old := st) (by rw [V280]; exact h.2.1) 0
      obtain ⟨w5, t1, t2, t3⟩ := ref_accept q2 (nI l')
      refine ⟨w5, ?_, t2, (FV.tr q3).tr t3⟩
      rw [pre]
      unfold Mod_read_j118
      rw [c274_20, Option.bind_some, hl.2.2.2.1, if_pos rfl, k274, Option.bind_some, q1, bnd2_some, k274, Option.bind_some, t1, bnd2_some]
theorem call_read (h : lawJ w st tm x hi im rf ss tp ft) : callOk w (Sp_read 0) (Mod_read 274) := by
  have hT := h.2.1.2.2.2.2.2.2
  have hb : byOk tp := ⟨hT.2.1, fun k hk => ⟨(hT.2.2.1 k hk).1, (hT.2.2.1 k hk).2.1⟩⟩
  have hC := cls_read h.2.1
  have hR := fun w1 (hr : refI w1 st tm x hi im rf ss tp ft) => ref_read hr hb h.1.2.2.1 h.1.2.2.2.1
  cases eR : (parP tp 400 0 pd0 (gn spB tp 0)).2 with
  | none =>
    rw [eR] at hC
    refine law_step (y := -6) h hC (fun w1 hr => ?_) h.1
    have := hR w1 hr
    rw [eR] at this
    exact this
  | some r =>
    rw [eR] at hC
    refine law_step (y := nI r.1) h hC.2 (fun w1 hr => ?_) (vA_push (st' := (r.2, [], sr0)) h.1 ⟨hC.1, csOk_nil, srOk_0, by show ([] : List (List Int32)).length ≤ 40; simp⟩ 0 (by decide))
    have := hR w1 hr
    rw [eR] at this
    exact this
end Rd
