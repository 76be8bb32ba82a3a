/-! scene -/
theorem addCase_wf {g : PD} {v : Int32} (hg : wfP g) (h : pNc g < 4) (hv : rng 1 9 v) : wfP (pdAddCase g v) ∧ pNc (pdAddCase g v) = pNc g + 1 := by
  have e : (pdAddCase g v).2.2.1 = nI (pNc g + 1) := by
    show g.2.2.1 + 1 = _
    rw [hg.1.2.2.1, nI_1]
  have en : pNc (pdAddCase g v) = pNc g + 1 := by unfold pNc; rw [e, nI_clamp (by omega)]; rfl
  obtain ⟨⟨h1, h2, h3⟩, ⟨l1, l2, l3, l4, l5, l6⟩, h5, h6, h7, h8, h9, h10, h11, h12, h13⟩ := hg
  have eW : ∀ c, pWt (pdAddCase g v) c = if pNc g = c then v else pWt g c := by
    intro c
    show (g.2.2.2.2.2.2.2.1.set (pNc g) v).getD c 0 = _
    rw [gD_set, l5]
    by_cases hp' : pNc g = c
    · rw [if_pos ⟨hp', h⟩, if_pos hp']
    · rw [if_neg (fun hh => hp' hh.1), if_neg hp']; rfl
  refine ⟨⟨⟨h1, h2, ⟨by rw [en]; exact e, by omega⟩⟩, ⟨l1, l2, l3, l4, by show (g.2.2.2.2.2.2.2.1.set (pNc g) v).length = 4; rw [List.length_set]; exact l5, l6⟩, h5, h6, h7, h8, h9, fun c hc => ?_, fun c hc hc4 => ?_, h12, fun c s' hc hs' ho => h13 c s' hc hs' ?_⟩, en⟩
  · rw [en] at hc
    rw [eW]
    by_cases hp2 : pNc g = c
    · rw [if_pos hp2]; exact hv
    · rw [if_neg hp2]; exact h10 c (by omega)
  · rw [en] at hc
    rw [eW, if_neg (by omega)]
    exact h11 c (by omega) hc4
  · rcases ho with ho | ho
    · left; rw [en] at ho; omega
    · exact .inr ho
section Rd
variable {w : Wd} {st : ST} {tm : List Int32} {x : Nat} {hi : List (ST × Int32)} {im : Nat → Option (ST × List Int32)} {rf : Nat → Int32} {ss : Int32} {tp : List Int32} {ft : Int32}
theorem call_scene (h : lawJ w st tm x hi im rf ss tp ft) (v : Int32) : callOk w (Sp_scene 0 v) (Mod_scene 274 v) := by
  obtain ⟨hg, hc, hs⟩ := J_pd h.2.1
  obtain ⟨hgv, hkv, c0, c1, c2⟩ := J_wf h
  have hwf := h.1.1.1
  have n2 := hwf.1.2.2.2
  have t1 : (1 : Int32).toInt = 1 := rfl
  have t9 : (9 : Int32).toInt = 9 := rfl
  have jc : Sp_scene_j19 0 v 2 (hp w) = bnd2 (Sp_refuse 0 (-1) (hp w)) (fun x h => some (x, h)) := by
    unfold Sp_scene_j19
    rw [k0, Option.bind_some]
  have hin : isInP v 1 9 = true ↔ 1 ≤ v.toInt ∧ v.toInt ≤ 9 := by rw [isIn_iff, t1, t9]
  by_cases h1 : 1 ≤ v.toInt ∧ v.toInt ≤ 9
  · by_cases h4 : pNc st.1 < 4
    · obtain ⟨gw, gn⟩ := addCase_wf hwf h4 (v := v) h1
      have hnc : (pdAddCase st.1 v).2.2.1 = nI (pNc st.1 + 1) := by rw [← gn]; exact gw.1.2.2.1
      have es : nI (pNc st.1 + 1) - 1 = nI (pNc st.1) := nI_sb (b := 1) (by omega) (by omega)
      refine law_step (y := nI (pNc st.1)) (st' := stC (pdAddCase st.1 v) st.2.1) (tm' := tm) (x' := nxt x) (hi' := push (st, 4) hi) (im' := im) (rf' := rf) (ss' := 0) (tp' := tp) (ft' := ft) h ?_ (fun w1 hr => ?_) (vA_push h.1 (stC_V (g := st.1) gw (by omega) h.1.1.2.1 h.1.1.2.2.2) 4 (by decide))
      · obtain ⟨w1, a1, b1, e1⟩ := cls_keep h.2.1 4
        have g1 := (J_pd b1).1
        obtain ⟨w2, a2, b2, p2, e2⟩ := Prog_addCase_w (x := v) isPg_2 b1.1 (by rw [g1]; exact hwf) (by rw [g1]; exact h4)
        rw [g1] at p2
        obtain ⟨w3, a3, b3, e3, k3⟩ := Book_forgetAll_w (g := pdAddCase st.1 v) b2
        have p3 : pdW w3 2 = pdAddCase st.1 v := by rw [← p2]; exact pd_fr e3 (by omega)
        obtain ⟨w4, a4, b4, e4, p4⟩ := cls_after b1 b3 gw p3 k3 (fun i h1 h2 => ⟨((e3 i (by omega)).1).trans (e2 i (by omega)).1, ((e3 i (by omega)).2).trans (e2 i (by omega)).2⟩)
        obtain ⟨w5, a5, b5, e5⟩ := cls_accept b4 (nI (pNc st.1))
        have q4 : w4.2 2 2 = nI (pNc st.1 + 1) := by rw [← hnc, ← p4]; rfl
        refine ⟨w5, ?_, b5, ((e1.mono (by omega) (by omega)).tr e4).tr e5⟩
        unfold Sp_scene
        rw [c0_0, Option.bind_some, c1_0, Option.bind_some, if_neg (show ¬ v < 1 by rw [ti_lt, t1]; omega), if_pos (show v ≤ 9 by rw [ti_le, t9]; omega), c2_2, Option.bind_some, c2, if_pos (show nI (pNc st.1) < 4 from nI_lt (b := 4) h4 (by omega)), c0_5, Option.bind_some, Option.bind_some, k49, Option.bind_some, a1, bnd2_some, k2, Option.bind_some, a2, bnd2_some, c0_2, Option.bind_some, c17_0, Option.bind_some, k18, Option.bind_some, a3, bnd2_some, k0, Option.bind_some, a4, bnd2_some, c2_2, Option.bind_some, k0, Option.bind_some, q4, es, a5, bnd2_some]
      · obtain ⟨mg, mc, ms, mo⟩ := J_md hr h.1
        obtain ⟨d0, d1, d2⟩ := R_n hr h.1
        obtain ⟨w2, a2, b2, c2', k2', e2⟩ := Mod_keepsAhead_w hr.1
        have f2 : w2.1 279 = w1.1 279 := (e2 279 (by omega)).1
        have hI2 : refI w2 st tm x hi im rf ss tp ft := refI_M hr b2 ⟨fun i i1 i2 i3 i4 => e2 i (by omega), fun k _ _ _ _ _ _ _ => by rw [k2']⟩
        have l1 : ald 0 (hp w1) 279 2 = some (nI (pNc st.1)) := by rw [ldN hr.1 (i := 2) (j := 2) rfl (by omega), d2]
        have l2 : ald 0 (hp w2) 279 2 = some (nI (pNc st.1)) := by rw [ldN b2 (i := 2) (j := 2) rfl (by omega), f2, d2]
        obtain ⟨w3, a3, b3, c3, k3, e3⟩ := st_at (i := 47 + nI (pNc st.1)) (x := v) (j := 47 + pNc st.1) b2 s279 (nI_add 47 _) (show 47 + pNc st.1 < 1427 by omega) (by omega)
        have z : ∀ s, s < 6 → (w3.1 279).getD (51 + 6 * pNc st.1 + s) 0 = 0 := by
          intro s hs6
          rw [c3, gD_set, if_neg (by omega), f2, ← m_need h4 hs6, mg]
          exact hwf.2.2.2.2.2.2.2.2.2.2 (pNc st.1) s h4 hs6 (.inl (Nat.le_refl _))
        obtain ⟨q, i1, W, rfl, hW, hF, hWk⟩ := iter_I (body := Mod_scene_b56 274 v (nI (pNc st.1))) (fun j s => ∃ W, s = (nI j, hp W) ∧ WL W ∧ Fr w3 W 279 280 ∧ ∀ k, (W.1 279).getD k 0 = (w3.1 279).getD k 0) (fun r => ∃ W, r = (nI 6, hp W) ∧ WL W ∧ Fr w3 W 279 280 ∧ ∀ k, (W.1 279).getD k 0 = (w3.1 279).getD k 0) 6 (s0 := (0, hp w3)) (by omega) ⟨w3, rfl, b3, Fr.rfl', fun _ => rfl⟩ (by
          rintro j s hj ⟨W, rfl, hW, hF, hWk⟩
          left
          have hcn : ¬ (6 : Int32) ≤ nI j := nI_ge (b := 6) hj (by omega)
          obtain ⟨V, v1, v2, v3, v4, v5⟩ := st_at (i := 51 + 6 * nI (pNc st.1) + nI j) (x := 0) (j := 51 + 6 * pNc st.1 + j) hW s279 (nI_abc 51 6 (pNc st.1) j) (show 51 + 6 * pNc st.1 + j < 1427 by omega) (by omega)
          refine ⟨(nI (j + 1), hp V), by simp only [Mod_scene_b56, if_neg hcn, c274_5, Option.bind_some, v1, nI_1], V, rfl, v2, hF.tr v5, fun k => ?_⟩
          rw [v3, gD_set, hWk k]
          by_cases hk : 51 + 6 * pNc st.1 + j = k ∧ 51 + 6 * pNc st.1 + j < (W.1 279).length
          · rw [if_pos hk, ← hk.1, z j hj]
          · rw [if_neg hk]) (by
          rintro s ⟨W, rfl, hW, hF, hWk⟩
          exact ⟨(nI 6, hp W), by simp only [Mod_scene_b56, if_pos (show (6 : Int32) ≤ nI 6 by decide)], W, rfl, hW, hF, hWk⟩)
        have hWr : W.1 279 = w3.1 279 := ext_gD (by rw [l279 hW, l279 b3]) (fun k _ => hWk k)
        have l3 : ald 0 (hp W) 279 2 = some (nI (pNc st.1)) := by
          rw [ldN hW (i := 2) (j := 2) rfl (by omega), hWr, c3, gD_set, if_neg (by omega), f2, d2]
        obtain ⟨w4, a4, b4, c4, k4, e4⟩ := st_at (i := 2) (x := nI (pNc st.1) + 1) (j := 2) hW s279 rfl (by decide) (by omega)
        have r4 : rowIs (w4.1 279) (pdAddCase st.1 v) st.2.1 st.2.2 := by
          refine row_prog hI2.2.1 ?_ (fun k hk => by rw [c4, gD_set, if_neg (by omega), hWr, c3, gD_set, if_neg (by omega)])
          rw [c4, mdG_low (k := 2) (by omega), gD_set, gD_set, gD_set, if_neg (by omega), if_neg (by omega), if_pos ⟨rfl, by rw [l279 hW]; omega⟩, hWr, c3, f2]
          obtain ⟨r, hrr⟩ : ∃ r, r = w1.1 279 := ⟨_, rfl⟩
          have L : r.length = 1427 := by rw [hrr]; exact l279 hr.1
          rw [← hrr] at mg ⊢
          have eg : (mdG (r.set (47 + pNc st.1) v)).2.2.2 = (slc r 11 4, slc r 15 4, slc r 19 4, slc r 23 24, (slc r 47 4).set (pNc st.1) v, slc r 51 24) := by
            unfold mdG
            rw [slc_off (a := 11) (by omega), slc_off (a := 15) (by omega), slc_off (a := 19) (by omega), slc_off (a := 23) (by omega), slc_on (by omega) (by omega), slc_off (a := 51) (by omega)]
          rw [eg, gD_set, if_neg (by omega), gD_set, if_neg (by omega)]
          have e1' : nI (pNc st.1) + 1 = st.1.2.2.1 + 1 := by rw [← hwf.1.2.2.1]
          rw [e1', ← mg]
          rfl
        have e24 : Fr w2 w4 279 280 := (e3.tr hF).tr e4
        have hI4 : refI w4 (pdAddCase st.1 v, st.2.1, st.2.2) tm x hi im rf ss tp ft := refI_row hI2 b4 e24 r4
        obtain ⟨w5, a5, b5, e5⟩ := ref_changed hI4 gw h.1.2.2.1 h.1.2.2.2.1 (old := st) (by rw [(e24 280 (by omega)).1, c2']; exact hr.2.1) 4 (nI (pNc st.1))
        refine ⟨w5, ?_, b5, ((e2.mono (by omega) (by omega)).tr (e24.mono (by omega) (by omega))).tr e5⟩
        unfold Mod_scene
        rw [Mod_isIn_w, bnd2_some, b2i_t (hin.mpr h1), if_pos (by decide), c274_5, Option.bind_some, l1, Option.bind_some, if_pos (fun hh => by have := (nI_eq (b := 4) (by omega) (by omega)).mp hh; omega), k274, Option.bind_some, a2, bnd2_some, c274_5, Option.bind_some, l2, Option.bind_some, Option.bind_some, a3, Option.bind_some, i1, Option.bind_some]
        unfold Mod_scene_j83
        rw [c274_5, Option.bind_some, l3, Option.bind_some, a4, Option.bind_some, k274, Option.bind_some, a5, bnd2_some]
    · have e4 : pNc st.1 = 4 := by omega
      refine law_refuse (m := 4) (b := -5) h (by omega) (by decide) ?_ (fun w1 hr => ?_)
      · unfold Sp_scene
        rw [c0_0, Option.bind_some, c1_0, Option.bind_some, if_neg (show ¬ v < 1 by rw [ti_lt, t1]; omega), if_pos (show v ≤ 9 by rw [ti_le, t9]; omega), c2_2, Option.bind_some, c2, e4, if_neg (by decide), k0, Option.bind_some]
      · obtain ⟨d0, d1, d2⟩ := R_n hr h.1
        have l1 : ald 0 (hp w1) 279 2 = some (nI (pNc st.1)) := by rw [ldN hr.1 (i := 2) (j := 2) rfl (by omega), d2]
        unfold Mod_scene
        rw [Mod_isIn_w, bnd2_some, b2i_t (hin.mpr h1), if_pos (by decide), c274_5, Option.bind_some, l1, Option.bind_some, e4, if_neg (fun hh => hh rfl), k274, Option.bind_some]
  · refine law_refuse (m := 0) (b := -1) h (by omega) (by decide) ?_ (fun w1 hr => ?_)
    · unfold Sp_scene
      rw [c0_0, Option.bind_some, c1_0, Option.bind_some]
      by_cases hq : v < 1
      · rw [if_pos hq, jc]
      · rw [if_neg hq]
        rw [ti_lt, t1] at hq
        rw [if_neg (by rw [ti_le, t9]; omega), jc]
    · unfold Mod_scene
      rw [Mod_isIn_w, bnd2_some, b2i_f (fun hh => h1 (hin.mp hh)), if_neg (fun hh => hh rfl), k274, Option.bind_some]
end Rd
