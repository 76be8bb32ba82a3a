/-! a change of the program, in both -/
def stC (g : PD) (cs : List (List Int32)) : ST := (g, (cs.filter (holdsP g)).map age0, sr0)
theorem stC_V {g g' : PD} {cs : List (List Int32)} (hg' : wfP g') (hn : pNc g ≤ pNc g') (hc : csOk g cs) (hl : cs.length ≤ 40) : stV (stC g' cs) := by
  refine ⟨hg', fun c hcm => ?_, srOk_0, ?_⟩
  · obtain ⟨d, hd, rfl⟩ := List.mem_map.mp hcm
    obtain ⟨hd1, hd2⟩ := List.mem_filter.mp hd
    obtain ⟨⟨n, v1, v2⟩, v3, v4, v5, v6, v7⟩ := hc d hd1
    have hv : cutV g' d := ⟨⟨n, by omega, v2⟩, v3, v4, v5, v6, hd2⟩
    exact setAge_V hg' hv ⟨by decide, by decide⟩
  · show ((cs.filter (holdsP g')).map age0).length ≤ 40
    rw [List.length_map]
    exact Nat.le_trans (List.length_filter_le _ _) hl
theorem refI_row {w w' : Wd} {st st' : ST} {tm : List Int32} {x : Nat} {hi : List (ST × Int32)} {im : Nat → Option (ST × List Int32)} {rf : Nat → Int32} {ss : Int32} {tp : List Int32} {ft : Int32} (h : refI w st tm x hi im rf ss tp ft) (hw' : WL w') (hF : Fr w w' 279 280) (hr : rowX (w'.1 279) st') : refI w' st' tm x hi im rf ss tp ft := by
  obtain ⟨h0, h1, h2, h3, h4, h5, h6, h7⟩ := h
  have f : ∀ i, i ≠ 279 → w'.1 i = w.1 i ∧ w'.2 i = w.2 i := fun i hi => hF i (by omega)
  refine ⟨hw', hr, by rw [(f 276 (by omega)).1]; exact h2, by rw [(f 277 (by omega)).1, (f 278 (by omega)).1]; exact h3, ?_, ?_, ?_, ?_⟩
  · unfold refH at h4 ⊢
    rw [(f 283 (by omega)).1, (f 284 (by omega)).1, (f 274 (by omega)).2]
    exact h4
  · unfold refM at h5 ⊢
    rw [(f 285 (by omega)).1, (f 286 (by omega)).1]
    exact h5
  · unfold refR at h6 ⊢
    rw [(f 275 (by omega)).1, (f 274 (by omega)).2]
    exact h6
  · unfold refT at h7 ⊢
    rw [(f 282 (by omega)).1, (f 274 (by omega)).2]
    exact h7
section Rd
variable {w : Wd} {st : ST} {tm : List Int32} {x : Nat} {hi : List (ST × Int32)} {im : Nat → Option (ST × List Int32)} {rf : Nat → Int32} {ss : Int32} {tp : List Int32} {ft : Int32}
theorem cls_after (h : clsI w st tm x hi im rf ss tp ft) {V : Wd} {g' : PD} (hV : WL V) (hg' : wfP g') (hp' : pdW V 2 = g') (hk : bkOk V g') (hF : ∀ i, (i < 2 ∨ 9 ≤ i) → (i < 20 ∨ 33 ≤ i) → V.1 i = w.1 i ∧ V.2 i = w.2 i) : ∃ W, Sp_afterChange 0 (hp V) = some ((), hp W) ∧ clsI W (stC g' st.2.1) tm x hi im rf ss tp ft ∧ Fr w W 0 274 ∧ pdW W 2 = g' := by
  obtain ⟨w1, a1, b1, c1, e1⟩ := Srch_reset_w (a := 15) isSt_1.2.2.2 hV
  have p1 : pdW w1 2 = g' := by rw [← hp']; exact pd_fr e1 (by omega)
  have z1 : cSz w1 9 40 := by
    have hz : cSz w 9 40 := h.2.1.1.2
    unfold cSz cN at hz ⊢
    rw [(e1 9 (by omega)).2, (hF 9 (by omega) (by omega)).2]
    exact hz
  have cs1 : cutsW w1 9 = st.2.1 := by
    rw [← (J_pd h).2.1]
    unfold cutsW
    have ec : cN w1 9 = cN w 9 := by unfold cN; rw [(e1 9 (by omega)).2, (hF 9 (by omega) (by omega)).2]
    rw [ec]
    apply List.map_congr_left
    intro i _
    have g : ∀ i, 10 ≤ i → i < 15 → w1.1 i = w.1 i := fun i h1 h2 => ((e1 i (by omega)).1).trans (hF i (by omega) (by omega)).1
    exact ct_ext (by rw [g (9 + 1) (by omega) (by omega)]) (by rw [g (9 + 2) (by omega) (by omega)]) (by rw [g (9 + 3) (by omega) (by omega)]) (fun _ _ => by rw [g (9 + 4) (by omega) (by omega)]) (fun _ _ => by rw [g (9 + 5) (by omega) (by omega)])
  obtain ⟨w2, a2, b2, c2, d2, d2', e2⟩ := Cuts_keepHolding_w isCt_9 isPg_2 (by omega) b1 (by rw [p1]; exact hg') z1
  rw [p1, cs1] at c2
  obtain ⟨w3, a3, b3, c3, d3, d3', e3⟩ := pf_at (x := 1) (a := 33) (ci := 1) (fs := [none, some 34, some 35]) (k := 0) b2 (by decide +kernel) rfl
  have f3 : ∀ i, (i < 2 ∨ 16 ≤ i) → (i < 20 ∨ 34 ≤ i) → w3.1 i = w.1 i ∧ w3.2 i = w.2 i := by
    intro i h1 h2
    have g3 := e3 i (by omega)
    have g2 := e2 i (by omega)
    have g1 := e1 i (by omega)
    have g0 := hF i (by omega) (by omega)
    exact ⟨g3.1.trans (g2.1.trans (g1.1.trans g0.1)), g3.2.trans (g2.2.trans (g1.2.trans g0.2))⟩
  have p3 : pdW w3 2 = g' := by rw [← p1, ← pd_fr e2 (b := 2) (by omega)]; exact pd_fr e3 (by omega)
  obtain ⟨h0, ⟨h1, h2, h3, h4, h5⟩, h6, h7, h8, h9, h10⟩ := h
  refine ⟨w3, ?_, ⟨b3, ⟨⟨?_, ?_⟩, ?_, ?_, .inl d3, by rw [(f3 235 (by omega) (by omega)).2]; exact h5⟩, by rw [(f3 16 (by omega) (by omega)).1]; exact h6, clsH_fr h7 (fun i a b => f3 i (by omega) (by omega)), clsM_fr h8 (fun i h => f3 i (by omega) (by omega)), ?_, ?_⟩, fun i hi => f3 i (by omega) (by omega), p3⟩
  · unfold Sp_afterChange
    rw [c0_0, Option.bind_some, c1_2, Option.bind_some, k15, Option.bind_some, a1, bnd2_some, c0_0, Option.bind_some, c1_1, Option.bind_some, Option.bind_some, c1_0, Option.bind_some, k9, Option.bind_some, a2, bnd2_some, c0_2, Option.bind_some, c17_1, Option.bind_some, bz1, Option.bind_some, a3, Option.bind_some]
  · show w3.2 9 0 = nI 40
    rw [(e3 9 (by omega)).2, d2', (e1 9 (by omega)).2, (hF 9 (by omega) (by omega)).2]
    exact h1.1
  · show cSz w3 9 40
    exact cSz_fr e3 (by omega) d2
  · show (pdW w3 2, cutsW w3 9, srW w3 15) = _
    rw [p3, cuts_fr e3 (by omega), c2, sr_fr e3 (by omega), sr_fr e2 (by omega), c1]
    rfl
  · show bkOk w3 g'
    refine bkOk_fr hk ?_ ?_ ?_
    · rw [(e3 22 (by omega)).1, (e2 22 (by omega)).1, (e1 22 (by omega)).1]
    · rw [(e3 23 (by omega)).1, (e2 23 (by omega)).1, (e1 23 (by omega)).1]
    · rw [(e3 32 (by omega)).1, (e2 32 (by omega)).1, (e1 32 (by omega)).1]
  · unfold clsR at h9 ⊢
    rw [(f3 243 (by omega) (by omega)).1, (f3 0 (by omega) (by omega)).2]; exact h9
  · unfold clsT at h10 ⊢
    rw [(f3 41 (by omega) (by omega)).1, (f3 40 (by omega) (by omega)).2]; exact h10
theorem ref_changed {g' : PD} {cs : List (List Int32)} {sr : List Int32} {old : ST} (h : refI w (g', cs, sr) tm x hi im rf ss tp ft) (hg' : wfP g') (hx : x < 12) (hn : hi.length ≤ 12) (ho : rowX (w.1 280) old) (act y : Int32) : ∃ W, Mod_changed 274 act y (hp w) = some (y, hp W) ∧ refI W (stC g' cs) tm (nxt x) (push (old, act) hi) im rf 0 tp ft ∧ Fr w W 274 292 := by
  obtain ⟨w1, a1, b1, c1, d1, e1⟩ := Mod_forgets_w h.1 h.2.1
  have c1 : rowIs (w1.1 279) g' cs sr0 := c1
  have n1 : mdN (w1.1 279) = cs.length := c1.n
  obtain ⟨w2, a2, b2, e2, k2, k9', c2⟩ := Mod_goes_w (age := -1) b1 (by rw [c1.1]; exact hg') (by rw [n1]; exact c1.2.2.2.1) (by rw [n1]; exact c1.2.2.2.2)
  have hgo : goP g' (-1) = holdsP g' := by
    funext c
    unfold goP
    rw [if_pos rfl]
  rw [c1.1, c1.2.1, hgo] at c2 k9'
  obtain ⟨cf, hcf⟩ : ∃ cf, cf = cs.filter (holdsP g') := ⟨_, rfl⟩
  rw [← hcf] at c2 k9'
  have hlen : cf.length ≤ 99 := by rw [hcf]; exact Nat.le_trans (List.length_filter_le _ _) c1.2.2.2.2
  have r2 : rowIs (w2.1 279) g' cf sr0 := by
    refine ⟨?_, c2, ?_, k9', hlen⟩
    · rw [← c1.1]; exact mdG_cg (fun k hk => k2 k (by omega) (by omega))
    · rw [← c1.2.2.1]
      unfold mdS
      rw [k2 3 (by omega) (by omega), k2 4 (by omega) (by omega), k2 5 (by omega) (by omega), k2 6 (by omega) (by omega), k2 7 (by omega) (by omega), k2 8 (by omega) (by omega), k2 10 (by omega) (by omega)]
  obtain ⟨q, i1, W, rfl, hW, hF, hk, ha⟩ := iter_I (body := Mod_changed_b13 274 act y (nI (mdN (w1.1 279)) - nI (List.filter (goP (mdG (w1.1 279)) (-1)) (mdC (w1.1 279))).length)) (fun j s => ∃ W, s = (nI j, hp W) ∧ WL W ∧ Fr w2 W 279 280 ∧ (∀ k, (∀ i, i < j → k ≠ 75 + 13 * i + 2) → (W.1 279).getD k 0 = (w2.1 279).getD k 0) ∧ ∀ i, i < j → (W.1 279).getD (75 + 13 * i + 2) 0 = 0) (fun q => ∃ W, q = (nI cf.length, hp W) ∧ WL W ∧ Fr w2 W 279 280 ∧ (∀ k, (∀ i, i < cf.length → k ≠ 75 + 13 * i + 2) → (W.1 279).getD k 0 = (w2.1 279).getD k 0) ∧ ∀ i, i < cf.length → (W.1 279).getD (75 + 13 * i + 2) 0 = 0) cf.length (s0 := (0, hp w2)) (by omega) ⟨w2, rfl, b2, Fr.rfl', fun _ _ => rfl, fun i hi => absurd hi (by omega)⟩ (by
    rintro j s hj ⟨W, rfl, hW, hF, hk, ha⟩
    left
    have hcn : ¬ nI cf.length ≤ nI j := nI_ge hj (by omega)
    have a9 : ald 0 (hp W) 279 9 = some (nI cf.length) := by rw [ldN hW (i := 9) (j := 9) rfl (by omega), hk 9 (fun i _ => by omega), r2.2.2.2.1]
    obtain ⟨V, v1, v2, v3, v4, v5⟩ := st_at (i := 75 + 13 * nI j + 2) (x := 0) (j := 75 + 13 * j + 2) hW s279 (nI_abc 75 13 j 2) (show 75 + 13 * j + 2 < 1427 by omega) (by omega)
    refine ⟨(nI (j + 1), hp V), by simp only [Mod_changed_b13, c274_5, Option.bind_some, a9, if_neg hcn, v1, nI_1], V, rfl, v2, hF.tr v5, fun k hk' => ?_, fun i hi => ?_⟩
    · rw [v3, gD_set, if_neg (fun hh => hk' j (by omega) hh.1.symm)]
      exact hk k (fun i hi => hk' i (by omega))
    · rw [v3, gD_set]
      by_cases hij : i = j
      · rw [if_pos ⟨by rw [hij], by rw [l279 hW]; omega⟩]
      · rw [if_neg (fun hh => hij (by omega))]
        exact ha i (by omega)) (by
    rintro s ⟨W, rfl, hW, hF, hk, ha⟩
    have a9 : ald 0 (hp W) 279 9 = some (nI cf.length) := by rw [ldN hW (i := 9) (j := 9) rfl (by omega), hk 9 (fun i _ => by omega), r2.2.2.2.1]
    exact ⟨(nI cf.length, hp W), by simp only [Mod_changed_b13, c274_5, Option.bind_some, a9, if_pos (show nI cf.length ≤ nI cf.length from nI_le (Nat.le_refl _) (by omega))], W, rfl, hW, hF, hk, ha⟩)
  have nW : mdN (W.1 279) = cf.length := by
    rw [← r2.n]
    unfold mdN
    rw [hk 9 (fun i _ => by omega)]
  have rW : rowX (W.1 279) (stC g' cs) := by
    refine ⟨?_, ?_, ?_, ?_, ?_⟩
    · show mdG (W.1 279) = g'
      rw [← r2.1]; exact mdG_cg (fun k hk' => hk k (fun i _ => by omega))
    · show mdC (W.1 279) = (cs.filter (holdsP g')).map age0
      rw [← hcf, ← r2.2.1]
      unfold mdC
      rw [nW, r2.n, List.map_map]
      apply List.map_congr_left
      intro i hi
      have hi' := List.mem_range.mp hi
      have := mdC1_age (r := w2.1 279) (r' := W.1 279) (i := i) (fun k hk' h2 => hk _ (fun i' hi' => by omega))
      rw [ha i hi'] at this
      exact this
    · show mdS (W.1 279) = sr0
      rw [← r2.2.2.1]
      unfold mdS
      rw [hk 3 (fun i _ => by omega), hk 4 (fun i _ => by omega), hk 5 (fun i _ => by omega), hk 6 (fun i _ => by omega), hk 7 (fun i _ => by omega), hk 8 (fun i _ => by omega), hk 10 (fun i _ => by omega)]
    · show (W.1 279).getD 9 0 = nI ((cs.filter (holdsP g')).map age0).length
      rw [hk 9 (fun i _ => by omega), r2.2.2.2.1, List.length_map, hcf]
    · show ((cs.filter (holdsP g')).map age0).length ≤ 99
      rw [List.length_map, ← hcf]; exact hlen
  have fW : Fr w W 279 280 := (e1.tr e2).tr hF
  have hI := refI_row h hW fW rW
  obtain ⟨w4, q1, q2, q3⟩ := ref_keeps hI hx hn (by rw [(fW 280 (by omega)).1]; exact ho) act
  obtain ⟨w5, t1, t2, t3⟩ := ref_accept q2 y
  refine ⟨w5, ?_, t2, ((fW.mono (by omega) (by omega)).tr q3).tr t3⟩
  unfold Mod_changed
  rw [k274, Option.bind_some, a1, bnd2_some, k274, Option.bind_some, a2, bnd2_some, i1, Option.bind_some]
  unfold Mod_changed_j47
  rw [k274, Option.bind_some, q1, bnd2_some, k274, Option.bind_some, t1, bnd2_some]
end Rd
