/-! calls that only ask: regret -/
theorem Mod_leastOf_w {w : Wd} {c : Nat} (hw : WL w) (hg : wfP (mdG (w.1 279))) (hc : c < 4) : ∃ w', Mod_leastOf 274 (nI c) (hp w) = some (leM (mdG (w.1 279)) c 256, hp w') ∧ WL w' ∧ frS w w' := by
  obtain ⟨g, hgg⟩ : ∃ g, mdG (w.1 279) = g := ⟨_, rfl⟩
  rw [hgg] at hg ⊢
  obtain ⟨q, i1, W, rfl, hW, hF⟩ := iter_I (body := Mod_leastOf_b5 274 (nI c)) (fun j s => ∃ W, s = (leM g c j, nI j, hp W) ∧ WL W ∧ frS w W) (fun r => ∃ W, r = (leM g c 256, nI 256, hp W) ∧ WL W ∧ frS w W) 256 (s0 := (1000000000, 0, hp w)) (by omega) ⟨w, rfl, hw, frS.rfl'⟩ (by
    rintro j s hj ⟨W, rfl, hW, hF⟩
    left
    have hcn : ¬ (256 : Int32) ≤ nI j := nI_ge (b := 256) hj (by omega)
    have fW : mdG (W.1 279) = g := by rw [(hF.1 279 (by omega) (by omega)).1, hgg]
    have fin : ∀ V : Wd, WL V → frS w V → ∃ s', Mod_leastOf_j30 274 (nI c) (leM g c j) (nI j) (prcT g c j) (hp V) = some (Sum.inl s') ∧ ∃ W, s' = (leM g c (j + 1), nI (j + 1), hp W) ∧ WL W ∧ frS w W := by
      intro V h1 h2
      have fV : mdG (V.1 279) = g := by rw [(h2.1 279 (by omega) (by omega)).1, hgg]
      have ef := Mod_feesOf_w (plan := nI j) h1 (show wfP (mdG (V.1 279)) by rw [fV]; exact hg)
      rw [fV] at ef
      have e : leM g c (j + 1) = if prcT g c j = -1 then leM g c j else if leM g c j ≤ feesP g (nI j) + prcT g c j then leM g c j else feesP g (nI j) + prcT g c j := rfl
      unfold Mod_leastOf_j30
      by_cases q1 : prcT g c j = -1
      · rw [if_pos q1] at e ⊢
        simp only [Mod_leastOf_j59, nI_1]
        exact ⟨_, rfl, V, by rw [e], h1, h2⟩
      · rw [if_neg q1] at e ⊢
        simp only [k274, Option.bind_some, ef, bnd2_some]
        by_cases q2 : leM g c j ≤ feesP g (nI j) + prcT g c j
        · rw [if_pos q2] at e ⊢
          simp only [Mod_leastOf_j59, nI_1]
          exact ⟨_, rfl, V, by rw [e], h1, h2⟩
        · rw [if_neg q2] at e ⊢
          simp only [Mod_leastOf_j59, nI_1]
          exact ⟨_, rfl, V, by rw [e], h1, h2⟩
    have ep := Mod_isPlan_w (plan := nI j) hW (by rw [fW]; exact hg)
    rw [fW] at ep
    simp only [Mod_leastOf_b5, if_neg hcn, k274, Option.bind_some, ep, bnd2_some]
    by_cases hpl : isPlanP g (nI j) = true
    · rw [b2i_t hpl, if_neg (by decide)]
      obtain ⟨V, r1, r2, r3, _⟩ := Mod_solves_w (c := c) (n := j) hW (by rw [fW]; exact hg) hc hj
      rw [fW] at r1
      simp only [r1, bnd2_some]
      have e : priceP g c (nI j) = prcT g c j := by unfold prcT; rw [if_pos hpl]
      rw [e]
      exact fin V r2 (hF.tr r3)
    · rw [b2i_f hpl, if_pos (by decide)]
      have e : (-1 : Int32) = prcT g c j := by unfold prcT; rw [if_neg hpl]
      rw [e]
      exact fin W hW hF) (by
    rintro s ⟨W, rfl, hW, hF⟩
    exact ⟨(leM g c 256, nI 256, hp W), by simp only [Mod_leastOf_b5, if_pos (show (256 : Int32) ≤ nI 256 by decide)], W, rfl, hW, hF⟩)
  exact ⟨W, by simp only [Mod_leastOf, i1, Option.bind_some, Mod_leastOf_j65], hW, hF⟩
noncomputable def regP (g : PD) (n : Nat) : Nat → Int32
  | 0 => 0
  | j + 1 => if regP g n j < feesP g (nI n) + priceP g j (nI n) - leP g j 256 then feesP g (nI n) + priceP g j (nI n) - leP g j 256 else regP g n j
section Rd
variable {w : Wd} {st : ST} {tm : List Int32} {x : Nat} {hi : List (ST × Int32)} {im : Nat → Option (ST × List Int32)} {rf : Nat → Int32} {ss : Int32} {tp : List Int32} {ft : Int32}
theorem call_regret (h : lawJ w st tm x hi im rf ss tp ft) (b : Int32) : callOk w (Sp_regret 0 b) (Mod_regret 274 b) := by
  obtain ⟨hg, hc, hs⟩ := J_pd h.2.1
  obtain ⟨hgv, hkv, c0, c1, c2⟩ := J_wf h
  have hw := h.2.1.1
  have n2 := h.1.1.1.1.2.2.2
  have hwf := h.1.1.1
  by_cases h2 : isPlanP st.1 b = true
  · obtain ⟨n, hn, rfl⟩ := plan_nat h2
    have hplan := Prog_isPlan_w (w := w) (plan := nI n) isPg_2 hgv
    rw [hg, b2i_t h2] at hplan
    obtain ⟨W0, b1, b2, b3, b4⟩ := Book_totalAt_w (plan := n) hw hgv hn hkv
    rw [hg] at b1 b4
    by_cases ht : totalP st.1 (nI n) = -1
    · refine law_ro (y := -1) h ⟨W0, ?_, J_bk h.2.1 b2 b3 b4⟩ (fun w1 hr => ?_)
      · unfold Sp_regret
        rw [c0_0, Option.bind_some, c1_0, Option.bind_some, c0_2, Option.bind_some, c17_0, Option.bind_some, k2, Option.bind_some, hplan, bnd2_some, if_neg (by decide), k18, Option.bind_some, b1, bnd2_some, if_neg (fun hh => hh ht)]
        rfl
      · obtain ⟨mg, mc, ms, mo⟩ := J_md hr h.1
        obtain ⟨w2, r1, r2, r3⟩ := Mod_total_w (b := nI n) hr.1 mo.1
        rw [mg, if_pos h2, ht] at r1
        refine ⟨w2, ?_, r2, r3.M⟩
        unfold Mod_regret
        rw [k274, Option.bind_some, r1, bnd2_some, if_neg (fun hh => hh rfl)]
    · rcases total_cases hwf hn with t | ⟨t1, t2, t3, t4⟩
      · exact absurd t.1 ht
      refine law_ro (y := regP st.1 n (pNc st.1)) h ?_ (fun w1 hr => ?_)
      · obtain ⟨q, i1, W, rfl, hW, hF, hB⟩ := iter_I (body := Sp_regret_b42 0 (nI n) 2 18) (fun j s => ∃ W, s = (regP st.1 n j, nI j, hp W) ∧ WL W ∧ Fr w W 20 33 ∧ bkOk W st.1) (fun r => ∃ W, r = (regP st.1 n (pNc st.1), nI (pNc st.1), hp W) ∧ WL W ∧ Fr w W 20 33 ∧ bkOk W st.1) (pNc st.1) (s0 := (0, 0, hp W0)) (by omega) ⟨W0, rfl, b2, b3, b4⟩ (by
          rintro j s hj ⟨W, rfl, hW, hF, hB⟩
          left
          have hcn : ¬ nI (pNc st.1) ≤ nI j := nI_ge hj (by omega)
          have egW : pdW W 2 = st.1 := by rw [← hg]; exact pd_fr hF (by omega)
          have cW : W.2 2 2 = nI (pNc st.1) := by rw [(hF 2 (by omega)).2, c2]
          have ef := Prog_feesOf_w (w := W) (plan := nI n) isPg_2 (by rw [egW]; exact hwf)
          rw [egW] at ef
          obtain ⟨V, y, d1, d2, d3, d4, d5⟩ := Book_priceAt_w (c := j) (plan := n) hW (by rw [egW]; exact hwf) (by omega) hn (by rw [egW]; exact hB)
          rw [egW] at d2 d5
          rw [← priceP_eq d2] at d1
          have egV : pdW V 2 = st.1 := by rw [← egW]; exact pd_fr d4 (by omega)
          obtain ⟨U, e1, e2, e3, e4⟩ := Book_leastOfCase_w (c := j) d3 (by rw [egV]; exact hwf) (by omega) (by rw [egV]; exact d5)
          rw [egV] at e1 e4
          refine ⟨(regP st.1 n (j + 1), nI (j + 1), hp U), ?_, U, rfl, e2, (hF.tr d4).tr e3, e4⟩
          simp only [Sp_regret_b42, c2_2, Option.bind_some, cW, if_neg hcn, k2, ef, bnd2_some, k18, d1, e1, nI_1, regP]) (by
          rintro s ⟨W, rfl, hW, hF, hB⟩
          have cW : W.2 2 2 = nI (pNc st.1) := by rw [(hF 2 (by omega)).2, c2]
          exact ⟨(regP st.1 n (pNc st.1), nI (pNc st.1), hp W), by simp only [Sp_regret_b42, c2_2, Option.bind_some, cW, if_pos (show nI (pNc st.1) ≤ nI (pNc st.1) from nI_le (Nat.le_refl _) (by omega))], W, rfl, hW, hF, hB⟩)
        refine ⟨W, ?_, J_bk h.2.1 hW hF hB⟩
        unfold Sp_regret
        rw [c0_0, Option.bind_some, c1_0, Option.bind_some, c0_2, Option.bind_some, c17_0, Option.bind_some, k2, Option.bind_some, hplan, bnd2_some, if_neg (by decide), k18, Option.bind_some, b1, bnd2_some, if_pos ht, i1, Option.bind_some]
        simp only [Sp_regret_j90]
      · obtain ⟨mg, mc, ms, mo⟩ := J_md hr h.1
        obtain ⟨d0, d1, d2⟩ := R_n hr h.1
        obtain ⟨w2, r1, r2, r3⟩ := Mod_total_w (b := nI n) hr.1 mo.1
        rw [mg, if_pos h2] at r1
        obtain ⟨q, i1, W, rfl, hW, hF⟩ := iter_I (body := Mod_regret_b15 274 (nI n)) (fun j s => ∃ W, s = (regP st.1 n j, nI j, hp W) ∧ WL W ∧ frS w1 W) (fun r => ∃ W, r = (regP st.1 n (pNc st.1), nI (pNc st.1), hp W) ∧ WL W ∧ frS w1 W) (pNc st.1) (s0 := (0, 0, hp w2)) (by omega) ⟨w2, rfl, r2, r3⟩ (by
          rintro j s hj ⟨W, rfl, hW, hF⟩
          left
          have hcn : ¬ nI (pNc st.1) ≤ nI j := nI_ge hj (by omega)
          have f279 : W.1 279 = w1.1 279 := (hF.1 279 (by omega) (by omega)).1
          have fW : mdG (W.1 279) = st.1 := by rw [f279, mg]
          have a2 : ald 0 (hp W) 279 2 = some (nI (pNc st.1)) := by rw [ldN hW (i := 2) (j := 2) rfl (by omega), f279, d2]
          have ef := Mod_feesOf_w (plan := nI n) hW (by rw [fW]; exact hwf)
          rw [fW] at ef
          obtain ⟨V, v1, v2, v3, _⟩ := Mod_solves_w (c := j) (n := n) hW (by rw [fW]; exact hwf) (by omega) hn
          rw [fW] at v1
          have fV : mdG (V.1 279) = st.1 := by rw [(v3.1 279 (by omega) (by omega)).1, fW]
          obtain ⟨U, u1, u2, u3⟩ := Mod_leastOf_w (c := j) v2 (by rw [fV]; exact hwf) (by omega)
          rw [fV] at u1
          have hle : leM st.1 j 256 = leP st.1 j 256 := by
            rcases le_eq hwf (show j < 4 by omega) 256 (by omega) with ⟨_, _, l3⟩ | l
            · exfalso
              have := l3 n hn
              unfold prcT at this
              rw [if_pos h2, priceR_m1 (priceR_ex hwf (show j < 4 by omega) hn)] at this
              exact this (t1 j hj)
            · exact l.2.1
          rw [hle] at u1
          refine ⟨(regP st.1 n (j + 1), nI (j + 1), hp U), ?_, U, rfl, u2, (hF.tr v3).tr u3⟩
          have e : regP st.1 n (j + 1) = if regP st.1 n j < feesP st.1 (nI n) + priceP st.1 j (nI n) - leP st.1 j 256 then feesP st.1 (nI n) + priceP st.1 j (nI n) - leP st.1 j 256 else regP st.1 n j := rfl
          simp only [Mod_regret_b15, Mod_regret_j57, c274_5, Option.bind_some, a2, if_neg hcn, k274, ef, bnd2_some, v1, u1, nI_1]
          by_cases q1 : regP st.1 n j < feesP st.1 (nI n) + priceP st.1 j (nI n) - leP st.1 j 256
          · rw [if_pos q1] at e
            rw [e, if_neg (Int32.not_le.mpr q1)]
          · rw [if_neg q1] at e
            rw [e, if_pos (Int32.not_lt.mp q1)]) (by
          rintro s ⟨W, rfl, hW, hF⟩
          have a2 : ald 0 (hp W) 279 2 = some (nI (pNc st.1)) := by rw [ldN hW (i := 2) (j := 2) rfl (by omega), (hF.1 279 (by omega) (by omega)).1, d2]
          exact ⟨(regP st.1 n (pNc st.1), nI (pNc st.1), hp W), by simp only [Mod_regret_b15, c274_5, Option.bind_some, a2, if_pos (show nI (pNc st.1) ≤ nI (pNc st.1) from nI_le (Nat.le_refl _) (by omega))], W, rfl, hW, hF⟩)
        refine ⟨W, ?_, hW, hF.M⟩
        unfold Mod_regret
        rw [k274, Option.bind_some, r1, bnd2_some, if_pos ht, i1, Option.bind_some]
        simp only [Mod_regret_j64]
  · refine law_pp (y := -1) h ?_ (fun w1 hr => ?_)
    · have hplan := Prog_isPlan_w (w := w) (plan := b) isPg_2 hgv
      rw [hg, b2i_f h2] at hplan
      unfold Sp_regret
      rw [c0_0, Option.bind_some, c1_0, Option.bind_some, c0_2, Option.bind_some, c17_0, Option.bind_some, k2, Option.bind_some, hplan, bnd2_some, if_pos rfl]
      rfl
    · obtain ⟨mg, mc, ms, mo⟩ := J_md hr h.1
      have hplan := Mod_isPlan_w (plan := b) hr.1 mo.1
      rw [mg, b2i_f h2] at hplan
      have ht : Mod_total 274 b (hp w1) = some (-1, hp w1) := by
        unfold Mod_total
        rw [k274, Option.bind_some, hplan, bnd2_some, if_pos rfl]
        rfl
      unfold Mod_regret
      rw [k274, Option.bind_some, ht, bnd2_some, if_neg (fun hh => hh rfl)]
end Rd
