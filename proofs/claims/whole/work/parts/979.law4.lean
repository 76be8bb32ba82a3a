/-! calls that only ask: price, lack, rate, floor, total -/
theorem plan_nat {g : PD} {plan : Int32} (h : isPlanP g plan = true) : ∃ n, n < 256 ∧ plan = nI n := by
  unfold isPlanP at h
  rw [Bool.and_eq_true, decide_eq_true_iff] at h
  obtain ⟨⟨h1, h2⟩, _⟩ := h
  rw [ti_le, ti_0] at h1
  rw [ti_lt, show (256 : Int32).toInt = 256 from rfl] at h2
  obtain ⟨k, hk, h3, h4⟩ := i32_nat (i := plan) (by omega)
  exact ⟨k, by omega, h3⟩
section Rd
variable {w : Wd} {st : ST} {tm : List Int32} {x : Nat} {hi : List (ST × Int32)} {im : Nat → Option (ST × List Int32)} {rf : Nat → Int32} {ss : Int32} {tp : List Int32} {ft : Int32}
theorem J_bk (h : clsI w st tm x hi im rf ss tp ft) {w1 : Wd} (hw1 : WL w1) (hF : Fr w w1 20 33) (hk : bkOk w1 st.1) : WL w1 ∧ Fr w w1 17 40 ∧ bkOk w1 st.1 ∧ (w1.2 33 0 = 1 ∨ (w1.2 33 0 = 0 ∧ bdA w1 st.1 st.2.1)) := by
  refine ⟨hw1, hF.mono (by omega) (by omega), hk, ?_⟩
  rw [(hF 33 (by omega)).2]
  rcases h.2.1.2.2.2.1 with h1 | ⟨h1, h2⟩
  · exact .inl h1
  · exact .inr ⟨h1, bdA_fr h2 (hF 34 (by omega)).1 (hF 35 (by omega)).1⟩
theorem J_wf (h : lawJ w st tm x hi im rf ss tp ft) : wfP (pdW w 2) ∧ bkOk w (pdW w 2) ∧ w.2 2 0 = nI (pNp st.1) ∧ w.2 2 1 = nI (pNs st.1) ∧ w.2 2 2 = nI (pNc st.1) := by
  obtain ⟨hg, hc, hs⟩ := J_pd h.2.1
  have e0 : st.1.1 = nI (pNp st.1) := h.1.1.1.1.1.1
  have e1 : st.1.2.1 = nI (pNs st.1) := h.1.1.1.1.2.1.1
  have e2 : st.1.2.2.1 = nI (pNc st.1) := h.1.1.1.1.2.2.1
  refine ⟨by rw [hg]; exact h.1.1.1, by rw [hg]; exact h.2.1.2.1.2.2.1, ?_, ?_, ?_⟩
  · rw [← e0, ← hg]; rfl
  · rw [← e1, ← hg]; rfl
  · rw [← e2, ← hg]; rfl
theorem R_n {w1 : Wd} (hr : refI w1 st tm x hi im rf ss tp ft) (hv : vA st tm x hi im) : (w1.1 279).getD 0 0 = nI (pNp st.1) ∧ (w1.1 279).getD 1 0 = nI (pNs st.1) ∧ (w1.1 279).getD 2 0 = nI (pNc st.1) := by
  obtain ⟨mg, mc, ms, mo⟩ := J_md hr hv
  have e0 : st.1.1 = nI (pNp st.1) := hv.1.1.1.1.1
  have e1 : st.1.2.1 = nI (pNs st.1) := hv.1.1.1.2.1.1
  have e2 : st.1.2.2.1 = nI (pNc st.1) := hv.1.1.1.2.2.1
  refine ⟨?_, ?_, ?_⟩
  · rw [← e0, ← mg]; rfl
  · rw [← e1, ← mg]; rfl
  · rw [← e2, ← mg]; rfl
theorem call_price (h : lawJ w st tm x hi im rf ss tp ft) (a b : Int32) : callOk w (Sp_price 0 a b) (Mod_price 274 a b) := by
  obtain ⟨hg, hc, hs⟩ := J_pd h.2.1
  obtain ⟨hgv, hkv, c0, c1, c2⟩ := J_wf h
  have hw := h.2.1.1
  have n2 := h.1.1.1.1.2.2.2
  by_cases h1 : hasN (nI (pNc st.1)) a = true
  · obtain ⟨c, hcn, rfl⟩ := (has_iff (by omega)).mp h1
    by_cases h2 : isPlanP st.1 b = true
    · obtain ⟨n, hn, rfl⟩ := plan_nat h2
      refine law_ro (y := priceP st.1 c (nI n)) h ?_ (fun w1 hr => ?_)
      · obtain ⟨w1, y, b1, b2, b3, b4, b5⟩ := Book_priceAt_w (c := c) (plan := n) hw hgv (by omega) hn hkv
        rw [hg] at b2 b5
        rw [← priceP_eq b2] at b1
        refine ⟨w1, ?_, J_bk h.2.1 b3 b4 b5⟩
        simp only [Sp_price, c0_0, c1_0, k2, Option.bind_some, Prog_hasCase_w isPg_2, bnd2_some, c2, b2i_t h1, if_neg (show ¬ (1 : Int32) = 0 by decide), Prog_isPlan_w isPg_2 hgv, hg, b2i_t h2, c0_2, c17_0, k18, b1, if_pos (show ¬ (1 : Int32) = 0 by decide)]
      · obtain ⟨mg, mc, ms, mo⟩ := J_md hr h.1
        obtain ⟨d0, d1, d2⟩ := R_n hr h.1
        obtain ⟨w2, r1, r2, r3, r4, r5⟩ := Mod_solves_w (c := c) (n := n) hr.1 mo.1 (by omega) hn
        rw [mg] at r1
        refine ⟨w2, ?_, r2, r3.M⟩
        simp only [Mod_price, Mod_price_j26, k274, Option.bind_some, Mod_isCase_w hr.1 mo.1, bnd2_some, d2, b2i_t h1, if_neg (show ¬ (1 : Int32) = 0 by decide), Mod_isPlan_w hr.1 mo.1, mg, b2i_t h2, r1]
    · refine law_pp (y := -1) h ?_ (fun w1 hr => ?_)
      · simp only [Sp_price, Sp_price_j28, c0_0, c1_0, k2, Option.bind_some, Prog_hasCase_w isPg_2, bnd2_some, c2, b2i_t h1, if_neg (show ¬ (1 : Int32) = 0 by decide), Prog_isPlan_w isPg_2 hgv, hg, b2i_f h2, not_true_eq_false, if_false]
      · obtain ⟨mg, mc, ms, mo⟩ := J_md hr h.1
        obtain ⟨d0, d1, d2⟩ := R_n hr h.1
        simp only [Mod_price, Mod_price_j25, Mod_price_j26, k274, Option.bind_some, Mod_isCase_w hr.1 mo.1, bnd2_some, d2, b2i_t h1, if_neg (show ¬ (1 : Int32) = 0 by decide), Mod_isPlan_w hr.1 mo.1, mg, b2i_f h2, if_true]
  · refine law_pp (y := -1) h ?_ (fun w1 hr => ?_)
    · simp only [Sp_price, Sp_price_j28, c0_0, c1_0, k2, Option.bind_some, Prog_hasCase_w isPg_2, bnd2_some, c2, b2i_f h1, if_true]
    · obtain ⟨mg, mc, ms, mo⟩ := J_md hr h.1
      obtain ⟨d0, d1, d2⟩ := R_n hr h.1
      simp only [Mod_price, Mod_price_j25, Mod_price_j26, k274, Option.bind_some, Mod_isCase_w hr.1 mo.1, bnd2_some, d2, b2i_f h1, if_true]
theorem call_lack (h : lawJ w st tm x hi im rf ss tp ft) (a b : Int32) : callOk w (Sp_lack 0 a b) (Mod_lack 274 a b) := by
  obtain ⟨hg, hc, hs⟩ := J_pd h.2.1
  obtain ⟨hgv, hkv, c0, c1, c2⟩ := J_wf h
  have hw := h.2.1.1
  have n2 := h.1.1.1.1.2.2.2
  by_cases h1 : hasN (nI (pNc st.1)) a = true
  · obtain ⟨c, hcn, rfl⟩ := (has_iff (by omega)).mp h1
    by_cases h2 : isPlanP st.1 b = true
    · obtain ⟨n, hn, rfl⟩ := plan_nat h2
      refine law_ro (y := lackP st.1 c (nI n)) h ?_ (fun w1 hr => ?_)
      · obtain ⟨w1, b1, b2, b3, b4, b5, b6, b7⟩ := Frt_lackAt_w (c := c) (plan := nI n) hw hgv (by omega) hkv.1
        rw [hg] at b1 b5
        refine ⟨w1, ?_, J_bk h.2.1 b2 (b7.mono (by omega) (by omega)) ⟨b5, fun c' p' hc' hp' => ?_⟩⟩
        · simp only [Sp_lack, c0_0, c1_0, k2, Option.bind_some, Prog_hasCase_w isPg_2, bnd2_some, c2, b2i_t h1, if_neg (show ¬ (1 : Int32) = 0 by decide), Prog_isPlan_w isPg_2 hgv, hg, b2i_t h2, c0_2, c17_0, c18_0, k19, b1, if_pos (show ¬ (1 : Int32) = 0 by decide)]
        · rw [(b7 32 (by omega)).1]
          exact h.2.1.2.1.2.2.1.2 c' p' hc' hp'
      · obtain ⟨mg, mc, ms, mo⟩ := J_md hr h.1
        obtain ⟨d0, d1, d2⟩ := R_n hr h.1
        obtain ⟨w2, y, L, r1, r2, r3, r4, r5, r6, r7⟩ := Mod_lackOf_w (c := c) (plan := nI n) hr.1 mo.1 (by omega)
        have hy := lk_lack mo.1 (by omega) r2
        rw [mg] at hy
        refine ⟨w2, ?_, fun i => by rw [r3]; exact hr.1 i, ⟨fun i i1 i2 i3 i4 => r4 i (by omega), fun k k1 k2 k3 k4 k5 k6 k7 => r7 k k5 k6⟩⟩
        simp only [Mod_lack, Mod_lack_j26, k274, Option.bind_some, Mod_isCase_w hr.1 mo.1, bnd2_some, d2, b2i_t h1, if_neg (show ¬ (1 : Int32) = 0 by decide), Mod_isPlan_w hr.1 mo.1, mg, b2i_t h2, r1, hy]
    · refine law_pp (y := -1) h ?_ (fun w1 hr => ?_)
      · simp only [Sp_lack, Sp_lack_j28, c0_0, c1_0, k2, Option.bind_some, Prog_hasCase_w isPg_2, bnd2_some, c2, b2i_t h1, if_neg (show ¬ (1 : Int32) = 0 by decide), Prog_isPlan_w isPg_2 hgv, hg, b2i_f h2, not_true_eq_false, if_false]
      · obtain ⟨mg, mc, ms, mo⟩ := J_md hr h.1
        obtain ⟨d0, d1, d2⟩ := R_n hr h.1
        simp only [Mod_lack, Mod_lack_j25, Mod_lack_j26, k274, Option.bind_some, Mod_isCase_w hr.1 mo.1, bnd2_some, d2, b2i_t h1, if_neg (show ¬ (1 : Int32) = 0 by decide), Mod_isPlan_w hr.1 mo.1, mg, b2i_f h2, if_true]
  · refine law_pp (y := -1) h ?_ (fun w1 hr => ?_)
    · simp only [Sp_lack, Sp_lack_j28, c0_0, c1_0, k2, Option.bind_some, Prog_hasCase_w isPg_2, bnd2_some, c2, b2i_f h1, if_true]
    · obtain ⟨mg, mc, ms, mo⟩ := J_md hr h.1
      obtain ⟨d0, d1, d2⟩ := R_n hr h.1
      simp only [Mod_lack, Mod_lack_j25, Mod_lack_j26, k274, Option.bind_some, Mod_isCase_w hr.1 mo.1, bnd2_some, d2, b2i_f h1, if_true]
theorem call_total (h : lawJ w st tm x hi im rf ss tp ft) (b : Int32) : callOk w (Sp_total 0 b) (Mod_total 274 b) := by
  obtain ⟨hg, hc, hs⟩ := J_pd h.2.1
  obtain ⟨hgv, hkv, c0, c1, c2⟩ := J_wf h
  have hw := h.2.1.1
  by_cases h2 : isPlanP st.1 b = true
  · obtain ⟨n, hn, rfl⟩ := plan_nat h2
    refine law_ro (y := totalP st.1 (nI n)) h ?_ (fun w1 hr => ?_)
    · obtain ⟨w1, b1, b3, b4, b5⟩ := Book_totalAt_w (plan := n) hw hgv hn hkv
      rw [hg] at b1 b5
      refine ⟨w1, ?_, J_bk h.2.1 b3 b4 b5⟩
      simp only [Sp_total, c0_0, c1_0, k2, Option.bind_some, bnd2_some, Prog_isPlan_w isPg_2 hgv, hg, b2i_t h2, c0_2, c17_0, k18, b1, if_pos (show ¬ (1 : Int32) = 0 by decide)]
    · obtain ⟨mg, mc, ms, mo⟩ := J_md hr h.1
      obtain ⟨w2, r1, r2, r3⟩ := Mod_totalOf_w (n := n) hr.1 mo.1 hn
      rw [mg] at r1
      refine ⟨w2, ?_, r2, r3.M⟩
      simp only [Mod_total, Mod_total_j17, k274, Option.bind_some, bnd2_some, if_neg (show ¬ (1 : Int32) = 0 by decide), Mod_isPlan_w hr.1 mo.1, mg, b2i_t h2, r1]
  · refine law_pp (y := -1) h ?_ (fun w1 hr => ?_)
    · simp only [Sp_total, c0_0, c1_0, k2, Option.bind_some, bnd2_some, Prog_isPlan_w isPg_2 hgv, hg, b2i_f h2, not_true_eq_false, if_false]
    · obtain ⟨mg, mc, ms, mo⟩ := J_md hr h.1
      simp only [Mod_total, Mod_total_j17, k274, Option.bind_some, bnd2_some, Mod_isPlan_w hr.1 mo.1, mg, b2i_f h2, if_true]
theorem J_fresh (h : lawJ w st tm x hi im rf ss tp ft) : ∃ w1, Bnds_freshen 33 2 9 (hp w) = some ((), hp w1) ∧ WL w1 ∧ Fr w w1 33 36 ∧ w1.2 33 0 = 0 ∧ bdA w1 st.1 st.2.1 ∧ pdW w1 2 = st.1 := by
  obtain ⟨hg, hc, hs⟩ := J_pd h.2.1
  obtain ⟨hgv, hkv, c0, c1, c2⟩ := J_wf h
  obtain ⟨hz, hN, e1⟩ := J_n h.2.1
  have n2 := h.1.1.1.1.2.2.2
  have hci : ∀ i, i < cN w 9 → cutOk (ctW w 9 i) := by
    intro i hi
    have hci : ctW w 9 i = st.2.1.getD i [] := by rw [← hc]; exact (cutsW_get hi).symm
    have hv : cutV st.1 (st.2.1.getD i []) := h.1.1.2.1 _ (gD_mem (by omega))
    rw [hci]
    obtain ⟨m, hm, hm2⟩ := hv.1
    exact ⟨m, by omega, hm2⟩
  have hb : w.2 33 0 = 1 ∨ (w.2 33 0 = 0 ∧ bdA w (pdW w 2) (cutsW w 9)) := by rw [hg, hc]; exact h.2.1.2.1.2.2.2.1
  obtain ⟨w1, b1, b2, b3, b4, b5⟩ := Bnds_freshen_w isCt_9 h.2.1.1 hgv hz (.inl (by omega)) hci hb
  rw [hg, hc] at b5
  exact ⟨w1, b1, b2, b3, b4, b5, by rw [← hg]; exact pd_fr b3 (by omega)⟩
theorem J_floor (h : lawJ w st tm x hi im rf ss tp ft) {n : Nat} (hn : n < 256) (h2 : isPlanP st.1 (nI n) = true) : ∃ w1, Sp_floor 0 (nI n) (hp w) = some (floorP st.1 st.2.1 (nI n), hp w1) ∧ WL w1 ∧ Fr w w1 17 40 ∧ bkOk w1 st.1 ∧ (w1.2 33 0 = 1 ∨ (w1.2 33 0 = 0 ∧ bdA w1 st.1 st.2.1)) := by
  obtain ⟨hg, hc, hs⟩ := J_pd h.2.1
  obtain ⟨hgv, hkv, c0, c1, c2⟩ := J_wf h
  obtain ⟨w1, b1, b2, b3, b4, b5, hp1⟩ := J_fresh h
  have f1 := Bnds_floorAt_w (w := w1) (plan := n) (cs := st.2.1) b2 (by rw [hp1]; exact h.1.1.1) (by rw [hp1]; exact b5) hn (by rw [hp1]; exact h2)
  rw [hp1] at f1
  have hpl := Prog_isPlan_w (w := w) (plan := nI n) isPg_2 hgv
  rw [hg, b2i_t h2] at hpl
  refine ⟨w1, ?_, b2, b3.mono (by omega) (by omega), bkOk_fr h.2.1.2.1.2.2.1 (b3 22 (by omega)).1 (b3 23 (by omega)).1 (b3 32 (by omega)).1, .inr ⟨b4, b5⟩⟩
  simp only [Sp_floor, c0_0, c1_0, c1_1, k2, Option.bind_some, bnd2_some, hpl, c0_2, c17_1, k33, b1, f1, if_pos (show ¬ (1 : Int32) = 0 by decide)]
theorem call_floor (h : lawJ w st tm x hi im rf ss tp ft) (b : Int32) : callOk w (Sp_floor 0 b) (Mod_floor 274 b) := by
  obtain ⟨hg, hc, hs⟩ := J_pd h.2.1
  obtain ⟨hgv, hkv, c0, c1, c2⟩ := J_wf h
  by_cases h2 : isPlanP st.1 b = true
  · obtain ⟨n, hn, rfl⟩ := plan_nat h2
    refine law_ro (y := floorP st.1 st.2.1 (nI n)) h (J_floor h hn h2) (fun w1 hr => ?_)
    obtain ⟨mg, mc, ms, mo⟩ := J_md hr h.1
    refine ⟨w1, ?_, hr.1, frM.rfl'⟩
    simp only [Mod_floor, Mod_floor_j17, k274, Option.bind_some, bnd2_some, if_neg (show ¬ (1 : Int32) = 0 by decide), Mod_isPlan_w hr.1 mo.1, mg, b2i_t h2, Mod_floorOf_w hr.1 mo, mc]
  · refine law_pp (y := -1) h ?_ (fun w1 hr => ?_)
    · have hpl := Prog_isPlan_w (w := w) (plan := b) isPg_2 hgv
      rw [hg, b2i_f h2] at hpl
      unfold Sp_floor
      rw [c0_0, Option.bind_some, c1_0, Option.bind_some, k2, Option.bind_some, hpl, bnd2_some, if_neg (fun h => h rfl)]
    · obtain ⟨mg, mc, ms, mo⟩ := J_md hr h.1
      simp only [Mod_floor, Mod_floor_j17, k274, Option.bind_some, bnd2_some, Mod_isPlan_w hr.1 mo.1, mg, b2i_f h2, if_true]
end Rd
