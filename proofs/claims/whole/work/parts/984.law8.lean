/-! calls that only ask: exact, count -/
noncomputable def exP (st : ST) (i n : Nat) : Bool := if cK (st.2.1.getD i []) 1 = 1 then decide (¬ valP st.1 (st.2.1.getD i []) (nI n) ≤ 0 ∧ valP st.1 (st.2.1.getD i []) (nI n) = lackP st.1 (cK (st.2.1.getD i []) 0).toNatClampNeg (nI n)) else decide (priceP st.1 (cK (st.2.1.getD i []) 0).toNatClampNeg (nI n) ≠ -1 ∧ valP st.1 (st.2.1.getD i []) (nI n) = priceP st.1 (cK (st.2.1.getD i []) 0).toNatClampNeg (nI n))
noncomputable def exN (st : ST) (i : Nat) : Nat → Int32
  | 0 => 0
  | n + 1 => if isPlanP st.1 (nI n) = true ∧ exP st i n = true then exN st i n + 1 else exN st i n
theorem bd_t {p : Prop} [Decidable p] (h : p) : b2i (decide p) = 1 := by rw [decide_eq_true h]; rfl
theorem bd_f {p : Prop} [Decidable p] (h : ¬ p) : b2i (decide p) = 0 := by rw [decide_eq_false h]; rfl
theorem Sp_fitsAt_w {w : Wd} {st : ST} {i n : Nat} (hw : WL w) (hg : pdW w 2 = st.1) (hgv : wfP st.1) (hi : i < 40) (hci : ctW w 9 i = st.2.1.getD i []) (hv : cutV st.1 (st.2.1.getD i [])) (hn : n < 256) (hk : bkOk w st.1) : ∃ w', Sp_fitsAt 0 (nI i) (nI n) (hp w) = some (b2i (exP st i n), hp w') ∧ WL w' ∧ Fr w w' 20 33 ∧ bkOk w' st.1 := by
  have n2 := hgv.1.2.2.2
  obtain ⟨c, hc, hc2⟩ := hv.1
  have a10 : ald 0 (hp w) 10 (nI i) = some (nI c) := by
    rw [ald_w s10 rfl (by rw [l10 hw]; omega) (by omega), ← hc2, ← hci, cK_0]
  have a11 : ald 0 (hp w) 11 (nI i) = some (cK (st.2.1.getD i []) 1) := by
    rw [ald_w s11 rfl (by rw [l11 hw]; omega) (by omega), ← hci, cK_1]
  have hval := Cuts_valueAt_w (b := 2) (plan := nI n) isCt_9 isPg_2 hw (by rw [hg]; exact hgv) hi (by rw [hci]; exact ⟨c, by omega, hc2⟩)
  rw [hg, hci] at hval
  have cc : (cK (st.2.1.getD i []) 0).toNatClampNeg = c := by rw [hc2, nI_clamp (by omega)]
  unfold exP
  rw [cc]
  simp only [Sp_fitsAt, Sp_fitsAt_j119, Sp_fitsAt_j120, Sp_fitsAt_j84, Sp_fitsAt_j85, c0_0, c1_0, c1_1, c9_2, c9_3, k9, Option.bind_some, a10, a11, hval, bnd2_some, bz0, bz1]
  by_cases h1 : cK (st.2.1.getD i []) 1 = 1
  · rw [if_neg (fun h => h h1), if_pos h1]
    by_cases h2 : valP st.1 (st.2.1.getD i []) (nI n) ≤ 0
    · rw [if_pos h2, bd_f (fun h => h.1 h2)]
      exact ⟨w, rfl, hw, Fr.rfl', hk⟩
    · rw [if_neg h2]
      obtain ⟨w1, b1, b2, b3, b4, b5, b6, b7⟩ := Frt_lackAt_w (c := c) (plan := nI n) hw (by rw [hg]; exact hgv) (by omega) (by rw [hg]; exact hk.1)
      rw [hg] at b1 b5
      simp only [c0_2, c17_0, c18_0, k19, Option.bind_some, b1, bnd2_some]
      have fin : WL w1 ∧ Fr w w1 20 33 ∧ bkOk w1 st.1 := by
        refine ⟨b2, b7.mono (by omega) (by omega), b5, fun c' p' hc' hp' => ?_⟩
        rw [(b7 32 (by omega)).1]
        exact hk.2 c' p' hc' hp'
      by_cases h3 : valP st.1 (st.2.1.getD i []) (nI n) = lackP st.1 c (nI n)
      · rw [if_neg (fun h => h h3), bd_t ⟨h2, h3⟩]
        exact ⟨w1, rfl, fin⟩
      · rw [if_pos h3, bd_f (fun h => h3 h.2)]
        exact ⟨w1, rfl, fin⟩
  · rw [if_pos h1, if_neg h1]
    obtain ⟨w1, y, b1, b2, b3, b4, b5⟩ := Book_priceAt_w (c := c) (plan := n) hw (by rw [hg]; exact hgv) (by omega) hn (by rw [hg]; exact hk)
    rw [hg] at b2 b5
    rw [← priceP_eq b2] at b1
    simp only [c0_2, c17_0, k18, Option.bind_some, b1, bnd2_some]
    by_cases h2 : priceP st.1 c (nI n) = -1
    · rw [if_pos h2, bd_f (fun h => h.1 h2)]
      exact ⟨w1, rfl, b3, b4, b5⟩
    · rw [if_neg h2]
      by_cases h3 : valP st.1 (st.2.1.getD i []) (nI n) = priceP st.1 c (nI n)
      · rw [if_neg (fun h => h h3), bd_t ⟨h2, h3⟩]
        exact ⟨w1, rfl, b3, b4, b5⟩
      · rw [if_pos h3, bd_f (fun h => h3 h.2)]
        exact ⟨w1, rfl, b3, b4, b5⟩
theorem Mod_isExact_w {w : Wd} {st : ST} {i n : Nat} (hw : WL w) (hg : mdG (w.1 279) = st.1) (hgv : wfP st.1) (hi : i < 103) (hci : mdC1 (w.1 279) i = st.2.1.getD i []) (hv : cutV st.1 (st.2.1.getD i [])) (hn : n < 256) : ∃ w', Mod_isExact 274 (nI i) (nI n) (hp w) = some (b2i (exP st i n), hp w') ∧ WL w' ∧ frS w w' := by
  have n2 := hgv.1.2.2.2
  obtain ⟨c, hc, hc2⟩ := hv.1
  have o0 := Mod_ofCut_w hw (i := i) (k := 0) hi (by omega)
  rw [hci, hc2, show nI 0 = 0 from rfl] at o0
  have o1 := Mod_ofCut_w hw (i := i) (k := 1) hi (by omega)
  rw [hci, show nI 1 = 1 from rfl] at o1
  have hval := Mod_toldBy_w hw (plan := nI n) (by rw [hg]; exact hgv) hi (by rw [hci]; exact ⟨c, by omega, hc2⟩)
  rw [hg, hci] at hval
  have cc : (cK (st.2.1.getD i []) 0).toNatClampNeg = c := by rw [hc2, nI_clamp (by omega)]
  unfold exP
  rw [cc]
  simp only [Mod_isExact, Mod_isExact_j40, Mod_isExact_j41, Mod_isExact_j68, Mod_isExact_j69, k274, Option.bind_some, o0, o1, hval, bnd2_some, bz0, bz1]
  by_cases h1 : cK (st.2.1.getD i []) 1 = 1
  · rw [if_neg (fun h => h h1), if_pos h1]
    by_cases h2 : valP st.1 (st.2.1.getD i []) (nI n) ≤ 0
    · rw [if_pos h2, bd_f (fun h => h.1 h2)]
      exact ⟨w, rfl, hw, frS.rfl'⟩
    · rw [if_neg h2]
      obtain ⟨w2, y, L, r1, r2, r3, r4, r5, r6, r7⟩ := Mod_lackOf_w (c := c) (plan := nI n) hw (by rw [hg]; exact hgv) (by omega)
      have hy := lk_lack (by rw [hg]; exact hgv) (by omega) r2
      rw [hg] at hy
      rw [hy] at r1
      simp only [r1, bnd2_some]
      have fin : WL w2 ∧ frS w w2 := ⟨fun i => by rw [r3]; exact hw i, fun i a b => r4 i (by omega), by rw [r3], fun k k5 k6 => r7 k k5 k6⟩
      by_cases h3 : valP st.1 (st.2.1.getD i []) (nI n) = lackP st.1 c (nI n)
      · rw [if_neg (fun h => h h3), bd_t ⟨h2, h3⟩]
        exact ⟨w2, rfl, fin⟩
      · rw [if_pos h3, bd_f (fun h => h3 h.2)]
        exact ⟨w2, rfl, fin⟩
  · rw [if_pos h1, if_neg h1]
    obtain ⟨w2, r1, r2, r3, r4, r5⟩ := Mod_solves_w (c := c) (n := n) hw (by rw [hg]; exact hgv) (by omega) hn
    rw [hg] at r1 r5
    simp only [r1, bnd2_some, c274_21, Option.bind_some, r5]
    have hl := priceR_m1 (priceR_ex hgv (show c < 4 by omega) hn)
    have nn := lack_nn (g := st.1) (c := c) (plan := nI n)
    by_cases h3 : valP st.1 (st.2.1.getD i []) (nI n) = priceP st.1 c (nI n)
    · rw [if_neg (fun h => h h3)]
      by_cases h4 : lackP st.1 c (nI n) = 0
      · rw [if_neg (fun h => h h4), bd_t ⟨fun h => hl.mp h (by rw [h4]; decide), h3⟩]
        exact ⟨w2, rfl, r2, r3⟩
      · rw [if_pos h4, bd_f (fun h => h.1 (hl.mpr (fun h5 => h4 (by rw [ti_eq, ti_0]; rw [ti_le, ti_0] at h5; omega))))]
        exact ⟨w2, rfl, r2, r3⟩
    · rw [if_pos h3, bd_f (fun h => h3 h.2)]
      exact ⟨w2, rfl, r2, r3⟩
section Rd
variable {w : Wd} {st : ST} {tm : List Int32} {x : Nat} {hi : List (ST × Int32)} {im : Nat → Option (ST × List Int32)} {rf : Nat → Int32} {ss : Int32} {tp : List Int32} {ft : Int32}
theorem call_exact (h : lawJ w st tm x hi im rf ss tp ft) (a : Int32) : callOk w (Sp_exact 0 a) (Mod_exact 274 a) := by
  obtain ⟨hg, hc, hs⟩ := J_pd h.2.1
  obtain ⟨hgv, hkv, c0, c1, c2⟩ := J_wf h
  obtain ⟨hz, hN, e1⟩ := J_n h.2.1
  have hw := h.2.1.1
  have hL := h.1.1.2.2.2
  have hwf := h.1.1.1
  by_cases h1 : hasN (nI st.2.1.length) a = true
  · obtain ⟨i, hi', rfl⟩ := (has_iff (by omega)).mp h1
    have hv : cutV st.1 (st.2.1.getD i []) := h.1.1.2.1 _ (gD_mem hi')
    refine law_ro (y := exN st i 256) h ?_ (fun w1 hr => ?_)
    · obtain ⟨q, i1, W, rfl, hW, hF, hB⟩ := iter_I (body := Sp_exact_b24 0 (nI i)) (fun j s => ∃ W, s = (exN st i j, nI j, hp W) ∧ WL W ∧ Fr w W 20 33 ∧ bkOk W st.1) (fun r => ∃ W, r = (exN st i 256, nI 256, hp W) ∧ WL W ∧ Fr w W 20 33 ∧ bkOk W st.1) 256 (s0 := (0, 0, hp w)) (by omega) ⟨w, rfl, hw, Fr.rfl', h.2.1.2.1.2.2.1⟩ (by
        rintro j s hj ⟨W, rfl, hW, hF, hB⟩
        left
        have hcn : ¬ (256 : Int32) ≤ nI j := nI_ge (b := 256) hj (by omega)
        have egW : pdW W 2 = st.1 := by rw [← hg]; exact pd_fr hF (by omega)
        have hpl := Prog_isPlan_w (w := W) (plan := nI j) isPg_2 (by rw [egW]; exact hwf)
        rw [egW] at hpl
        have e : exN st i (j + 1) = if isPlanP st.1 (nI j) = true ∧ exP st i j = true then exN st i j + 1 else exN st i j := rfl
        simp only [Sp_exact_b24, Sp_exact_j57, if_neg hcn, c0_0, c1_0, k2, Option.bind_some, hpl, bnd2_some, nI_1]
        by_cases q1 : isPlanP st.1 (nI j) = true
        · rw [b2i_t q1, if_neg (by decide), k0, Option.bind_some]
          obtain ⟨V, f1, f2, f3, f4⟩ := Sp_fitsAt_w (i := i) (n := j) hW egW hwf (by omega) (by rw [ct_fr hF (by omega), ← hc]; exact (cutsW_get (by omega)).symm) hv hj hB
          rw [f1]
          simp only [bnd2_some]
          by_cases q2 : exP st i j = true
          · rw [if_pos ⟨q1, q2⟩] at e
            rw [b2i_t q2, if_neg (by decide)]
            exact ⟨_, rfl, V, by rw [e], f2, hF.tr f3, f4⟩
          · rw [if_neg (fun h => q2 h.2)] at e
            rw [b2i_f q2, if_pos (by decide)]
            exact ⟨_, rfl, V, by rw [e], f2, hF.tr f3, f4⟩
        · rw [b2i_f q1, if_pos (by decide)]
          rw [if_neg (fun h => q1 h.1)] at e
          exact ⟨_, rfl, W, by rw [e], hW, hF, hB⟩) (by
        rintro s ⟨W, rfl, hW, hF, hB⟩
        exact ⟨(exN st i 256, nI 256, hp W), by simp only [Sp_exact_b24, if_pos (show (256 : Int32) ≤ nI 256 by decide)], W, rfl, hW, hF, hB⟩)
      refine ⟨W, ?_, J_bk h.2.1 hW hF hB⟩
      unfold Sp_exact
      rw [if_neg (show ¬ nI i < 0 by rw [ti_lt, ti_0, nI_toInt (by omega)]; omega), c0_0, Option.bind_some, c1_1, Option.bind_some, c9_1, Option.bind_some, e1, if_pos (nI_lt hi' (by omega)), i1, Option.bind_some]
      simp only [Sp_exact_j63]
    · obtain ⟨mg, mc, ms, mo⟩ := J_md hr h.1
      have hn : mdN (w1.1 279) = st.2.1.length := hr.2.1.n
      have hcut := Mod_isCut_w (i := nI i) hr.1 mo
      rw [hn, b2i_t h1] at hcut
      obtain ⟨q, i1, W, rfl, hW, hF⟩ := iter_I (body := Mod_exact_b14 274 (nI i)) (fun j s => ∃ W, s = (exN st i j, nI j, hp W) ∧ WL W ∧ frS w1 W) (fun r => ∃ W, r = (exN st i 256, nI 256, hp W) ∧ WL W ∧ frS w1 W) 256 (s0 := (0, 0, hp w1)) (by omega) ⟨w1, rfl, hr.1, frS.rfl'⟩ (by
        rintro j s hj ⟨W, rfl, hW, hF⟩
        left
        have hcn : ¬ (256 : Int32) ≤ nI j := nI_ge (b := 256) hj (by omega)
        have f279 : W.1 279 = w1.1 279 := (hF.1 279 (by omega) (by omega)).1
        have fW : mdG (W.1 279) = st.1 := by rw [f279, mg]
        have hpl := Mod_isPlan_w (plan := nI j) hW (by rw [fW]; exact hwf)
        rw [fW] at hpl
        have e : exN st i (j + 1) = if isPlanP st.1 (nI j) = true ∧ exP st i j = true then exN st i j + 1 else exN st i j := rfl
        simp only [Mod_exact_b14, Mod_exact_j43, Mod_exact_j44, if_neg hcn, k274, Option.bind_some, hpl, bnd2_some, nI_1, Int32.add_zero]
        by_cases q1 : isPlanP st.1 (nI j) = true
        · rw [b2i_t q1, if_neg (by decide)]
          obtain ⟨V, f1, f2, f3⟩ := Mod_isExact_w (i := i) (n := j) (st := st) hW fW hwf (by omega) (by rw [f279, ← mc, mdC_get (by omega)]) hv hj
          rw [f1]
          simp only [bnd2_some]
          by_cases q2 : exP st i j = true
          · rw [if_pos ⟨q1, q2⟩] at e
            rw [b2i_t q2, if_neg (by decide)]
            exact ⟨_, rfl, V, by rw [e], f2, hF.tr f3⟩
          · rw [if_neg (fun h => q2 h.2)] at e
            rw [b2i_f q2, if_pos (by decide)]
            exact ⟨_, rfl, V, by rw [e], f2, hF.tr f3⟩
        · rw [b2i_f q1, if_pos (by decide)]
          rw [if_neg (fun h => q1 h.1)] at e
          exact ⟨_, rfl, W, by rw [e], hW, hF⟩) (by
        rintro s ⟨W, rfl, hW, hF⟩
        exact ⟨(exN st i 256, nI 256, hp W), by simp only [Mod_exact_b14, if_pos (show (256 : Int32) ≤ nI 256 by decide)], W, rfl, hW, hF⟩)
      refine ⟨W, ?_, hW, hF.M⟩
      unfold Mod_exact
      rw [k274, Option.bind_some, hcut, bnd2_some, if_pos (show ¬ (1 : Int32) = 0 by decide), i1, Option.bind_some]
      simp only [Mod_exact_j52]
  · refine law_pp (y := -1) h ?_ (fun w1 hr => ?_)
    · unfold Sp_exact
      by_cases h2 : a < 0
      · rw [if_pos h2]; rfl
      · rw [if_neg h2, c0_0, Option.bind_some, c1_1, Option.bind_some, c9_1, Option.bind_some, e1, if_neg]
        · rfl
        · intro h3
          apply h1
          unfold hasN
          rw [decide_eq_true_iff]
          exact ⟨h2, Int32.not_le.mpr h3⟩
    · obtain ⟨mg, mc, ms, mo⟩ := J_md hr h.1
      have hn : mdN (w1.1 279) = st.2.1.length := hr.2.1.n
      have hcut := Mod_isCut_w (i := a) hr.1 mo
      rw [hn, b2i_f h1] at hcut
      unfold Mod_exact
      rw [k274, Option.bind_some, hcut, bnd2_some, if_neg (fun hh => hh rfl)]
end Rd
