/-! calls that only ask: gap, rate, least, mean -/
theorem argC_spec {T : Nat → Int32} : ∀ n, n ≤ 256 → (argC T n).1 = -1 ∨ ∃ i, i < n ∧ (argC T n).1 = nI i ∧ (argC T n).2 = T i ∧ T i ≠ -1 := by
  intro n
  induction n with
  | zero => intro _; exact .inl rfl
  | succ n ih =>
    intro hn
    have up : ((argC T n).1 = -1 ∨ ∃ i, i < n ∧ (argC T n).1 = nI i ∧ (argC T n).2 = T i ∧ T i ≠ -1) → ((argC T n).1 = -1 ∨ ∃ i, i < n + 1 ∧ (argC T n).1 = nI i ∧ (argC T n).2 = T i ∧ T i ≠ -1) := by
      rintro (h | ⟨i, h1, h2⟩)
      · exact .inl h
      · exact .inr ⟨i, by omega, h2⟩
    show (if T n = -1 then argC T n else if (argC T n).1 = -1 then (nI n, T n) else if (argC T n).2 ≤ T n then argC T n else (nI n, T n)).1 = -1 ∨ ∃ i, i < n + 1 ∧ (if T n = -1 then argC T n else if (argC T n).1 = -1 then (nI n, T n) else if (argC T n).2 ≤ T n then argC T n else (nI n, T n)).1 = nI i ∧ (if T n = -1 then argC T n else if (argC T n).1 = -1 then (nI n, T n) else if (argC T n).2 ≤ T n then argC T n else (nI n, T n)).2 = T i ∧ T i ≠ -1
    by_cases h1 : T n = -1
    · rw [if_pos h1]; exact up (ih (by omega))
    · rw [if_neg h1]
      by_cases h2 : (argC T n).1 = -1
      · rw [if_pos h2]; exact .inr ⟨n, by omega, rfl, rfl, h1⟩
      · rw [if_neg h2]
        by_cases h3 : (argC T n).2 ≤ T n
        · rw [if_pos h3]; exact up (ih (by omega))
        · rw [if_neg h3]; exact .inr ⟨n, by omega, rfl, rfl, h1⟩
section Rd
variable {w : Wd} {st : ST} {tm : List Int32} {x : Nat} {hi : List (ST × Int32)} {im : Nat → Option (ST × List Int32)} {rf : Nat → Int32} {ss : Int32} {tp : List Int32} {ft : Int32}
theorem call_gap (h : lawJ w st tm x hi im rf ss tp ft) : callOk w (Sp_gap 0) (Mod_gap 274) := by
  have s1 := J_sr h.2.1 (k := 1) (by omega)
  have s2 := J_sr h.2.1 (k := 2) (by omega)
  obtain ⟨r1, r2⟩ := h.1.1.2.2.1
  by_cases h2 : st.2.2.getD 2 0 = -1
  · refine law_pp (y := -1) h ?_ (fun w1 hr => ?_)
    · simp only [Sp_gap, c0_0, c1_2, c15_1, c15_2, Option.bind_some, s2]
      rw [if_neg (fun hh => hh h2)]
    · obtain ⟨v3, v4, v5, v6, v7, v8, v10⟩ := hr.2.1.v
      have a5 : ald 0 (hp w1) 279 5 = some (st.2.2.getD 2 0) := by rw [ldN hr.1 (i := 5) (j := 5) rfl (by omega), v5]
      simp only [Mod_gap, Mod_gap_j21, c274_5, a5, Option.bind_some]
      rw [if_neg (fun hh => hh h2)]
  · have hlo : 0 ≤ (st.2.2.getD 1 0).toInt ∧ (st.2.2.getD 1 0).toInt ≤ (st.2.2.getD 2 0).toInt ∧ (st.2.2.getD 2 0).toInt < 16777216 := by
      rcases r2 with r2 | ⟨r3, n, hn, r4, r5, r6⟩
      · exact absurd r2 h2
      · rcases r1 with r1 | ⟨r1, r7, r8⟩
        · exact absurd r1 r3
        · have := r8 n hn r4 r5
          rw [r6]
          refine ⟨r1, this, ?_⟩
          rcases total_cases h.1.1.1 hn with t | ⟨_, _, _, t⟩
          · exact absurd t.1 r5
          · omega
    obtain ⟨l1, l2, l3⟩ := hlo
    have hgap : ∃ z : Int32, (∀ H : AHeap, Sp_bitsOfFloat (gapP (st.2.2.getD 1 0) (st.2.2.getD 2 0)) H = some (z, H)) ∧ (∀ H : AHeap, Jxf58ca_floatToIntBits (gapP (st.2.2.getD 1 0) (st.2.2.getD 2 0)) H = some (z, H)) := by
      unfold gapP
      by_cases hu : 0 < st.2.2.getD 2 0
      · rw [if_pos hu]
        rw [ti_lt, ti_0] at hu
        have es : (st.2.2.getD 2 0 - st.2.2.getD 1 0).toInt = (st.2.2.getD 2 0).toInt - (st.2.2.getD 1 0).toInt := ti_sub (by omega) (by omega)
        by_cases hd : (st.2.2.getD 2 0 - st.2.2.getD 1 0).toInt = 0
        · have : st.2.2.getD 2 0 - st.2.2.getD 1 0 = 0 := by rw [ti_eq, hd]; rfl
          rw [this, quo032 hu l3]
          exact ⟨0, fun H => Sp_bitsOfFloat_0, fun H => Jxf58ca_floatToIntBits_0⟩
        · obtain ⟨m, s, m1, m2, q1, q2, e⟩ := quo1_32 (a := st.2.2.getD 2 0 - st.2.2.getD 1 0) (b := st.2.2.getD 2 0) (by omega) (by omega) l3
          rw [e]
          exact ⟨(fl32 m s).toInt32, fun H => Sp_bitsOfFloat_w m1 m2 (by omega) (by omega), fun H => Jxf58ca_floatToIntBits_w m1 m2 (by omega) (by omega)⟩
      · rw [if_neg hu]
        exact ⟨0, fun H => Sp_bitsOfFloat_0, fun H => Jxf58ca_floatToIntBits_0⟩
    obtain ⟨z, z1, z2⟩ := hgap
    refine law_pp (y := z) h ?_ (fun w1 hr => ?_)
    · simp only [Sp_gap, c0_0, c1_2, c15_1, c15_2, Option.bind_some, s1, s2, Sp_gapBetween_w l1 l2 l3, bnd2_some, z1]
      rw [if_pos h2]
    · obtain ⟨v3, v4, v5, v6, v7, v8, v10⟩ := hr.2.1.v
      have a5 : ald 0 (hp w1) 279 5 = some (st.2.2.getD 2 0) := by rw [ldN hr.1 (i := 5) (j := 5) rfl (by omega), v5]
      simp only [Mod_gap, Mod_gap_j21, c274_5, a5, Option.bind_some, k274, Mod_gapNow_w hr.1 v4 v5 l1 l2 l3, bnd2_some, z2]
      rw [if_pos h2]
theorem call_least (h : lawJ w st tm x hi im rf ss tp ft) (v : Int32) : callOk w (Sp_least 0 v) (Mod_least 274 v) := by
  obtain ⟨hg, hc, hs⟩ := J_pd h.2.1
  obtain ⟨hgv, hkv, c0, c1, c2⟩ := J_wf h
  have hw := h.2.1.1
  have t1 : (1 : Int32).toInt = 1 := rfl
  by_cases hv : v = 0 ∨ v = 1
  · have ar := arg_eq (T := totT st.1) 256 (by omega) (fun i hi => totT_rng h.1.1.1 hi)
    have sp := argC_spec (T := totT st.1) 256 (by omega)
    refine law_ro (y := if (argC (totT st.1) 256).1 = -1 then -1 else if v = 1 then (argC (totT st.1) 256).1 else (argC (totT st.1) 256).2) h ?_ (fun w1 hr => ?_)
    · obtain ⟨W, b1, b2, b3, b4⟩ := Book_cheapestPlan_w hw hgv hkv
      rw [hg, chP_arg] at b1
      have hgW : pdW W 2 = pdW w 2 := pd_fr b3 (by omega)
      have e : Sp_least 0 v (hp w) = Sp_least_j11 0 v (hp w) := by
        unfold Sp_least
        by_cases v0 : v = 0
        · rw [if_pos v0]
        · rw [if_neg v0, if_pos (hv.resolve_left v0)]
      rw [e]
      simp only [Sp_least_j11, Sp_least_j39, c0_0, c0_2, c1_0, c17_0, k18, Option.bind_some, b1, bnd2_some]
      by_cases hm : (argC (totT st.1) 256).1 = -1
      · rw [if_pos hm, if_pos hm, hm]
        exact ⟨W, rfl, J_bk h.2.1 b2 b3 (by rw [← hg]; exact b4)⟩
      · rw [if_neg hm, if_neg hm]
        by_cases v1 : v = 1
        · rw [if_neg (fun hh => hh v1), if_pos v1]
          exact ⟨W, rfl, J_bk h.2.1 b2 b3 (by rw [← hg]; exact b4)⟩
        · rw [if_pos v1, if_neg v1]
          obtain ⟨i, i1, i2, i3, i4⟩ := sp.resolve_left hm
          obtain ⟨V, d1, d2, d3, d4⟩ := Book_totalAt_w (plan := i) b2 (by rw [hgW]; exact hgv) i1 (by rw [hgW]; exact b4)
          rw [hgW, hg] at d1
          rw [hgW, hg] at d4
          rw [i2, d1, i3]
          have : totT st.1 i = totalP st.1 (nI i) := by
            unfold totT
            unfold totT at i4
            by_cases hp : isPlanP st.1 (nI i) = true
            · rw [if_pos hp]
            · rw [if_neg hp] at i4; exact absurd rfl i4
          rw [this]
          simp only [bnd2_some]
          exact ⟨V, rfl, J_bk h.2.1 d2 (b3.tr d3) d4⟩
    · obtain ⟨mg, mc, ms, mo⟩ := J_md hr h.1
      have hin : isInP v 0 1 = true := by
        rw [isIn_iff, ti_0, t1]
        rcases hv with rfl | rfl
        · rw [ti_0]; omega
        · rw [t1]; omega
      obtain ⟨q, i1, W, rfl, hW, hF⟩ := iter_I (body := Mod_least_b19 274 v) (fun j s => ∃ W, s = ((argM (totT st.1) j).1, (argM (totT st.1) j).2, nI j, hp W) ∧ WL W ∧ frS w1 W) (fun r => ∃ W, r = ((argM (totT st.1) 256).1, (argM (totT st.1) 256).2, nI 256, hp W) ∧ WL W ∧ frS w1 W) 256 (s0 := ((-1), 1000000000, 0, hp w1)) (by omega) ⟨w1, rfl, hr.1, frS.rfl'⟩ (by
        rintro j s hj ⟨W, rfl, hW, hF⟩
        left
        have hcn : ¬ (256 : Int32) ≤ nI j := nI_ge (b := 256) hj (by omega)
        have fW : W.1 279 = w1.1 279 := (hF.1 279 (by omega) (by omega)).1
        have moW : wfP (mdG (W.1 279)) := by rw [fW]; exact mo.1
        have fin : ∀ V : Wd, WL V → frS w1 V → ∃ s', Mod_least_j46 274 v (argM (totT st.1) j).1 (argM (totT st.1) j).2 (nI j) (totT st.1 j) (hp V) = some (Sum.inl s') ∧ ∃ W, s' = ((argM (totT st.1) (j + 1)).1, (argM (totT st.1) (j + 1)).2, nI (j + 1), hp W) ∧ WL W ∧ frS w1 W := by
          intro V h1 h2
          have e : argM (totT st.1) (j + 1) = if totT st.1 j = -1 then argM (totT st.1) j else if totT st.1 j < (argM (totT st.1) j).2 then (nI j, totT st.1 j) else argM (totT st.1) j := rfl
          unfold Mod_least_j46
          by_cases q1 : totT st.1 j = -1
          · rw [if_pos q1] at e ⊢
            simp only [Mod_least_j69, nI_1]
            exact ⟨_, rfl, V, by rw [e], h1, h2⟩
          · rw [if_neg q1] at e ⊢
            by_cases q2 : totT st.1 j < (argM (totT st.1) j).2
            · rw [if_pos q2] at e ⊢
              simp only [Mod_least_j69, nI_1]
              exact ⟨_, rfl, V, by rw [e], h1, h2⟩
            · rw [if_neg q2] at e ⊢
              simp only [Mod_least_j69, nI_1]
              exact ⟨_, rfl, V, by rw [e], h1, h2⟩
        have ep := Mod_isPlan_w (plan := nI j) hW moW
        rw [fW, mg] at ep
        simp only [Mod_least_b19, if_neg hcn, k274, Option.bind_some, ep, bnd2_some]
        by_cases hpl : isPlanP st.1 (nI j) = true
        · rw [b2i_t hpl, if_neg (by decide)]
          obtain ⟨V, r1, r2, r3⟩ := Mod_totalOf_w (n := j) hW moW hj
          rw [fW, mg] at r1
          simp only [r1, bnd2_some]
          have e : totalP st.1 (nI j) = totT st.1 j := by unfold totT; rw [if_pos hpl]
          rw [e]
          exact fin V r2 (hF.tr r3)
        · rw [b2i_f hpl, if_pos (by decide)]
          have e : (-1 : Int32) = totT st.1 j := by unfold totT; rw [if_neg hpl]
          rw [e]
          exact fin W hW hF) (by
        rintro s ⟨W, rfl, hW, hF⟩
        exact ⟨((argM (totT st.1) 256).1, (argM (totT st.1) 256).2, nI 256, hp W), by simp only [Mod_least_b19, if_pos (show (256 : Int32) ≤ nI 256 by decide)], W, rfl, hW, hF⟩)
      refine ⟨W, ?_, hW, hF.M⟩
      simp only [Mod_least, Mod_least_j75, Mod_least_j85, Mod_least_j90, Mod_isIn_w, bnd2_some, b2i_t hin, if_pos (show ¬ (1 : Int32) = 0 by decide), i1, Option.bind_some]
      rw [ar.1]
      by_cases hm : (argC (totT st.1) 256).1 = -1
      · rw [if_pos hm, if_pos hm, hm]
      · rw [if_neg hm, if_neg hm]
        by_cases v1 : v = 1
        · rw [if_neg (fun hh => hh v1), if_pos v1]
        · rw [if_pos v1, if_neg v1]
          rcases ar.2 with ar | ar
          · exact absurd ar.1 hm
          · rw [ar.2]
  · have v0 : ¬ v = 0 := fun h => hv (.inl h)
    have v1 : ¬ v = 1 := fun h => hv (.inr h)
    refine law_pp (y := -1) h ?_ (fun w1 hr => ?_)
    · simp only [Sp_least, if_neg v0, if_neg v1]
    · have hin : ¬ isInP v 0 1 = true := by
        rw [isIn_iff, ti_0, t1]
        rw [ti_eq, ti_0] at v0
        rw [ti_eq, t1] at v1
        omega
      simp only [Mod_least, Mod_isIn_w, bnd2_some, b2i_f hin, not_true_eq_false, if_false]
theorem call_rate (h : lawJ w st tm x hi im rf ss tp ft) (a b d : Int32) : callOk w (Sp_rate 0 a b d) (Mod_rate 274 a b d) := by
  obtain ⟨hg, hc, hs⟩ := J_pd h.2.1
  obtain ⟨hgv, hkv, c0, c1, c2⟩ := J_wf h
  have hw := h.2.1.1
  have n0 := h.1.1.1.1.1.2
  have n1 := h.1.1.1.1.2.1.2
  have n2 := h.1.1.1.1.2.2.2
  have t4 : (4 : Int32).toInt = 4 := rfl
  by_cases h1 : hasN (nI (pNc st.1)) a = true
  · obtain ⟨c, hcn, rfl⟩ := (has_iff (by omega)).mp h1
    by_cases h2 : isPlanP st.1 b = true
    · obtain ⟨n, hn, rfl⟩ := plan_nat h2
      obtain ⟨U, V, hUV⟩ := rateR_ex h.1.1.1 (c := c) (plan := nI n) (by omega)
      obtain ⟨w1, b1, b2, b3, b4, b5⟩ := Frt_findRates_w (c := c) (plan := nI n) hw hgv (by omega) hkv.1
      rw [hg] at b4 b5
      obtain ⟨u1, u2⟩ := rateR_uni b5 hUV
      have hbk : WL w1 ∧ Fr w w1 17 40 ∧ bkOk w1 st.1 ∧ (w1.2 33 0 = 1 ∨ (w1.2 33 0 = 0 ∧ bdA w1 st.1 st.2.1)) := by
        refine J_bk h.2.1 b2 (b3.mono (by omega) (by omega)) ⟨b4, fun c' p' hc' hp' => ?_⟩
        rw [(b3 32 (by omega)).1]
        exact h.2.1.2.1.2.2.1.2 c' p' hc' hp'
      have L30 := l30 b2
      have L31 := l31 b2
      have hcase := Prog_hasCase_w (w := w) (i := nI c) isPg_2
      rw [c2, b2i_t h1] at hcase
      have hplan := Prog_isPlan_w (w := w) (plan := nI n) isPg_2 hgv
      rw [hg, b2i_t h2] at hplan
      have pre : Sp_rate 0 (nI c) (nI n) d (hp w) = if d < 0 then Sp_rate_j79 0 (nI c) (nI n) d 2 19 (hp w) else if 4 ≤ d then Sp_rate_j79 0 (nI c) (nI n) d 2 19 (hp w) else bnd2 (Prog_hasPlant 2 d (hp w)) fun x17 h16 => (if ¬ x17 = 0 then (chk h16 19 4).bind fun _ => bnd2 (Frt_findRates 19 2 (nI c) (nI n) h16) fun x19 h18 => (gfR h18 19 4 10).bind fun a20 => (ald 0 h18 a20 d).bind fun x21 => some (x21, h18) else some ((-1), h16)) := by
        simp only [Sp_rate, c0_0, c1_0, k2, Option.bind_some, hcase, bnd2_some, if_neg (show ¬ (1 : Int32) = 0 by decide), hplan, if_pos (show ¬ (1 : Int32) = 0 by decide), c0_2, c17_0, c18_0]
      have refp : ∀ w1, refI w1 st tm x hi im rf ss tp ft → ∃ w2, WL w2 ∧ frS w1 w2 ∧ (∀ p, p < 4 → (w2.1 287).getD p 0 = U p) ∧ (∀ s, s < 6 → (w2.1 288).getD s 0 = V s) ∧ Mod_rate 274 (nI c) (nI n) d (hp w1) = if b2i (hasN (nI (pNp st.1)) d) = 0 then (if b2i (isInP d 4 (nI (3 + pNs st.1))) = 0 then some (-1, hp w2) else (ald 0 (hp w2) 288 (d - 4)).bind fun x16 => some (x16, hp w2)) else (ald 0 (hp w2) 287 d).bind fun x18 => some (x18, hp w2) := by
        intro w1 hr
        obtain ⟨mg, mc, ms, mo⟩ := J_md hr h.1
        obtain ⟨d0, d1, d2⟩ := R_n hr h.1
        obtain ⟨w2, r1, r2, r3, r4, r5⟩ := Mod_solves_w (c := c) (n := n) hr.1 mo.1 (by omega) hn
        rw [mg] at r1 r4
        obtain ⟨v1, v2⟩ := rateR_uni r4 hUV
        refine ⟨w2, r2, r3, v1, v2, ?_⟩
        have f279 : w2.1 279 = w1.1 279 := (r3.1 279 (by omega) (by omega)).1
        have a0 : ald 0 (hp w2) 279 0 = some (nI (pNp st.1)) := by rw [ldN r2 (i := 0) (j := 0) rfl (by omega), f279, d0]
        have a1 : ald 0 (hp w2) 279 1 = some (nI (pNs st.1)) := by rw [ldN r2 (i := 1) (j := 1) rfl (by omega), f279, d1]
        have hcase := Mod_isCase_w (i := nI c) hr.1 mo.1
        rw [d2, b2i_t h1] at hcase
        have hplan := Mod_isPlan_w (plan := nI n) hr.1 mo.1
        rw [mg, b2i_t h2] at hplan
        have e3 : (3 : Int32) + nI (pNs st.1) = nI (3 + pNs st.1) := nI_add 3 _
        simp only [Mod_rate, Mod_rate_j77, k274, Option.bind_some, hcase, bnd2_some, if_neg (show ¬ (1 : Int32) = 0 by decide), hplan, if_pos (show ¬ (1 : Int32) = 0 by decide), r1, c274_5, a0, a1, Mod_isIn_w, isIn_has (show pNp st.1 ≤ 1000 by omega), c274_23, c274_24, e3]
      by_cases hd : hasN (nI (pNp st.1)) d = true
      · obtain ⟨p, hp', rfl⟩ := (has_iff (by omega)).mp hd
        refine law_ro (y := U p) h ⟨w1, ?_, hbk⟩ (fun w1 hr => ?_)
        · have hpl := Prog_hasPlant_w (w := w) (i := nI p) isPg_2
          rw [c0, b2i_t hd] at hpl
          have a : ald 0 (hp w1) 30 (nI p) = some (U p) := by rw [ald_w s30 rfl (by omega) (by omega)]; exact congrArg some (u1 p (by omega))
          rw [pre, if_neg (show ¬ nI p < 0 by rw [ti_lt, ti_0, nI_toInt (by omega)]; omega), if_neg (show ¬ 4 ≤ nI p by rw [ti_le, t4, nI_toInt (by omega)]; omega), hpl, bnd2_some, if_pos (show ¬ (1 : Int32) = 0 by decide), k19, Option.bind_some, b1, bnd2_some, c19_10, Option.bind_some, a, Option.bind_some]
        · obtain ⟨w2, r1, r2, r3, r4, r5⟩ := refp w1 hr
          have a : ald 0 (hp w2) 287 (nI p) = some (U p) := by rw [ald_w s287 rfl (by rw [l287 r1]; omega) (by omega)]; exact congrArg some (r3 p (by omega))
          refine ⟨w2, ?_, r1, r2.M⟩
          rw [r5, b2i_t hd, if_neg (by decide), a, Option.bind_some]
      · have hd' : d < 0 ∨ (4 ≤ d) ∨ (0 ≤ d.toInt ∧ d.toInt < 4 ∧ pNp st.1 ≤ d.toInt) := by
          by_cases d0 : d.toInt < 0
          · exact .inl (by rw [ti_lt, ti_0]; exact d0)
          · by_cases d4 : 4 ≤ d.toInt
            · exact .inr (.inl (by rw [ti_le, t4]; exact d4))
            · refine .inr (.inr ⟨by omega, by omega, ?_⟩)
              obtain ⟨k, hk, rfl, hk2⟩ := i32_nat (i := d) (by omega)
              by_cases hh : k < pNp st.1
              · exact absurd ((has_iff (by omega)).mpr ⟨k, hh, rfl⟩) hd
              · omega
        have hin : isInP d 4 (nI (3 + pNs st.1)) = true ↔ 4 ≤ d.toInt ∧ d.toInt < 4 + pNs st.1 := by
          rw [isIn_iff, t4, nI_toInt (by omega)]; omega
        by_cases hq : 4 ≤ d.toInt ∧ d.toInt < 4 + pNs st.1
        · obtain ⟨k, hk, rfl, hk2⟩ := i32_nat (i := d) (by omega)
          have ek : nI k - 4 = nI (k - 4) := nI_sb (b := 4) (by omega) hk
          refine law_ro (y := V (k - 4)) h ⟨w1, ?_, hbk⟩ (fun w1 hr => ?_)
          · have hpl := Prog_hasSite_w (w := w) (i := nI (k - 4)) isPg_2
            rw [c1, b2i_t ((has_iff (by omega)).mpr ⟨k - 4, by omega, rfl⟩)] at hpl
            have a : ald 0 (hp w1) 31 (nI (k - 4)) = some (V (k - 4)) := by rw [ald_w s31 rfl (by omega) (by omega)]; exact congrArg some (u2 (k - 4) (by omega))
            rw [pre, if_neg (show ¬ nI k < 0 by rw [ti_lt, ti_0]; omega), if_pos (show 4 ≤ nI k by rw [ti_le, t4]; omega)]
            unfold Sp_rate_j79
            rw [if_neg (show ¬ nI k < 4 by rw [ti_lt, t4]; omega), k2, Option.bind_some, ek, hpl, bnd2_some, if_pos (show ¬ (1 : Int32) = 0 by decide), k19, Option.bind_some, b1, bnd2_some, c19_11, Option.bind_some, a, Option.bind_some]
          · obtain ⟨w2, r1, r2, r3, r4, r5⟩ := refp w1 hr
            have a : ald 0 (hp w2) 288 (nI (k - 4)) = some (V (k - 4)) := by rw [ald_w s288 rfl (by rw [l288 r1]; omega) (by omega)]; exact congrArg some (r4 (k - 4) (by omega))
            refine ⟨w2, ?_, r1, r2.M⟩
            rw [r5, b2i_f hd, if_pos rfl, b2i_t (hin.mpr hq), if_neg (by decide), ek, a, Option.bind_some]
        · refine law_ro (y := -1) h ⟨w, ?_, h.2.1.1, Fr.rfl', h.2.1.2.1.2.2.1, h.2.1.2.1.2.2.2.1⟩ (fun w1 hr => ?_)
          · rw [pre]
            have j79 : Sp_rate_j79 0 (nI c) (nI n) d 2 19 (hp w) = some (-1, hp w) := by
              unfold Sp_rate_j79
              by_cases q4 : d < 4
              · rw [if_pos q4]; rfl
              · rw [if_neg q4]
                rw [ti_lt, t4] at q4
                obtain ⟨k, hk, rfl, hk2⟩ := i32_nat (i := d) (by omega)
                have ek : nI k - 4 = nI (k - 4) := nI_sb (b := 4) (by omega) hk
                have hpl := Prog_hasSite_w (w := w) (i := nI (k - 4)) isPg_2
                rw [c1, b2i_f (fun hh => by obtain ⟨j, hj, he⟩ := (has_iff (by omega)).mp hh; have := (nI_eq (by omega) (by omega)).mp he; omega)] at hpl
                rw [k2, Option.bind_some, ek, hpl, bnd2_some, if_neg (fun h => h rfl)]
                rfl
            by_cases q0 : d < 0
            · rw [if_pos q0, j79]
            · rw [if_neg q0]
              by_cases q4 : 4 ≤ d
              · rw [if_pos q4, j79]
              · have hpl := Prog_hasPlant_w (w := w) (i := d) isPg_2
                rw [c0, b2i_f hd] at hpl
                rw [if_neg q4, hpl, bnd2_some, if_neg (fun h => h rfl)]
          · obtain ⟨w2, r1, r2, r3, r4, r5⟩ := refp w1 hr
            refine ⟨w2, ?_, r1, r2.M⟩
            rw [r5, b2i_f hd, if_pos rfl, b2i_f (fun hh => hq (hin.mp hh)), if_pos rfl]
    · refine law_pp (y := -1) h ?_ (fun w1 hr => ?_)
      · have hcase := Prog_hasCase_w (w := w) (i := nI c) isPg_2
        rw [c2, b2i_t h1] at hcase
        have hplan := Prog_isPlan_w (w := w) (plan := b) isPg_2 hgv
        rw [hg, b2i_f h2] at hplan
        unfold Sp_rate
        rw [c0_0, Option.bind_some, c1_0, Option.bind_some, k2, Option.bind_some, hcase, bnd2_some, if_neg (by decide), k2, Option.bind_some, hplan, bnd2_some, if_neg (fun h => h rfl)]
        rfl
      · obtain ⟨mg, mc, ms, mo⟩ := J_md hr h.1
        obtain ⟨d0, d1, d2⟩ := R_n hr h.1
        have hcase := Mod_isCase_w (i := nI c) hr.1 mo.1
        rw [d2, b2i_t h1] at hcase
        have hplan := Mod_isPlan_w (plan := b) hr.1 mo.1
        rw [mg, b2i_f h2] at hplan
        unfold Mod_rate
        rw [k274, Option.bind_some, hcase, bnd2_some, if_neg (by decide), k274, Option.bind_some, hplan, bnd2_some, if_neg (fun h => h rfl)]
        rfl
  · refine law_pp (y := -1) h ?_ (fun w1 hr => ?_)
    · have hcase := Prog_hasCase_w (w := w) (i := a) isPg_2
      rw [c2, b2i_f h1] at hcase
      unfold Sp_rate
      rw [c0_0, Option.bind_some, c1_0, Option.bind_some, k2, Option.bind_some, hcase, bnd2_some, if_pos rfl]
      rfl
    · obtain ⟨mg, mc, ms, mo⟩ := J_md hr h.1
      obtain ⟨d0, d1, d2⟩ := R_n hr h.1
      have hcase := Mod_isCase_w (i := a) hr.1 mo.1
      rw [d2, b2i_f h1] at hcase
      unfold Mod_rate
      rw [k274, Option.bind_some, hcase, bnd2_some, if_pos rfl]
      rfl
end Rd
