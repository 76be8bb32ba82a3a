/-! need, the call -/
section Rd
variable {w : Wd} {st : ST} {tm : List Int32} {x : Nat} {hi : List (ST × Int32)} {im : Nat → Option (ST × List Int32)} {rf : Nat → Int32} {ss : Int32} {tp : List Int32} {ft : Int32}
theorem call_need (h : lawJ w st tm x hi im rf ss tp ft) (a b v : Int32) : callOk w (Sp_need 0 a b v) (Mod_need 274 a b v) := by
  obtain ⟨hg, hc, hs⟩ := J_pd h.2.1
  obtain ⟨hgv, hkv, c0, c1, c2⟩ := J_wf h
  have hwf := h.1.1.1
  have n0 := hwf.1.2.2.2
  have n1 := hwf.1.2.1.2
  have t20 : (20 : Int32).toInt = 20 := rfl
  have j20 : Sp_need_j19 0 a b v 2 (hp w) = bnd2 (Sp_refuse 0 (-1) (hp w)) (fun x h => some (x, h)) := by
    unfold Sp_need_j19
    rw [k0, Option.bind_some]
  have j44 : Sp_need_j43 0 a b v 2 (hp w) = bnd2 (Sp_refuse 0 (-2) (hp w)) (fun x h => some (x, h)) := by
    unfold Sp_need_j43
    rw [k0, Option.bind_some]
  have j32 : ∀ w1 : Wd, Mod_need_j32 274 a b v (hp w1) = bnd2 (Mod_refuses 274 (-2) (hp w1)) (fun x h => some (x, h)) := by
    intro w1
    unfold Mod_need_j32 Mod_need_j56
    rw [k274, Option.bind_some]
  have hin : isInP v 0 20 = true ↔ 0 ≤ v.toInt ∧ v.toInt ≤ 20 := by rw [isIn_iff, ti_0, t20]
  by_cases h1 : 0 ≤ v.toInt ∧ v.toInt ≤ 20
  · have pre1 : ¬ v < 0 := by rw [ti_lt, ti_0]; omega
    have pre2 : v ≤ 20 := by rw [ti_le, t20]; omega
    have hpl := Prog_hasCase_w (w := w) (i := a) isPg_2
    have hst := Prog_hasSite_w (w := w) (i := b) isPg_2
    rw [c2] at hpl
    rw [c1] at hst
    by_cases h2 : hasN (nI (pNc st.1)) a = true
    · by_cases h3 : hasN (nI (pNs st.1)) b = true
      · obtain ⟨p, hp', rfl⟩ := (has_iff (by omega)).mp h2
        obtain ⟨s, hs', rfl⟩ := (has_iff (by omega)).mp h3
        rw [b2i_t h2] at hpl
        rw [b2i_t h3] at hst
        have ei : nI p * 6 + nI s = nI (p * 6 + s) := nI_m6 p s
        have l6' : ald 0 (hp w) 8 (nI p * 6 + nI s) = some (pNeed st.1 p s) := by
          rw [ald_w (j := p * 6 + s) s8 ei (by rw [l8 h.2.1.1]; omega) (by omega), ← hg]; rfl
        have rtoll : ∀ w1, refI w1 st tm x hi im rf ss tp ft → Mod_need 274 (nI p) (nI s) v (hp w1) = bnd2 (if ¬ pNeed st.1 p s = v then (chk (hp w1) 274 11).bind fun _ => bnd2 (Mod_keepsAhead 274 (hp w1)) fun _ h3 => (gfR h3 274 11 5).bind fun a4 => (ast 0 h3 a4 ((51 + (6 * nI p)) + nI s) v).bind fun h5 => (chk h5 274 11).bind fun _ => bnd2 (Mod_changed 274 5 (pNeed st.1 p s) h5) fun x7 h6 => some (x7, h6) else (chk (hp w1) 274 11).bind fun _ => bnd2 (Mod_refuses 274 (-4) (hp w1)) fun x9 h8 => some (x9, h8)) (fun x10 h9 => some (x10, h9)) := by
          intro w1 hr
          obtain ⟨mg, mc, ms, mo⟩ := J_md hr h.1
          obtain ⟨d0, d1, d2⟩ := R_n hr h.1
          have q1 := Mod_isCase_w (i := nI p) hr.1 mo.1
          have q2 := Mod_isSite_w (i := nI s) hr.1 mo.1
          rw [d2, b2i_t h2] at q1
          rw [d1, b2i_t h3] at q2
          have q3 : ald 0 (hp w1) 279 (51 + 6 * nI p + nI s) = some (pNeed st.1 p s) := by
            rw [ldN hr.1 (i := 51 + 6 * nI p + nI s) (j := 51 + 6 * p + s) (nI_abc 51 6 p s) (by omega), ← m_need (by omega) (by omega), mg]
          have q4 : Mod_tellsAt 274 5 (51 + 6 * nI p + nI s) v (hp w1) = (if ¬ pNeed st.1 p s = v then (chk (hp w1) 274 11).bind fun _ => bnd2 (Mod_keepsAhead 274 (hp w1)) fun _ h3 => (gfR h3 274 11 5).bind fun a4 => (ast 0 h3 a4 ((51 + (6 * nI p)) + nI s) v).bind fun h5 => (chk h5 274 11).bind fun _ => bnd2 (Mod_changed 274 5 (pNeed st.1 p s) h5) fun x7 h6 => some (x7, h6) else (chk (hp w1) 274 11).bind fun _ => bnd2 (Mod_refuses 274 (-4) (hp w1)) fun x9 h8 => some (x9, h8)) := by
            unfold Mod_tellsAt
            rw [c274_5, Option.bind_some, q3, Option.bind_some]
          rw [← q4]
          unfold Mod_need Mod_need_j56
          rw [Mod_isIn_w, bnd2_some, b2i_t (hin.mpr h1), if_pos (by decide), k274, Option.bind_some, q1, bnd2_some, if_neg (by decide), k274, Option.bind_some, q2, bnd2_some, if_pos (by decide), k274, Option.bind_some]
        have cpre : Sp_need 0 (nI p) (nI s) v (hp w) = (if ¬ pNeed st.1 p s = v then (gfR (hp w) 0 10 5).bind fun a13 => (gfR (hp w) 0 10 0).bind fun a14 => (chk (hp w) a13 5).bind fun _ => bnd2 (Hist_keep a13 a14 5 (hp w)) fun _ h15 => (gfR h15 2 6 8).bind fun a16 => (ast 0 h15 a16 ((nI p * 6) + nI s) v).bind fun h17 => (gfR h17 0 10 2).bind fun a18 => (gfR h17 a18 3 0).bind fun a19 => (chk h17 a19 0).bind fun _ => bnd2 (Book_forgetCase a19 (nI p) h17) fun _ h20 => (chk h20 0 10).bind fun _ => bnd2 (Sp_afterChange 0 h20) fun _ h21 => (chk h21 0 10).bind fun _ => bnd2 (Sp_accept 0 (pNeed st.1 p s) h21) fun x23 h22 => some (x23, h22) else (chk (hp w) 0 10).bind fun _ => bnd2 (Sp_refuse 0 (-4) (hp w)) fun x25 h24 => some (x25, h24)) := by
          unfold Sp_need
          rw [c0_0, Option.bind_some, c1_0, Option.bind_some, if_neg pre1, if_pos pre2, k2, Option.bind_some, hpl, bnd2_some, if_neg (by decide), k2, Option.bind_some, hst, bnd2_some, if_pos (by decide), c2_8, Option.bind_some, l6', Option.bind_some, ← c0_0 (w := w)]
        by_cases h4 : pNeed st.1 p s = v
        · refine law_refuse (m := 3) (b := -4) h (by omega) (by decide) ?_ (fun w1 hr => ?_)
          · rw [cpre, if_neg (fun hh => hh h4), k0, Option.bind_some]
          · rw [rtoll w1 hr, if_neg (fun hh => hh h4), k274, Option.bind_some]
            obtain ⟨w2, z1, _, _⟩ := ref_refuse hr (m := 3) (by omega) (b := -4) (by decide)
            rw [z1, bnd2_some, bnd2_some]
        · have gw := (gNeed_wf hwf hp' hs' h1).1
          refine law_step (y := pNeed st.1 p s) (st' := stC (gNeed st.1 p s v) st.2.1) (tm' := tm) (x' := nxt x) (hi' := push (st, 5) hi) (im' := im) (rf' := rf) (ss' := 0) (tp' := tp) (ft' := ft) h ?_ (fun w1 hr => ?_) (vA_push h.1 (stC_V (g := st.1) gw (Nat.le_refl _) h.1.1.2.1 h.1.1.2.2.2) 5 (by decide))
          · obtain ⟨w1, a1, b1, e1⟩ := cls_keep h.2.1 5
            have g1 := (J_pd b1).1
            obtain ⟨w2, a2, b2, c2', k2', e2⟩ := st_at (i := nI p * 6 + nI s) (x := v) (j := p * 6 + s) b1.1 s8 ei (show p * 6 + s < 24 by omega) (by omega)
            have p2 : pdW w2 2 = gNeed st.1 p s v := by
              rw [← g1]
              unfold pdW gNeed
              simp only
              rw [k2', (e2 (2 + 1) (by omega)).1, (e2 (2 + 2) (by omega)).1, (e2 (2 + 3) (by omega)).1, (e2 (2 + 4) (by omega)).1, (e2 (2 + 5) (by omega)).1, show (2 + 6 : Nat) = 8 from rfl, c2']
            obtain ⟨w3, a3, b3, e3, k3⟩ := Book_forgetCase_w (g := st.1) (g' := gNeed st.1 p s v) (c := p) b2 (by omega) (bkOk_fr b1.2.1.2.2.1 (e2 22 (by omega)).1 (e2 23 (by omega)).1 (e2 32 (by omega)).1) (fun c' hc' hne set => need_load hwf hp' hs' h1 hc' hne set) (fun c' hc' hne plan x hx => need_price hwf hp' hs' h1 hc' hne hx)
            have p3 : pdW w3 2 = gNeed st.1 p s v := by rw [← p2]; exact pd_fr e3 (by omega)
            obtain ⟨w4, a4, b4, e4, p4⟩ := cls_after b1 b3 gw p3 k3 (fun i h1 h2 => ⟨((e3 i (by omega)).1).trans (e2 i (by omega)).1, ((e3 i (by omega)).2).trans (e2 i (by omega)).2⟩)
            obtain ⟨w5, a5, b5, e5⟩ := cls_accept b4 (pNeed st.1 p s)
            refine ⟨w5, ?_, b5, ((e1.mono (by omega) (by omega)).tr e4).tr e5⟩
            rw [cpre, if_pos h4, c0_5, Option.bind_some, c0_0, Option.bind_some, k49, Option.bind_some, a1, bnd2_some, c2_8, Option.bind_some, a2, Option.bind_some, c0_2, Option.bind_some, c17_0, Option.bind_some, k18, Option.bind_some, a3, bnd2_some, k0, Option.bind_some, a4, bnd2_some, k0, Option.bind_some, a5, bnd2_some]
          · obtain ⟨mg, mc, ms, mo⟩ := J_md hr h.1
            obtain ⟨w2, a2, b2, c2', k2', e2⟩ := Mod_keepsAhead_w hr.1
            have f2 : w2.1 279 = w1.1 279 := (e2 279 (by omega)).1
            have hI2 : refI w2 st tm x hi im rf ss tp ft := refI_M hr b2 ⟨fun i i1 i2 i3 i4 => e2 i (by omega), fun k _ _ _ _ _ _ _ => by rw [k2']⟩
            obtain ⟨w3, a3, b3, c3, k3, e3⟩ := st_at (i := 51 + 6 * nI p + nI s) (x := v) (j := 51 + 6 * p + s) b2 s279 (nI_abc 51 6 p s) (show 51 + 6 * p + s < 1427 by omega) (by omega)
            have r3 : rowIs (w3.1 279) (gNeed st.1 p s v) st.2.1 st.2.2 := by
              refine row_prog hI2.2.1 ?_ (fun k hk => by rw [c3, gD_set, if_neg (by omega)])
              rw [c3, f2]
              obtain ⟨r, hrr⟩ : ∃ r, r = w1.1 279 := ⟨_, rfl⟩
              have L : r.length = 1427 := by rw [hrr]; exact l279 hr.1
              rw [← hrr] at mg ⊢
              rw [show 51 + 6 * p + s = 51 + (p * 6 + s) by omega, ← mg]
              unfold gNeed mdG
              simp only
              rw [slc_off (a := 11) (by omega), slc_off (a := 15) (by omega), slc_off (a := 19) (by omega), slc_off (a := 23) (by omega), slc_off (a := 47) (by omega), slc_on (by omega) (by omega), gD_set, if_neg (by omega), gD_set, if_neg (by omega), gD_set, if_neg (by omega)]
            have hI3 : refI w3 (gNeed st.1 p s v, st.2.1, st.2.2) tm x hi im rf ss tp ft := refI_row hI2 b3 e3 r3
            obtain ⟨w4, a4, b4, e4⟩ := ref_changed hI3 gw h.1.2.2.1 h.1.2.2.2.1 (old := st) (by rw [(e3 280 (by omega)).1, c2']; exact hr.2.1) 5 (pNeed st.1 p s)
            refine ⟨w4, ?_, b4, ((e2.mono (by omega) (by omega)).tr (e3.mono (by omega) (by omega))).tr e4⟩
            rw [rtoll w1 hr, if_pos h4, k274, Option.bind_some, a2, bnd2_some, c274_5, Option.bind_some, a3, Option.bind_some, k274, Option.bind_some, a4, bnd2_some, bnd2_some]
      · refine law_refuse (m := 1) (b := -2) h (by omega) (by decide) ?_ (fun w1 hr => ?_)
        · rw [b2i_t h2] at hpl
          rw [b2i_f h3] at hst
          unfold Sp_need
          rw [c0_0, Option.bind_some, c1_0, Option.bind_some, if_neg pre1, if_pos pre2, k2, Option.bind_some, hpl, bnd2_some, if_neg (by decide), k2, Option.bind_some, hst, bnd2_some, if_neg (fun hh => hh rfl), j44]
        · obtain ⟨mg, mc, ms, mo⟩ := J_md hr h.1
          obtain ⟨d0, d1, d2⟩ := R_n hr h.1
          have q1 := Mod_isCase_w (i := a) hr.1 mo.1
          have q2 := Mod_isSite_w (i := b) hr.1 mo.1
          rw [d2, b2i_t h2] at q1
          rw [d1, b2i_f h3] at q2
          unfold Mod_need
          rw [Mod_isIn_w, bnd2_some, b2i_t (hin.mpr h1), if_pos (by decide), k274, Option.bind_some, q1, bnd2_some, if_neg (by decide), k274, Option.bind_some, q2, bnd2_some, if_neg (fun hh => hh rfl), j32]
    · refine law_refuse (m := 1) (b := -2) h (by omega) (by decide) ?_ (fun w1 hr => ?_)
      · rw [b2i_f h2] at hpl
        unfold Sp_need
        rw [c0_0, Option.bind_some, c1_0, Option.bind_some, if_neg pre1, if_pos pre2, k2, Option.bind_some, hpl, bnd2_some, if_pos rfl, j44]
      · obtain ⟨mg, mc, ms, mo⟩ := J_md hr h.1
        obtain ⟨d0, d1, d2⟩ := R_n hr h.1
        have q1 := Mod_isCase_w (i := a) hr.1 mo.1
        rw [d2, b2i_f h2] at q1
        unfold Mod_need
        rw [Mod_isIn_w, bnd2_some, b2i_t (hin.mpr h1), if_pos (by decide), k274, Option.bind_some, q1, bnd2_some, if_pos rfl, j32]
  · refine law_refuse (m := 0) (b := -1) h (by omega) (by decide) ?_ (fun w1 hr => ?_)
    · unfold Sp_need
      rw [c0_0, Option.bind_some, c1_0, Option.bind_some]
      by_cases hq : v < 0
      · rw [if_pos hq, j20]
      · rw [if_neg hq]
        rw [ti_lt, ti_0] at hq
        rw [if_neg (by rw [ti_le, t20]; omega), j20]
    · unfold Mod_need
      rw [Mod_isIn_w, bnd2_some, b2i_f (fun hh => h1 (hin.mp hh)), if_neg (fun hh => hh rfl), k274, Option.bind_some]
end Rd
