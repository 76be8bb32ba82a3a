/-! round, both -/
section Rd
variable {w : Wd} {st : ST} {tm : List Int32} {x : Nat} {hi : List (ST × Int32)} {im : Nat → Option (ST × List Int32)} {rf : Nat → Int32} {ss : Int32} {tp : List Int32} {ft : Int32}
theorem refI_R {w w' : Wd} {st st' : ST} {tm : List Int32} {x : Nat} {hi : List (ST × Int32)} {im : Nat → Option (ST × List Int32)} {rf : Nat → Int32} {ss : Int32} {tp : List Int32} {ft : Int32} (h : refI w st tm x hi im rf ss tp ft) (hw' : WL w') (hF : ∀ i, i ≠ 274 → i ≠ 279 → i ≠ 281 → (i < 287 ∨ 291 ≤ i) → w'.1 i = w.1 i ∧ w'.2 i = w.2 i) (hf : ∀ k, k ≠ 21 → k ≠ 22 → k ≠ 27 → w'.2 274 k = w.2 274 k) (hr : rowX (w'.1 279) st') : refI w' st' tm x hi im rf ss tp ft ∧ Fr w w' 274 292 := by
  obtain ⟨h0, h1, h2, h3, h4, h5, h6, h7⟩ := h
  have f : ∀ i, i ≠ 274 → i ≠ 279 → i ≠ 281 → (i < 287 ∨ 291 ≤ i) → w'.1 i = w.1 i := fun i a b c d => (hF i a b c d).1
  refine ⟨⟨hw', hr, by rw [f 276 (by omega) (by omega) (by omega) (by omega)]; exact h2, by rw [f 277 (by omega) (by omega) (by omega) (by omega), f 278 (by omega) (by omega) (by omega) (by omega)]; exact h3, ?_, ?_, ?_, ?_⟩, fun i hi => hF i (by omega) (by omega) (by omega) (by omega)⟩
  · unfold refH at h4 ⊢
    rw [f 283 (by omega) (by omega) (by omega) (by omega), f 284 (by omega) (by omega) (by omega) (by omega), hf 13 (by omega) (by omega) (by omega), hf 14 (by omega) (by omega) (by omega)]
    exact h4
  · unfold refM at h5 ⊢
    rw [f 285 (by omega) (by omega) (by omega) (by omega), f 286 (by omega) (by omega) (by omega) (by omega)]
    exact h5
  · unfold refR at h6 ⊢
    rw [f 275 (by omega) (by omega) (by omega) (by omega), hf 0 (by omega) (by omega) (by omega)]
    exact h6
  · unfold refT at h7 ⊢
    rw [f 282 (by omega) (by omega) (by omega) (by omega), hf 9 (by omega) (by omega) (by omega), hf 10 (by omega) (by omega) (by omega)]
    exact h7
theorem call_round (h : lawJ w st tm x hi im rf ss tp ft) : callOk w (Sp_round 0) (Mod_round 274) := by
  obtain ⟨hg, hc, hs⟩ := J_pd h.2.1
  obtain ⟨he, ht⟩ := J_eg h
  have s0 := J_sr h.2.1 (k := 0) (by omega)
  obtain ⟨t0, t1, t2, t3, t4⟩ := h.1.2.1
  by_cases h0 : st.2.2.getD 0 0 = 0
  · obtain ⟨W, ok, d1, d2, d3, d4, d5, d6⟩ := Eng_one plOk_1 he
    rw [hg] at d4 d5
    rw [hc] at d5
    have pre : Sp_round 0 (hp w) = bnd2 (some (b2i ok, hp W)) fun x13 h12 => (if ¬ x13 = 0 then (gfR h12 0 10 5).bind fun a14 => (gfR h12 0 10 0).bind fun a15 => (chk h12 a14 5).bind fun _ => bnd2 (Hist_keep a14 a15 7 h12) fun _ h16 => (gfR h16 0 10 2).bind fun a17 => (gfR h16 0 10 0).bind fun a18 => (gfR h16 a18 8 0).bind fun a19 => (gfR h16 0 10 0).bind fun a20 => (gfR h16 a20 8 1).bind fun a21 => (gfR h16 0 10 0).bind fun a22 => (gfR h16 a22 8 2).bind fun a23 => (gfR h16 0 10 1).bind fun a24 => (ald 0 h16 a24 1).bind fun x25 => (chk h16 a17 3).bind fun _ => bnd2 (Eng_apply a17 a19 a21 a23 x25 h16) fun x27 h26 => (chk h26 0 10).bind fun _ => bnd2 (Sp_accept 0 x27 h26) fun x29 h28 => some (x29, h28) else (chk h12 0 10).bind fun _ => bnd2 (Sp_refuse 0 (-5) h12) fun x31 h30 => some (x31, h30)) := by
      unfold Sp_round
      rw [c0_0, Option.bind_some, c1_2, Option.bind_some, c15_0, Option.bind_some, s0, if_pos h0, c0_2, Option.bind_some, Option.bind_some, c1_0, Option.bind_some, Option.bind_some, c1_1, Option.bind_some, Option.bind_some, c1_2, Option.bind_some, c0_1, Option.bind_some, k17, Option.bind_some, d1]
    have refp : ∀ w1, refI w1 st tm x hi im rf ss tp ft → ∃ w2 w3 y, Mod_keepsAhead 274 (hp w1) = some ((), hp w2) ∧ Mod_goesRound 274 (hp w2) = some (y, hp w3) ∧ WL w3 ∧ Fr w1 w2 280 281 ∧ w2.2 = w1.2 ∧ frR w2 w3 ∧ w3.1 280 = w1.1 279 ∧ ((rndP st.1 st.2.1 st.2.2 tm = none ∧ y = -5) ∨ ∃ cs' sr', rndP st.1 st.2.1 st.2.2 tm = some (y, cs', sr') ∧ 0 ≤ y.toInt ∧ rowIs (w3.1 279) st.1 cs' sr' ∧ csOk st.1 cs' ∧ srOk st.1 sr') := by
      intro w1 hr
      obtain ⟨w2, a2, b2, c2, k2, e2⟩ := Mod_keepsAhead_w hr.1
      have e276 : w2.1 276 = tm := by rw [(e2 276 (by omega)).1]; exact hr.2.2.1
      obtain ⟨w3, y, q1, q2, q3, q4⟩ := Mod_rstep b2 h.1.1.1 h.1.1.2.1 h.1.1.2.2.1 (by rw [(e2 279 (by omega)).1]; exact hr.2.1) (by rw [e276]; exact t3) (by rw [e276]; omega) (by rw [e276]; omega) h0
      rw [e276] at q4
      exact ⟨w2, w3, y, a2, q1, q2, e2, k2, q3, by rw [(q3.1 280 (by omega) (by omega) (by omega)).1, c2], q4⟩
    have rpre : ∀ w1, refI w1 st tm x hi im rf ss tp ft → ∀ w2 w3 y, Mod_keepsAhead 274 (hp w1) = some ((), hp w2) → Mod_goesRound 274 (hp w2) = some (y, hp w3) → Mod_round 274 (hp w1) = (if 0 ≤ y then (chk (hp w3) 274 11).bind fun _ => bnd2 (Mod_keeps 274 7 (hp w3)) fun _ h6 => (chk h6 274 11).bind fun _ => bnd2 (Mod_tells 274 y h6) fun x8 h7 => some (x8, h7) else (gfR (hp w3) 274 11 6).bind fun a9 => (chk (hp w3) 274 11).bind fun _ => bnd2 (Mod_comesBack 274 a9 (hp w3)) fun _ h10 => (chk h10 274 11).bind fun _ => bnd2 (Mod_refuses 274 (-5) h10) fun x12 h11 => some (x12, h11)) := by
      intro w1 hr w2 w3 y q1 q2
      have l3 : ald 0 (hp w1) 279 3 = some (st.2.2.getD 0 0) := by rw [ldN hr.1 (i := 3) (j := 3) rfl (by omega), hr.2.1.v.1]
      unfold Mod_round
      rw [c274_5, Option.bind_some, l3, Option.bind_some, if_pos h0, k274, Option.bind_some, q1, bnd2_some, k274, Option.bind_some, q2, bnd2_some]
    rcases d6 with ⟨rfl, hn⟩ | ⟨rfl, hd⟩
    · rw [hg, hc, hs, ht] at hn
      refine law_step (y := -5) (st' := st) (tm' := tm) (x' := x) (hi' := hi) (im' := im) (rf' := updR rf 4) (ss' := -5) (tp' := tp) (ft' := ft) h ?_ (fun w1 hr => ?_) h.1
      · obtain ⟨w3, a3, b3, e3⟩ := cls_refuse (clsI_E h.2.1 d2 d3 d4 (.inr d5)) (m := 4) (by omega) (b := -5) (by decide)
        refine ⟨w3, ?_, b3, (d3.mono (by omega) (by omega)).tr e3⟩
        rw [pre, bnd2_some, if_neg (fun hh => hh rfl), k0, Option.bind_some, a3, bnd2_some]
      · obtain ⟨w2, w3, y, q1, q2, q3, q4, q5, q6, q7, q8⟩ := refp w1 hr
        rcases q8 with ⟨_, rfl⟩ | ⟨cs', sr', q8, _⟩
        · obtain ⟨w4, x1, x2, x3, x4, x5⟩ := Mod_comesBack_w (b := 280) q3 s280 rfl (by omega)
          have fq : frQ w1 w4 := by
            refine ⟨fun i i1 i2 i3 i4 => ?_, fun i hi => ?_, fun k k1 k2 k3 k4 k5 k6 k7 => ?_⟩
            · by_cases i9 : i = 279
              · subst i9; rw [x3, q7]
              · rw [(x5 i (by omega)).1, (q6.1 i i1 i9 (by omega)).1, (q4 i (by omega)).1]
            · rw [(x5 i (by omega)).2, (q6.1 i (by omega) (by omega) (by omega)).2, (q4 i (by omega)).2]
            · rw [x4, q6.2.2 k k5 k6 k7, q5]
          obtain ⟨y1, y2⟩ := refI_Q hr x2 fq
          obtain ⟨w5, z1, z2, z3⟩ := ref_refuse y1 (m := 4) (by omega) (b := -5) (by decide)
          refine ⟨w5, ?_, z2, y2.tr z3⟩
          rw [rpre w1 hr w2 w3 (-5) q1 q2, if_neg (by decide), c274_6, Option.bind_some, k274, Option.bind_some, x1, bnd2_some, k274, Option.bind_some, z1, bnd2_some]
        · rw [hn] at q8; exact absurd q8 (by simp)
    · obtain ⟨W1, W2, came, a1, a2, a3, a4, cs', sr', a5, a6, a7, a8⟩ := cls_done h hd 7
      obtain ⟨k1, k2⟩ := rnd_ok h.1.1.1 h.1.1.2.1 h.1.1.2.2.1 a5
      refine law_step (y := came) (st' := (st.1, cs', sr')) (tm' := tm) (x' := nxt x) (hi' := push (st, 7) hi) (im' := im) (rf' := rf) (ss' := 0) (tp' := tp) (ft' := ft) h ?_ (fun w1 hr => ?_) (vA_push (st' := (st.1, cs', sr')) h.1 ⟨h.1.1.1, k1, k2, a7⟩ 7 (by decide))
      · obtain ⟨w3, z1, z2, z3⟩ := cls_accept a6 came
        have l1 : ald 0 (hp W1) 16 1 = some (tm.getD 1 0) := by rw [ald_w (i := 1) (j := 1) s16 rfl (by rw [a2, t0]; omega) (by omega), a2]
        refine ⟨w3, ?_, z2, a4.tr z3⟩
        rw [pre, bnd2_some, if_pos (by decide), c0_5, Option.bind_some, c0_0, Option.bind_some, k49, Option.bind_some, a1, bnd2_some, c0_2, Option.bind_some, c0_0, Option.bind_some, c1_0, Option.bind_some, Option.bind_some, c1_1, Option.bind_some, Option.bind_some, c1_2, Option.bind_some, c0_1, Option.bind_some, l1, Option.bind_some, k17, Option.bind_some, a3, bnd2_some, k0, Option.bind_some, z1, bnd2_some]
      · obtain ⟨w2, w3, y, q1, q2, q3, q4, q5, q6, q7, q8⟩ := refp w1 hr
        rcases q8 with ⟨q8, _⟩ | ⟨cs2, sr2, q8, q9, q10, q11, q12⟩
        · rw [a5] at q8; exact absurd q8 (by simp)
        · rw [a5] at q8
          simp only [Option.some.injEq, Prod.mk.injEq] at q8
          obtain ⟨rfl, rfl, rfl⟩ := q8
          have hI2 : refI w2 st tm x hi im rf ss tp ft := refI_M hr (by
            intro i
            by_cases h280 : i = 280
            · subst h280
              have := q3 280
              rw [(q6.1 280 (by omega) (by omega) (by omega)).1] at this
              exact this
            · rw [(q4 i (by omega)).1]; exact hr.1 i) ⟨fun i i1 i2 i3 i4 => q4 i (by omega), fun k _ _ _ _ _ _ _ => by rw [q5]⟩
          obtain ⟨y1, y2⟩ := refI_R (st' := (st.1, cs', sr')) hI2 q3 (fun i i1 i2 _ i4 => q6.1 i i1 i2 i4) (fun k k1 k2 k3 => q6.2.2 k k1 k2 k3) q10
          obtain ⟨w4, v1, v2, v3⟩ := ref_keeps y1 h.1.2.2.1 h.1.2.2.2.1 (old := st) (by rw [q7]; exact hr.2.1) 7
          obtain ⟨w5, z1, z2, z3⟩ := ref_accept v2 came
          refine ⟨w5, ?_, z2, (((q4.mono (by omega) (by omega)).tr y2).tr v3).tr z3⟩
          rw [rpre w1 hr w2 w3 came q1 q2, if_pos (by rw [ti_le, ti_0]; exact q9), k274, Option.bind_some, v1, bnd2_some, k274, Option.bind_some, z1, bnd2_some]
  · refine law_refuse (m := 2) (b := -3) h (by omega) (by decide) ?_ (fun w1 hr => ?_)
    · unfold Sp_round
      rw [c0_0, Option.bind_some, c1_2, Option.bind_some, c15_0, Option.bind_some, s0, if_neg h0, k0, Option.bind_some]
    · have l3 : ald 0 (hp w1) 279 3 = some (st.2.2.getD 0 0) := by rw [ldN hr.1 (i := 3) (j := 3) rfl (by omega), hr.2.1.v.1]
      unfold Mod_round
      rw [c274_5, Option.bind_some, l3, Option.bind_some, if_neg h0, k274, Option.bind_some]
end Rd
