/-! go -/
section Rd
variable {w : Wd} {st : ST} {tm : List Int32} {x : Nat} {hi : List (ST × Int32)} {im : Nat → Option (ST × List Int32)} {rf : Nat → Int32} {ss : Int32} {tp : List Int32} {ft : Int32}
theorem cls_run (h : clsI w st tm x hi im rf ss tp ft) (he : egOk w 9 40 15 16) {k : Nat} (hk : k ≤ 99) : ∃ w', Eng_run 17 2 9 15 16 (nI k) (hp w) = some (nI (runP st.1 tm k st.2.1 st.2.2).1, hp w') ∧ clsI w' (st.1, (runP st.1 tm k st.2.1 st.2.2).2) tm x hi im rf ss tp ft ∧ Fr w w' 0 274 ∧ (runP st.1 tm k st.2.1 st.2.2).2.1.length ≤ 40 ∧ csOk st.1 (runP st.1 tm k st.2.1 st.2.2).2.1 ∧ srOk st.1 (runP st.1 tm k st.2.1 st.2.2).2.2 := by
  obtain ⟨hg, hc, hs⟩ := J_pd h
  have ht : w.1 16 = tm := h.2.2.1
  obtain ⟨w', a1, a2, a3, a4⟩ := Eng_run_w plOk_1 he hk
  rw [hg, hc, hs, ht] at a1 a4
  have p' : pdW w' 2 = st.1 := by rw [← hg]; exact a3.pd plOk_1
  obtain ⟨g1, g2, g3, g4, g5, g6, g7, g8, g9, g10, g11⟩ := a2
  obtain ⟨R, hR⟩ : ∃ R, R = (runP st.1 tm k st.2.1 st.2.2).2 := ⟨_, rfl⟩
  rw [← hR] at a4 ⊢
  have c1 : cutsW w' 9 = R.1 := by rw [← a4]
  have c2 : srW w' 15 = R.2 := by rw [← a4]
  rw [p', c1] at g6 g8
  rw [p', c2] at g7
  rw [p'] at g3
  have f : ∀ i, (i < 9 ∨ i = 16 ∨ 40 ≤ i) → w'.1 i = w.1 i ∧ w'.2 i = w.2 i := fun i hi => a3 i (by omega) (by omega) (by omega)
  obtain ⟨h0, ⟨h1, h2, h3, h4, h5⟩, h6, h7, h8, h9, h10⟩ := h
  refine ⟨w', a1, ⟨g1, ⟨⟨g5, g4⟩, ?_, g3, g8, by rw [(f 235 (by omega)).2]; exact h5⟩, by rw [(f 16 (by omega)).1]; exact h6, clsH_fr h7 (fun i a b => f i (by omega)), clsM_fr h8 (fun i h => f i (by omega)), ?_, ?_⟩, fun i hi => f i (by omega), ?_, g6, g7⟩
  · show (pdW w' 2, cutsW w' 9, srW w' 15) = (st.1, R)
    rw [p', c1, c2]
  · unfold clsR at h9 ⊢
    rw [(f 243 (by omega)).1, (f 0 (by omega)).2]; exact h9
  · unfold clsT at h10 ⊢
    rw [(f 41 (by omega)).1, (f 40 (by omega)).2]; exact h10
  · rw [← c1, cutsW_len]; exact g4.2
theorem call_go (h : lawJ w st tm x hi im rf ss tp ft) (v : Int32) : callOk w (Sp_go 0 v) (Mod_go 274 v) := by
  obtain ⟨hg, hc, hs⟩ := J_pd h.2.1
  obtain ⟨he, ht⟩ := J_eg h
  have s0 := J_sr h.2.1 (k := 0) (by omega)
  obtain ⟨t0, t1, t2, t3, t4⟩ := h.1.2.1
  have e1 : (1 : Int32).toInt = 1 := rfl
  have e99 : (99 : Int32).toInt = 99 := rfl
  have hin : isInP v 1 99 = true ↔ 1 ≤ v.toInt ∧ v.toInt ≤ 99 := by rw [isIn_iff, e1, e99]
  by_cases hv : 1 ≤ v.toInt ∧ v.toInt ≤ 99
  · obtain ⟨k, hk, rfl, hk2⟩ := i32_nat (i := v) (by omega)
    by_cases h0 : st.2.2.getD 0 0 = 0
    · obtain ⟨W, ok, d1, d2, d3, d4, d5, d6⟩ := Eng_one plOk_1 he
      rw [hg] at d4 d5
      rw [hc] at d5
      have pre : Sp_go 0 (nI k) (hp w) = bnd2 (some (b2i ok, hp W)) fun x15 h14 => (if ¬ x15 = 0 then (gfR h14 0 10 5).bind fun a16 => (gfR h14 0 10 0).bind fun a17 => (chk h14 a16 5).bind fun _ => bnd2 (Hist_keep a16 a17 8 h14) fun _ h18 => (gfR h18 0 10 2).bind fun a19 => (gfR h18 0 10 0).bind fun a20 => (gfR h18 a20 8 0).bind fun a21 => (gfR h18 0 10 0).bind fun a22 => (gfR h18 a22 8 1).bind fun a23 => (gfR h18 0 10 0).bind fun a24 => (gfR h18 a24 8 2).bind fun a25 => (gfR h18 0 10 1).bind fun a26 => (ald 0 h18 a26 1).bind fun x27 => (chk h18 a19 3).bind fun _ => bnd2 (Eng_apply a19 a21 a23 a25 x27 h18) fun x29 h28 => (gfR h28 0 10 2).bind fun a30 => (gfR h28 0 10 0).bind fun a31 => (gfR h28 a31 8 0).bind fun a32 => (gfR h28 0 10 0).bind fun a33 => (gfR h28 a33 8 1).bind fun a34 => (gfR h28 0 10 0).bind fun a35 => (gfR h28 a35 8 2).bind fun a36 => (gfR h28 0 10 1).bind fun a37 => (chk h28 a30 3).bind fun _ => bnd2 (Eng_run a30 a32 a34 a36 a37 (nI k - 1) h28) fun x39 h38 => (chk h38 0 10).bind fun _ => bnd2 (Sp_accept 0 (1 + x39) h38) fun x41 h40 => some (x41, h40) else (chk h14 0 10).bind fun _ => bnd2 (Sp_refuse 0 (-5) h14) fun x43 h42 => some (x43, h42)) := by
        unfold Sp_go
        rw [if_neg (show ¬ nI k < 1 by rw [ti_lt, e1]; omega), if_pos (show nI k ≤ 99 by rw [ti_le, e99]; omega), c0_0, Option.bind_some, c1_2, Option.bind_some, c15_0, Option.bind_some, s0, if_pos h0, c0_2, Option.bind_some, Option.bind_some, c1_0, Option.bind_some, Option.bind_some, c1_1, Option.bind_some, Option.bind_some, c1_2, Option.bind_some, c0_1, Option.bind_some, k17, Option.bind_some, d1]
      obtain ⟨R, hR⟩ : ∃ R, R = runP st.1 tm k st.2.1 st.2.2 := ⟨_, rfl⟩
      have refp : ∀ w1, refI w1 st tm x hi im rf ss tp ft → ∃ w2, WL w2 ∧ Fr w1 w2 274 292 ∧ w2.1 280 = w1.1 279 ∧ refI w2 (st.1, R.2) tm x hi im rf ss tp ft ∧ Mod_go 274 (nI k) (hp w1) = if ¬ nI R.1 = 0 then (chk (hp w2) 274 11).bind fun _ => bnd2 (Mod_keeps 274 8 (hp w2)) fun _ h16 => (chk h16 274 11).bind fun _ => bnd2 (Mod_tells 274 (nI R.1) h16) fun x18 h17 => some (x18, h17) else (chk (hp w2) 274 11).bind fun _ => bnd2 (Mod_refuses 274 (-5) (hp w2)) fun x20 h19 => some (x20, h19) := by
        intro w1 hr
        obtain ⟨w2, a2, b2, c2, k2, f2⟩ := Mod_keepsAhead_w hr.1
        have e276 : w2.1 276 = tm := by rw [(f2 276 (by omega)).1]; exact hr.2.2.1
        obtain ⟨okk, V, v1, v2, v3, v4, v5, v6, v7⟩ := Mod_go_loop (k := k) (by omega) b2 h.1.1.1 h.1.1.2.1 h.1.1.2.2.1 (by rw [(f2 279 (by omega)).1]; exact hr.2.1) (by rw [e276]; exact t3) (by rw [e276]; omega) (by rw [e276]; omega)
        rw [e276, ← hR] at v1 v5
        have hI2 : refI w2 st tm x hi im rf ss tp ft := refI_M hr b2 ⟨fun i i1 i2 i3 i4 => f2 i (by omega), fun k _ _ _ _ _ _ _ => by rw [k2]⟩
        obtain ⟨y1, y2⟩ := refI_R (st' := (st.1, R.2)) hI2 v2 v3 v4 v5
        have l3 : ald 0 (hp w1) 279 3 = some (st.2.2.getD 0 0) := by rw [ldN hr.1 (i := 3) (j := 3) rfl (by omega), hr.2.1.v.1]
        refine ⟨V, v2, (f2.mono (by omega) (by omega)).tr y2, by rw [(v3 280 (by omega) (by omega) (by omega) (by omega)).1, c2], y1, ?_⟩
        unfold Mod_go
        rw [Mod_isIn_w, bnd2_some, b2i_t (hin.mpr hv), if_pos (by decide), c274_5, Option.bind_some, l3, Option.bind_some, if_pos h0, k274, Option.bind_some, a2, bnd2_some, v1, Option.bind_some]
        simp only [Mod_go_j123]
      have hk1 : k = (k - 1) + 1 := by omega
      rcases d6 with ⟨rfl, hn⟩ | ⟨rfl, hd⟩
      · rw [hg, hc, hs, ht] at hn
        have eR : R = (0, st.2.1, st.2.2) := by
          rw [hR, hk1, runP, if_pos h0, hn]
        refine law_step (y := -5) (st' := st) (tm' := tm) (x' := x) (hi' := hi) (im' := im) (rf' := updR rf 4) (ss' := -5) (tp' := tp) (ft' := ft) h ?_ (fun w1 hr => ?_) h.1
        · obtain ⟨w3, a3, b3, f3⟩ := cls_refuse (clsI_E h.2.1 d2 d3 d4 (.inr d5)) (m := 4) (by omega) (b := -5) (by decide)
          refine ⟨w3, ?_, b3, (d3.mono (by omega) (by omega)).tr f3⟩
          rw [pre, bnd2_some, if_neg (fun hh => hh rfl), k0, Option.bind_some, a3, bnd2_some]
        · obtain ⟨w2, q1, q2, q3, q4, q5⟩ := refp w1 hr
          rw [eR] at q4
          obtain ⟨w5, z1, z2, z3⟩ := ref_refuse (st := st) q4 (m := 4) (by omega) (b := -5) (by decide)
          refine ⟨w5, ?_, z2, q2.tr z3⟩
          rw [q5, eR, if_neg (fun hh => hh rfl), k274, Option.bind_some, z1, bnd2_some]
      · obtain ⟨W1, W2, came, a1, a2, a3, a4, cs', sr', a5, a6, a7, a8⟩ := cls_done h hd 8
        have eR : R = ((runP st.1 tm (k - 1) cs' sr').1 + 1, (runP st.1 tm (k - 1) cs' sr').2) := by
          rw [hR, hk1, runP, if_pos h0, a5]
          simp only [Nat.add_sub_cancel]
        obtain ⟨w3, r1, r2, r3, r4, r5, r6⟩ := cls_run a6 a8 (k := k - 1) (by omega)
        obtain ⟨Q, hQ⟩ : ∃ Q, Q = runP st.1 tm (k - 1) cs' sr' := ⟨_, rfl⟩
        simp only at r1 r2 r4 r5 r6
        rw [← hQ] at r1 r2 r4 r5 r6 eR
        have e2 : 1 + nI Q.1 = nI (Q.1 + 1) := by
          rw [show (1 : Int32) + nI Q.1 = nI (1 + Q.1) from nI_add 1 _, Nat.add_comm]
        have ek : nI k - 1 = nI (k - 1) := nI_sb (b := 1) (by omega) hk
        refine law_step (y := nI (Q.1 + 1)) (st' := (st.1, Q.2)) (tm' := tm) (x' := nxt x) (hi' := push (st, 8) hi) (im' := im) (rf' := rf) (ss' := 0) (tp' := tp) (ft' := ft) h ?_ (fun w1 hr => ?_) (vA_push (st' := (st.1, Q.2)) h.1 ⟨h.1.1.1, r5, r6, r4⟩ 8 (by decide))
        · obtain ⟨w4, z1, z2, z3⟩ := cls_accept r2 (nI (Q.1 + 1))
          have l1 : ald 0 (hp W1) 16 1 = some (tm.getD 1 0) := by rw [ald_w (i := 1) (j := 1) s16 rfl (by rw [a2, t0]; omega) (by omega), a2]
          refine ⟨w4, ?_, z2, (a4.tr r3).tr z3⟩
          rw [pre, bnd2_some, if_pos (by decide), c0_5, Option.bind_some, c0_0, Option.bind_some, k49, Option.bind_some, a1, bnd2_some, c0_2, Option.bind_some, c0_0, Option.bind_some, c1_0, Option.bind_some, Option.bind_some, c1_1, Option.bind_some, Option.bind_some, c1_2, Option.bind_some, c0_1, Option.bind_some, l1, Option.bind_some, k17, Option.bind_some, a3, bnd2_some, c0_2, Option.bind_some, c0_0, Option.bind_some, c1_0, Option.bind_some, Option.bind_some, c1_1, Option.bind_some, Option.bind_some, c1_2, Option.bind_some, c0_1, Option.bind_some, k17, Option.bind_some, ek, r1, bnd2_some, k0, Option.bind_some, e2, z1, bnd2_some]
        · obtain ⟨w2, q1, q2, q3, q4, q5⟩ := refp w1 hr
          rw [eR] at q4
          obtain ⟨w4, v1, v2, v3⟩ := ref_keeps q4 h.1.2.2.1 h.1.2.2.2.1 (old := st) (by rw [q3]; exact hr.2.1) 8
          obtain ⟨w5, z1, z2, z3⟩ := ref_accept v2 (nI (Q.1 + 1))
          have hQ1 : Q.1 + 1 < 2 ^ 31 := by
            have hle : ∀ (n : Nat) (cs : List (List Int32)) (sr : List Int32), (runP st.1 tm n cs sr).1 ≤ n := by
              intro n
              induction n with
              | zero => intro cs sr; exact Nat.le_refl _
              | succ n ih =>
                intro cs sr
                rw [runP]
                by_cases hz : sr.getD 0 0 = 0
                · rw [if_pos hz]
                  cases rndP st.1 cs sr tm with
                  | none => exact Nat.zero_le _
                  | some r => exact Nat.succ_le_succ (ih _ _)
                · rw [if_neg hz]; exact Nat.zero_le _
            have := hle (k - 1) cs' sr'
            rw [← hQ] at this
            omega
          refine ⟨w5, ?_, z2, (q2.tr v3).tr z3⟩
          rw [q5, eR, if_pos (fun hh => by have := (nI_eq (b := 0) hQ1 (by omega)).mp hh; omega), k274, Option.bind_some, v1, bnd2_some, k274, Option.bind_some, z1, bnd2_some]
    · refine law_refuse (m := 2) (b := -3) h (by omega) (by decide) ?_ (fun w1 hr => ?_)
      · unfold Sp_go
        rw [if_neg (show ¬ nI k < 1 by rw [ti_lt, e1]; omega), if_pos (show nI k ≤ 99 by rw [ti_le, e99]; omega), c0_0, Option.bind_some, c1_2, Option.bind_some, c15_0, Option.bind_some, s0, if_neg h0, k0, Option.bind_some]
      · have l3 : ald 0 (hp w1) 279 3 = some (st.2.2.getD 0 0) := by rw [ldN hr.1 (i := 3) (j := 3) rfl (by omega), hr.2.1.v.1]
        unfold Mod_go
        rw [Mod_isIn_w, bnd2_some, b2i_t (hin.mpr hv), if_pos (by decide), c274_5, Option.bind_some, l3, Option.bind_some, if_neg h0, k274, Option.bind_some]
  · refine law_refuse (m := 0) (b := -1) h (by omega) (by decide) ?_ (fun w1 hr => ?_)
    · have j11 : Sp_go_j11 0 v (hp w) = bnd2 (Sp_refuse 0 (-1) (hp w)) (fun x h => some (x, h)) := by
        unfold Sp_go_j11
        rw [k0, Option.bind_some]
      unfold Sp_go
      by_cases hq : v < 1
      · rw [if_pos hq, j11]
      · rw [if_neg hq]
        rw [ti_lt, e1] at hq
        rw [if_neg (by rw [ti_le, e99]; omega), j11]
    · unfold Mod_go
      rw [Mod_isIn_w, bnd2_some, b2i_f (fun hh => hv (hin.mp hh)), if_neg (fun hh => hh rfl), k274, Option.bind_some]
end Rd
