/-! plant, the call -/
section Rd
variable {w : Wd} {st : ST} {tm : List Int32} {x : Nat} {hi : List (ST × Int32)} {im : Nat → Option (ST × List Int32)} {rf : Nat → Int32} {ss : Int32} {tp : List Int32} {ft : Int32}
theorem call_plant (h : lawJ w st tm x hi im rf ss tp ft) (f s m : Int32) : callOk w (Sp_plant 0 f s m) (Mod_plant 274 f s m) := by
  obtain ⟨hg, hc, hs⟩ := J_pd h.2.1
  obtain ⟨hgv, hkv, c0, c1, c2⟩ := J_wf h
  have hwf := h.1.1.1
  have n0 := hwf.1.1.2
  have jc : Sp_plant_j33 0 f s m 2 (hp w) = bnd2 (Sp_refuse 0 (-1) (hp w)) (fun x h => some (x, h)) := by
    unfold Sp_plant_j33
    rw [k0, Option.bind_some]
  have jr : ∀ w1 : Wd, Mod_plant_j30 274 f s m (hp w1) = bnd2 (Mod_refuses 274 (-1) (hp w1)) (fun x h => some (x, h)) := by
    intro w1
    unfold Mod_plant_j30
    rw [k274, Option.bind_some]
  by_cases h1 : isInP f 0 999 = true
  · by_cases h2 : isInP s 1 20 = true
    · by_cases h3 : isInP m 0 3 = true
      · have r1 : rng 0 999 f := isIn_iff.mp h1
        have r2 : rng 1 20 s := isIn_iff.mp h2
        have r3 : rng 0 3 m := isIn_iff.mp h3
        have pre : Sp_plant 0 f s m (hp w) = (if nI (pNp st.1) < 4 then (gfR (hp w) 0 10 5).bind fun a12 => (gfR (hp w) 0 10 0).bind fun a13 => (chk (hp w) a12 5).bind fun _ => bnd2 (Hist_keep a12 a13 1 (hp w)) fun _ h14 => (chk h14 2 6).bind fun _ => bnd2 (Prog_addPlant 2 f s m h14) fun _ h15 => (gfR h15 0 10 2).bind fun a16 => (gfR h15 a16 3 0).bind fun a17 => (chk h15 a17 0).bind fun _ => bnd2 (Book_forgetAll a17 h15) fun _ h18 => (chk h18 0 10).bind fun _ => bnd2 (Sp_afterChange 0 h18) fun _ h19 => (gfI h19 2 6 0).bind fun x20 => (chk h19 0 10).bind fun _ => bnd2 (Sp_accept 0 (x20 - 1) h19) fun x22 h21 => some (x22, h21) else (chk (hp w) 0 10).bind fun _ => bnd2 (Sp_refuse 0 (-5) (hp w)) fun x24 h23 => some (x24, h23)) := by
          unfold Sp_plant
          rw [c0_0, Option.bind_some, c1_0, Option.bind_some, canBe_0, bnd2_some, b2i_t h1, if_neg (by decide), canBe_1, bnd2_some, b2i_t h2, if_neg (by decide), canBe_2, bnd2_some, b2i_t h3, if_pos (by decide), c2_0, Option.bind_some, c0, ← c0_0 (w := w)]
        have rpre : ∀ w1, refI w1 st tm x hi im rf ss tp ft → Mod_plant 274 f s m (hp w1) = (if ¬ nI (pNp st.1) = 4 then (chk (hp w1) 274 11).bind fun _ => bnd2 (Mod_keepsAhead 274 (hp w1)) fun _ h11 => (chk h11 274 11).bind fun _ => bnd2 (Mod_comesPlant 274 f s m h11) fun _ h12 => (gfR h12 274 11 5).bind fun a13 => (ald 0 h12 a13 0).bind fun x14 => (chk h12 274 11).bind fun _ => bnd2 (Mod_changed 274 1 (x14 - 1) h12) fun x16 h15 => some (x16, h15) else (chk (hp w1) 274 11).bind fun _ => bnd2 (Mod_refuses 274 (-5) (hp w1)) fun x18 h17 => some (x18, h17)) := by
          intro w1 hr
          obtain ⟨d0, d1, d2⟩ := R_n hr h.1
          have l0 : ald 0 (hp w1) 279 0 = some (nI (pNp st.1)) := by rw [ldN hr.1 (i := 0) (j := 0) rfl (by omega), d0]
          unfold Mod_plant
          rw [Mod_isIn_w, bnd2_some, b2i_t h1, if_neg (by decide), Mod_isIn_w, bnd2_some, b2i_t h2, if_neg (by decide), Mod_isIn_w, bnd2_some, b2i_t h3, if_pos (by decide), c274_5, Option.bind_some, l0, Option.bind_some]
        by_cases h4 : pNp st.1 < 4
        · obtain ⟨gw, gn⟩ := addPlant_wf hwf h4 r1 r2 r3
          have hnp : (pdAddPlant st.1 f s m).1 = nI (pNp st.1 + 1) := by rw [← gn]; exact gw.1.1.1
          have es : nI (pNp st.1 + 1) - 1 = nI (pNp st.1) := nI_sb (b := 1) (by omega) (by omega)
          refine law_step (y := nI (pNp st.1)) (st' := stC (pdAddPlant st.1 f s m) st.2.1) (tm' := tm) (x' := nxt x) (hi' := push (st, 1) hi) (im' := im) (rf' := rf) (ss' := 0) (tp' := tp) (ft' := ft) h ?_ (fun w1 hr => ?_) (vA_push h.1 (stC_V (g := st.1) gw (Nat.le_refl _) h.1.1.2.1 h.1.1.2.2.2) 1 (by decide))
          · obtain ⟨w1, a1, b1, e1⟩ := cls_keep h.2.1 1
            have g1 := (J_pd b1).1
            obtain ⟨w2, a2, b2, p2, e2⟩ := Prog_addPlant_w (f := f) (s := s) (m := m) isPg_2 b1.1 (by rw [g1]; exact hwf) (by rw [g1]; exact h4)
            rw [g1] at p2
            obtain ⟨w3, a3, b3, e3, k3⟩ := Book_forgetAll_w (g := pdAddPlant st.1 f s m) b2
            have p3 : pdW w3 2 = pdAddPlant st.1 f s m := by rw [← p2]; exact pd_fr e3 (by omega)
            obtain ⟨w4, a4, b4, e4, p4⟩ := cls_after b1 b3 gw p3 k3 (fun i h1 h2 => ⟨((e3 i (by omega)).1).trans (e2 i (by omega)).1, ((e3 i (by omega)).2).trans (e2 i (by omega)).2⟩)
            obtain ⟨w5, a5, b5, e5⟩ := cls_accept b4 (nI (pNp st.1))
            have q4 : w4.2 2 0 = nI (pNp st.1 + 1) := by rw [← hnp, ← p4]; rfl
            refine ⟨w5, ?_, b5, ((e1.mono (by omega) (by omega)).tr e4).tr e5⟩
            rw [pre, if_pos (show nI (pNp st.1) < 4 from nI_lt (b := 4) h4 (by omega)), c0_5, Option.bind_some, c0_0, Option.bind_some, k49, Option.bind_some, a1, bnd2_some, k2, Option.bind_some, a2, bnd2_some, c0_2, Option.bind_some, c17_0, Option.bind_some, k18, Option.bind_some, a3, bnd2_some, k0, Option.bind_some, a4, bnd2_some, c2_0, Option.bind_some, k0, Option.bind_some, q4, es, a5, bnd2_some]
          · obtain ⟨w2, a2, b2, c2', k2', e2⟩ := Mod_keepsAhead_w hr.1
            have hI2 : refI w2 st tm x hi im rf ss tp ft := refI_M hr b2 ⟨fun i i1 i2 i3 i4 => e2 i (by omega), fun k _ _ _ _ _ _ _ => by rw [k2']⟩
            obtain ⟨w3, a3, b3, r3', e3⟩ := ref_comesPlant (f := f) (s := s) (m := m) b2 hwf h4 hI2.2.1
            have hI3 : refI w3 (pdAddPlant st.1 f s m, st.2.1, st.2.2) tm x hi im rf ss tp ft := refI_row hI2 b3 e3 r3'
            obtain ⟨w4, a4, b4, e4⟩ := ref_changed hI3 gw h.1.2.2.1 h.1.2.2.2.1 (old := st) (by rw [(e3 280 (by omega)).1, c2']; exact hr.2.1) 1 (nI (pNp st.1))
            have l3 : ald 0 (hp w3) 279 0 = some (nI (pNp st.1 + 1)) := by
              rw [ldN b3 (i := 0) (j := 0) rfl (by omega), ← hnp, ← r3'.1]; rfl
            refine ⟨w4, ?_, b4, ((e2.mono (by omega) (by omega)).tr (e3.mono (by omega) (by omega))).tr e4⟩
            rw [rpre w1 hr, if_pos (fun hh => by have := (nI_eq (b := 4) (by omega) (by omega)).mp hh; omega), k274, Option.bind_some, a2, bnd2_some, k274, Option.bind_some, a3, bnd2_some, c274_5, Option.bind_some, l3, Option.bind_some, k274, Option.bind_some, es, a4, bnd2_some]
        · have e4 : pNp st.1 = 4 := by omega
          refine law_refuse (m := 4) (b := -5) h (by omega) (by decide) ?_ (fun w1 hr => ?_)
          · rw [pre, e4, if_neg (by decide), k0, Option.bind_some]
          · rw [rpre w1 hr, e4, if_neg (fun hh => hh rfl), k274, Option.bind_some]
      · refine law_refuse (m := 0) (b := -1) h (by omega) (by decide) ?_ (fun w1 hr => ?_)
        · unfold Sp_plant
          rw [c0_0, Option.bind_some, c1_0, Option.bind_some, canBe_0, bnd2_some, b2i_t h1, if_neg (by decide), canBe_1, bnd2_some, b2i_t h2, if_neg (by decide), canBe_2, bnd2_some, b2i_f h3, if_neg (fun hh => hh rfl), jc]
        · unfold Mod_plant
          rw [Mod_isIn_w, bnd2_some, b2i_t h1, if_neg (by decide), Mod_isIn_w, bnd2_some, b2i_t h2, if_neg (by decide), Mod_isIn_w, bnd2_some, b2i_f h3, if_neg (fun hh => hh rfl), jr]
    · refine law_refuse (m := 0) (b := -1) h (by omega) (by decide) ?_ (fun w1 hr => ?_)
      · unfold Sp_plant
        rw [c0_0, Option.bind_some, c1_0, Option.bind_some, canBe_0, bnd2_some, b2i_t h1, if_neg (by decide), canBe_1, bnd2_some, b2i_f h2, if_pos rfl, jc]
      · unfold Mod_plant
        rw [Mod_isIn_w, bnd2_some, b2i_t h1, if_neg (by decide), Mod_isIn_w, bnd2_some, b2i_f h2, if_pos rfl, jr]
  · refine law_refuse (m := 0) (b := -1) h (by omega) (by decide) ?_ (fun w1 hr => ?_)
    · unfold Sp_plant
      rw [c0_0, Option.bind_some, c1_0, Option.bind_some, canBe_0, bnd2_some, b2i_f h1, if_pos rfl, jc]
    · unfold Mod_plant
      rw [Mod_isIn_w, bnd2_some, b2i_f h1, if_pos rfl, jr]
end Rd
