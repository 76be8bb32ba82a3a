/-! road -/
def gRoad (g : PD) (p s : Nat) (v : Int32) : PD := (g.1, g.2.1, g.2.2.1, g.2.2.2.1, g.2.2.2.2.1, g.2.2.2.2.2.1, g.2.2.2.2.2.2.1.set (p * 6 + s) v, g.2.2.2.2.2.2.2)
theorem gRoad_wf {g : PD} {p s : Nat} {v : Int32} (hg : wfP g) (hp' : p < pNp g) (hs : s < pNs g) (hv : rng (-1) 99 v) : wfP (gRoad g p s v) := by
  obtain ⟨⟨h1, h2, h3⟩, ⟨l1, l2, l3, l4, l5, l6⟩, h5, h6, h7, h8, h9, h10, h11, h12, h13⟩ := hg
  have n0 := h1.2
  have n1 := h2.2
  have eT : ∀ q t, q < 4 → t < 6 → pToll (gRoad g p s v) q t = if p = q ∧ s = t then v else pToll g q t := by
    intro q t hq ht
    show (g.2.2.2.2.2.2.1.set (p * 6 + s) v).getD (q * 6 + t) 0 = _
    rw [gD_set, l4]
    by_cases he : p = q ∧ s = t
    · rw [if_pos he, if_pos (by omega)]
    · rw [if_neg he, if_neg (by omega)]; rfl
  refine ⟨⟨h1, h2, h3⟩, ⟨l1, l2, l3, by show (g.2.2.2.2.2.2.1.set (p * 6 + s) v).length = 24; rw [List.length_set]; exact l4, l5, l6⟩, h5, h6, h7, fun q t hq ht => ?_, fun q t hq ht ho => ?_, h10, h11, h12, h13⟩
  · rw [eT q t hq ht]
    by_cases he : p = q ∧ s = t
    · rw [if_pos he]; exact hv
    · rw [if_neg he]; exact h8 q t hq ht
  · rw [eT q t hq ht, if_neg (by
      rintro ⟨rfl, rfl⟩
      have ho' : pNp g ≤ p ∨ pNs g ≤ s := ho
      omega)]
    exact h9 q t hq ht ho
section Rd
variable {w : Wd} {st : ST} {tm : List Int32} {x : Nat} {hi : List (ST × Int32)} {im : Nat → Option (ST × List Int32)} {rf : Nat → Int32} {ss : Int32} {tp : List Int32} {ft : Int32}
theorem call_road (h : lawJ w st tm x hi im rf ss tp ft) (a b v : Int32) : callOk w (Sp_road 0 a b v) (Mod_road 274 a b v) := by
  obtain ⟨hg, hc, hs⟩ := J_pd h.2.1
  obtain ⟨hgv, hkv, c0, c1, c2⟩ := J_wf h
  have hwf := h.1.1.1
  have n0 := hwf.1.1.2
  have n1 := hwf.1.2.1.2
  have tm1 : (-1 : Int32).toInt = -1 := rfl
  have t99 : (99 : Int32).toInt = 99 := rfl
  have j20 : Sp_road_j20 0 a b v 2 (hp w) = bnd2 (Sp_refuse 0 (-1) (hp w)) (fun x h => some (x, h)) := by
    unfold Sp_road_j20
    rw [k0, Option.bind_some]
  have j44 : Sp_road_j44 0 a b v 2 (hp w) = bnd2 (Sp_refuse 0 (-2) (hp w)) (fun x h => some (x, h)) := by
    unfold Sp_road_j44
    rw [k0, Option.bind_some]
  have j32 : ∀ w1 : Wd, Mod_road_j32 274 a b v (hp w1) = bnd2 (Mod_refuses 274 (-2) (hp w1)) (fun x h => some (x, h)) := by
    intro w1
    unfold Mod_road_j32
    rw [k274, Option.bind_some]
  have hin : isInP v (-1) 99 = true ↔ -1 ≤ v.toInt ∧ v.toInt ≤ 99 := by rw [isIn_iff, tm1, t99]
  by_cases h1 : -1 ≤ v.toInt ∧ v.toInt ≤ 99
  · have pre1 : ¬ v < -1 := by rw [ti_lt, tm1]; omega
    have pre2 : v ≤ 99 := by rw [ti_le, t99]; omega
    have hpl := Prog_hasPlant_w (w := w) (i := a) isPg_2
    have hst := Prog_hasSite_w (w := w) (i := b) isPg_2
    rw [c0] at hpl
    rw [c1] at hst
    by_cases h2 : hasN (nI (pNp st.1)) a = true
    · by_cases h3 : hasN (nI (pNs st.1)) b = true
      · obtain ⟨p, hp', rfl⟩ := (has_iff (by omega)).mp h2
        obtain ⟨s, hs', rfl⟩ := (has_iff (by omega)).mp h3
        rw [b2i_t h2] at hpl
        rw [b2i_t h3] at hst
        have ei : nI p * 6 + nI s = nI (p * 6 + s) := nI_m6 p s
        have l6' : ald 0 (hp w) 6 (nI p * 6 + nI s) = some (pToll st.1 p s) := by
          rw [ald_w (j := p * 6 + s) s6 ei (by rw [l6 h.2.1.1]; omega) (by omega), ← hg]; rfl
        have rtoll : ∀ w1, refI w1 st tm x hi im rf ss tp ft → Mod_road 274 (nI p) (nI s) v (hp w1) = (if ¬ pToll st.1 p s = v then (chk (hp w1) 274 11).bind fun _ => bnd2 (Mod_keepsAhead 274 (hp w1)) fun _ h11 => (gfR h11 274 11 5).bind fun a12 => (ast 0 h11 a12 ((23 + (6 * nI p)) + nI s) v).bind fun h13 => (chk h13 274 11).bind fun _ => bnd2 (Mod_changed 274 3 (pToll st.1 p s + 1) h13) fun x15 h14 => some (x15, h14) else (chk (hp w1) 274 11).bind fun _ => bnd2 (Mod_refuses 274 (-4) (hp w1)) fun x17 h16 => some (x17, h16)) := by
          intro w1 hr
          obtain ⟨mg, mc, ms, mo⟩ := J_md hr h.1
          obtain ⟨d0, d1, d2⟩ := R_n hr h.1
          have q1 := Mod_isPlant_w (i := nI p) hr.1 mo.1
          have q2 := Mod_isSite_w (i := nI s) hr.1 mo.1
          have q3 := Mod_toll_w (p := p) (s := s) hr.1 (by omega) (by omega)
          rw [d0, b2i_t h2] at q1
          rw [d1, b2i_t h3] at q2
          rw [mg] at q3
          unfold Mod_road
          rw [Mod_isIn_w, bnd2_some, b2i_t (hin.mpr h1), if_pos (by decide), k274, Option.bind_some, q1, bnd2_some, if_neg (by decide), k274, Option.bind_some, q2, bnd2_some, if_pos (by decide), k274, Option.bind_some, q3, bnd2_some, k274]
        have cpre : Sp_road 0 (nI p) (nI s) v (hp w) = (if ¬ pToll st.1 p s = v then (gfR (hp w) 0 10 5).bind fun a13 => (gfR (hp w) 0 10 0).bind fun a14 => (chk (hp w) a13 5).bind fun _ => bnd2 (Hist_keep a13 a14 3 (hp w)) fun _ h15 => (gfR h15 2 6 6).bind fun a16 => (ast 0 h15 a16 ((nI p * 6) + nI s) v).bind fun h17 => (gfR h17 0 10 2).bind fun a18 => (gfR h17 a18 3 0).bind fun a19 => (chk h17 a19 0).bind fun _ => bnd2 (Book_forgetAll a19 h17) fun _ h20 => (chk h20 0 10).bind fun _ => bnd2 (Sp_afterChange 0 h20) fun _ h21 => (chk h21 0 10).bind fun _ => bnd2 (Sp_accept 0 (pToll st.1 p s + 1) h21) fun x23 h22 => some (x23, h22) else (chk (hp w) 0 10).bind fun _ => bnd2 (Sp_refuse 0 (-4) (hp w)) fun x25 h24 => some (x25, h24)) := by
          unfold Sp_road
          rw [c0_0, Option.bind_some, c1_0, Option.bind_some, if_neg pre1, if_pos pre2, k2, Option.bind_some, hpl, bnd2_some, if_neg (by decide), k2, Option.bind_some, hst, bnd2_some, if_pos (by decide), c2_6, Option.bind_some, l6', Option.bind_some, ← c0_0 (w := w)]
        by_cases h4 : pToll st.1 p s = v
        · refine law_refuse (m := 3) (b := -4) h (by omega) (by decide) ?_ (fun w1 hr => ?_)
          · rw [cpre, if_neg (fun hh => hh h4), k0, Option.bind_some]
          · rw [rtoll w1 hr, if_neg (fun hh => hh h4), k274, Option.bind_some]
        · have gw := gRoad_wf hwf hp' hs' h1
          refine law_step (y := pToll st.1 p s + 1) (st' := stC (gRoad st.1 p s v) st.2.1) (tm' := tm) (x' := nxt x) (hi' := push (st, 3) hi) (im' := im) (rf' := rf) (ss' := 0) (tp' := tp) (ft' := ft) h ?_ (fun w1 hr => ?_) (vA_push h.1 (stC_V (g := st.1) gw (Nat.le_refl _) h.1.1.2.1 h.1.1.2.2.2) 3 (by decide))
          · obtain ⟨w1, a1, b1, e1⟩ := cls_keep h.2.1 3
            have g1 := (J_pd b1).1
            obtain ⟨w2, a2, b2, c2', k2', e2⟩ := st_at (i := nI p * 6 + nI s) (x := v) (j := p * 6 + s) b1.1 s6 ei (show p * 6 + s < 24 by omega) (by omega)
            have p2 : pdW w2 2 = gRoad st.1 p s v := by
              rw [← g1]
              unfold pdW gRoad
              simp only
              rw [k2', (e2 (2 + 1) (by omega)).1, (e2 (2 + 2) (by omega)).1, (e2 (2 + 3) (by omega)).1, show (2 + 4 : Nat) = 6 from rfl, c2', (e2 (2 + 5) (by omega)).1, (e2 (2 + 6) (by omega)).1]
            obtain ⟨w3, a3, b3, e3, k3⟩ := Book_forgetAll_w (g := gRoad st.1 p s v) b2
            have p3 : pdW w3 2 = gRoad st.1 p s v := by rw [← p2]; exact pd_fr e3 (by omega)
            obtain ⟨w4, a4, b4, e4, p4⟩ := cls_after b1 b3 gw p3 k3 (fun i h1 h2 => ⟨((e3 i (by omega)).1).trans (e2 i (by omega)).1, ((e3 i (by omega)).2).trans (e2 i (by omega)).2⟩)
            obtain ⟨w5, a5, b5, e5⟩ := cls_accept b4 (pToll st.1 p s + 1)
            refine ⟨w5, ?_, b5, ((e1.mono (by omega) (by omega)).tr e4).tr e5⟩
            rw [cpre, if_pos h4, c0_5, Option.bind_some, c0_0, Option.bind_some, k49, Option.bind_some, a1, bnd2_some, c2_6, Option.bind_some, a2, Option.bind_some, c0_2, Option.bind_some, c17_0, Option.bind_some, k18, Option.bind_some, a3, bnd2_some, k0, Option.bind_some, a4, bnd2_some, k0, Option.bind_some, a5, bnd2_some]
          · obtain ⟨mg, mc, ms, mo⟩ := J_md hr h.1
            obtain ⟨w2, a2, b2, c2', k2', e2⟩ := Mod_keepsAhead_w hr.1
            have f2 : w2.1 279 = w1.1 279 := (e2 279 (by omega)).1
            have hI2 : refI w2 st tm x hi im rf ss tp ft := refI_M hr b2 ⟨fun i i1 i2 i3 i4 => e2 i (by omega), fun k _ _ _ _ _ _ _ => by rw [k2']⟩
            obtain ⟨w3, a3, b3, c3, k3, e3⟩ := st_at (i := 23 + 6 * nI p + nI s) (x := v) (j := 23 + 6 * p + s) b2 s279 (nI_abc 23 6 p s) (show 23 + 6 * p + s < 1427 by omega) (by omega)
            have r3 : rowIs (w3.1 279) (gRoad st.1 p s v) st.2.1 st.2.2 := by
              refine row_prog hI2.2.1 ?_ (fun k hk => by rw [c3, gD_set, if_neg (by omega)])
              rw [c3, f2]
              obtain ⟨r, hrr⟩ : ∃ r, r = w1.1 279 := ⟨_, rfl⟩
              have L : r.length = 1427 := by rw [hrr]; exact l279 hr.1
              rw [← hrr] at mg ⊢
              rw [show 23 + 6 * p + s = 23 + (p * 6 + s) by omega, ← mg]
              unfold gRoad mdG
              simp only
              rw [slc_off (a := 11) (by omega), slc_off (a := 15) (by omega), slc_off (a := 19) (by omega), slc_on (by omega) (by omega), slc_off (a := 47) (by omega), slc_off (a := 51) (by omega), gD_set, if_neg (by omega), gD_set, if_neg (by omega), gD_set, if_neg (by omega)]
            have hI3 : refI w3 (gRoad st.1 p s v, st.2.1, st.2.2) tm x hi im rf ss tp ft := refI_row hI2 b3 e3 r3
            obtain ⟨w4, a4, b4, e4⟩ := ref_changed hI3 gw h.1.2.2.1 h.1.2.2.2.1 (old := st) (by rw [(e3 280 (by omega)).1, c2']; exact hr.2.1) 3 (pToll st.1 p s + 1)
            refine ⟨w4, ?_, b4, ((e2.mono (by omega) (by omega)).tr (e3.mono (by omega) (by omega))).tr e4⟩
            rw [rtoll w1 hr, if_pos h4, k274, Option.bind_some, a2, bnd2_some, c274_5, Option.bind_some, a3, Option.bind_some, k274, Option.bind_some, a4, bnd2_some]
      · refine law_refuse (m := 1) (b := -2) h (by omega) (by decide) ?_ (fun w1 hr => ?_)
        · rw [b2i_t h2] at hpl
          rw [b2i_f h3] at hst
          unfold Sp_road
          rw [c0_0, Option.bind_some, c1_0, Option.bind_some, if_neg pre1, if_pos pre2, k2, Option.bind_some, hpl, bnd2_some, if_neg (by decide), k2, Option.bind_some, hst, bnd2_some, if_neg (fun hh => hh rfl), j44]
        · obtain ⟨mg, mc, ms, mo⟩ := J_md hr h.1
          obtain ⟨d0, d1, d2⟩ := R_n hr h.1
          have q1 := Mod_isPlant_w (i := a) hr.1 mo.1
          have q2 := Mod_isSite_w (i := b) hr.1 mo.1
          rw [d0, b2i_t h2] at q1
          rw [d1, b2i_f h3] at q2
          unfold Mod_road
          rw [Mod_isIn_w, bnd2_some, b2i_t (hin.mpr h1), if_pos (by decide), k274, Option.bind_some, q1, bnd2_some, if_neg (by decide), k274, Option.bind_some, q2, bnd2_some, if_neg (fun hh => hh rfl), j32]
    · refine law_refuse (m := 1) (b := -2) h (by omega) (by decide) ?_ (fun w1 hr => ?_)
      · rw [b2i_f h2] at hpl
        unfold Sp_road
        rw [c0_0, Option.bind_some, c1_0, Option.bind_some, if_neg pre1, if_pos pre2, k2, Option.bind_some, hpl, bnd2_some, if_pos rfl, j44]
      · obtain ⟨mg, mc, ms, mo⟩ := J_md hr h.1
        obtain ⟨d0, d1, d2⟩ := R_n hr h.1
        have q1 := Mod_isPlant_w (i := a) hr.1 mo.1
        rw [d0, b2i_f h2] at q1
        unfold Mod_road
        rw [Mod_isIn_w, bnd2_some, b2i_t (hin.mpr h1), if_pos (by decide), k274, Option.bind_some, q1, bnd2_some, if_pos rfl, j32]
  · refine law_refuse (m := 0) (b := -1) h (by omega) (by decide) ?_ (fun w1 hr => ?_)
    · unfold Sp_road
      rw [c0_0, Option.bind_some, c1_0, Option.bind_some]
      by_cases hq : v < -1
      · rw [if_pos hq, j20]
      · rw [if_neg hq]
        rw [ti_lt, tm1] at hq
        rw [if_neg (by rw [ti_le, t99]; omega), j20]
    · unfold Mod_road
      rw [Mod_isIn_w, bnd2_some, b2i_f (fun hh => h1 (hin.mp hh)), if_neg (fun hh => hh rfl), k274, Option.bind_some]
end Rd
