/-! change -/
def loC (k : Nat) : Int32 := if k = 1 then 1 else 0
def hiC (k : Nat) : Int32 := if k = 0 then 999 else if k = 1 then 20 else 3
theorem canBe_k {k : Nat} (hk : k < 3) {v : Int32} {h : AHeap} : Sp_canBe (nI k) v h = some (b2i (isInP v (loC k) (hiC k)), h) := by
  have : k = 0 ∨ k = 1 ∨ k = 2 := by omega
  rcases this with rfl | rfl | rfl
  · exact canBe_0
  · exact canBe_1
  · exact canBe_2
theorem canBe_n {a v : Int32} {h : AHeap} (ha : ¬ isInP a 0 2 = true) : Sp_canBe a v h = some (0, h) := by
  have t2 : (2 : Int32).toInt = 2 := rfl
  rw [isIn_iff, ti_0, t2] at ha
  unfold Sp_canBe swi
  by_cases h1 : a.toInt < 0
  · rw [if_pos h1, bz0, Option.bind_some]
  · rw [if_neg h1, List.getElem?_eq_none (by show 3 ≤ _; omega), Option.getD_none, bz0, Option.bind_some]
theorem Mod_change_k {k : Nat} (hk : k < 3) {a v : Int32} {h : AHeap} : Mod_change 274 a (nI k) v h = Mod_change_j41 274 a (nI k) v v (loC k) (hiC k) h := by
  have : k = 0 ∨ k = 1 ∨ k = 2 := by omega
  rcases this with rfl | rfl | rfl
  · unfold Mod_change
    rw [Mod_isIn_w, bnd2_some, b2i_t (by decide), if_neg (by decide), if_pos (by decide)]
    unfold Mod_change_j20
    rw [if_neg (by decide)]
    rfl
  · unfold Mod_change
    rw [Mod_isIn_w, bnd2_some, b2i_t (by decide), if_neg (by decide), if_neg (by decide)]
    unfold Mod_change_j20
    rw [if_pos (by decide), if_neg (by decide)]
    rfl
  · unfold Mod_change
    rw [Mod_isIn_w, bnd2_some, b2i_t (by decide), if_neg (by decide), if_pos (by decide)]
    unfold Mod_change_j20
    rw [if_pos (by decide), if_pos (by decide)]
    rfl
theorem setP_0 {g : PD} {p : Nat} {v : Int32} : pdSetPlant g p (nI 0) v = (g.1, g.2.1, g.2.2.1, g.2.2.2.1.set p v, g.2.2.2.2) := if_pos rfl
theorem setP_1 {g : PD} {p : Nat} {v : Int32} : pdSetPlant g p (nI 1) v = (g.1, g.2.1, g.2.2.1, g.2.2.2.1, g.2.2.2.2.1.set p v, g.2.2.2.2.2) := by
  unfold pdSetPlant
  rw [if_neg (by decide), if_pos (by decide)]
theorem setP_2 {g : PD} {p : Nat} {v : Int32} : pdSetPlant g p (nI 2) v = (g.1, g.2.1, g.2.2.1, g.2.2.2.1, g.2.2.2.2.1, g.2.2.2.2.2.1.set p v, g.2.2.2.2.2.2) := by
  unfold pdSetPlant
  rw [if_neg (by decide), if_neg (by decide)]
theorem setP_wf {g : PD} {p k : Nat} {v : Int32} (hg : wfP g) (hp' : p < pNp g) (hk : k < 3) (hv : rng (loC k).toInt (hiC k).toInt v) : wfP (pdSetPlant g p (nI k) v) ∧ pNc (pdSetPlant g p (nI k) v) = pNc g := by
  obtain ⟨⟨h1, h2, h3⟩, ⟨l1, l2, l3, l4⟩, h5, h6, h7, h8⟩ := hg
  have n0 := h1.2
  have hs : ∀ (l : List Int32) (q : Nat), l.length = 4 → (l.set p v).getD q 0 = if p = q then v else l.getD q 0 := by
    intro l q hl
    rw [gD_set, hl]
    by_cases e : p = q
    · rw [if_pos ⟨e, by omega⟩, if_pos e]
    · rw [if_neg (fun hh => e hh.1), if_neg e]
  have : k = 0 ∨ k = 1 ∨ k = 2 := by omega
  rcases this with rfl | rfl | rfl
  · rw [setP_0]
    have eF : ∀ q, pFee (g.1, g.2.1, g.2.2.1, g.2.2.2.1.set p v, g.2.2.2.2) q = if p = q then v else pFee g q := fun q => hs _ q l1
    refine ⟨⟨⟨h1, h2, h3⟩, ⟨by show (g.2.2.2.1.set p v).length = 4; rw [List.length_set]; exact l1, l2, l3, l4⟩, fun q hq => ?_, h6, fun q hq hq4 => ?_, h8⟩, rfl⟩
    · rw [eF]
      by_cases e : p = q
      · rw [if_pos e]; exact ⟨hv, (h5 q hq).2⟩
      · rw [if_neg e]; exact h5 q hq
    · have hq' : pNp g ≤ q := hq
      rw [eF, if_neg (by omega)]; exact h7 q hq hq4
  · rw [setP_1]
    have eF : ∀ q, pSize (g.1, g.2.1, g.2.2.1, g.2.2.2.1, g.2.2.2.2.1.set p v, g.2.2.2.2.2) q = if p = q then v else pSize g q := fun q => hs _ q l2
    have hv' : 1 ≤ v.toInt ∧ v.toInt ≤ 20 := hv
    refine ⟨⟨⟨h1, h2, h3⟩, ⟨l1, by show (g.2.2.2.2.1.set p v).length = 4; rw [List.length_set]; exact l2, l3, l4⟩, fun q hq => ?_, fun q hq => ?_, fun q hq hq4 => ?_, h8⟩, rfl⟩
    · rw [eF]
      by_cases e : p = q
      · rw [if_pos e]; exact ⟨(h5 q hq).1, ⟨by omega, by omega⟩, (h5 q hq).2.2⟩
      · rw [if_neg e]; exact h5 q hq
    · rw [eF]
      by_cases e : p = q
      · rw [if_pos e]; exact hv'
      · rw [if_neg e]; exact h6 q hq
    · have hq' : pNp g ≤ q := hq
      rw [eF, if_neg (by omega)]; exact h7 q hq hq4
  · rw [setP_2]
    have eF : ∀ q, pMost (g.1, g.2.1, g.2.2.1, g.2.2.2.1, g.2.2.2.2.1, g.2.2.2.2.2.1.set p v, g.2.2.2.2.2.2) q = if p = q then v else pMost g q := fun q => hs _ q l3
    refine ⟨⟨⟨h1, h2, h3⟩, ⟨l1, l2, by show (g.2.2.2.2.2.1.set p v).length = 4; rw [List.length_set]; exact l3, l4⟩, fun q hq => ?_, h6, fun q hq hq4 => ?_, h8⟩, rfl⟩
    · rw [eF]
      by_cases e : p = q
      · rw [if_pos e]; exact ⟨(h5 q hq).1, (h5 q hq).2.1, hv⟩
      · rw [if_neg e]; exact h5 q hq
    · have hq' : pNp g ≤ q := hq
      rw [eF, if_neg (by omega)]; exact h7 q hq hq4
theorem pv_row {r : List Int32} {p k : Nat} (hp' : p < 4) (hk : k < 3) : r.getD (11 + 4 * k + p) 0 = plantVal (mdG r) p (nI k) := by
  have : k = 0 ∨ k = 1 ∨ k = 2 := by omega
  unfold plantVal
  rcases this with rfl | rfl | rfl
  · rw [if_pos (show nI 0 = 0 from rfl), m_fee hp']
  · rw [if_neg (by decide), if_pos (show nI 1 = 1 from rfl), m_size hp']
  · rw [if_neg (by decide), if_neg (by decide), m_most hp']
theorem set_row {r : List Int32} {p k : Nat} {v : Int32} (L : r.length = 1427) (hp' : p < 4) (hk : k < 3) : mdG (r.set (11 + 4 * k + p) v) = pdSetPlant (mdG r) p (nI k) v := by
  have e : mdG (r.set (11 + 4 * k + p) v) = (r.getD 0 0, r.getD 1 0, r.getD 2 0, slc (r.set (11 + 4 * k + p) v) 11 4, slc (r.set (11 + 4 * k + p) v) 15 4, slc (r.set (11 + 4 * k + p) v) 19 4, slc r 23 24, slc r 47 4, slc r 51 24) := by
    unfold mdG
    rw [gD_set, if_neg (by omega), gD_set, if_neg (by omega), gD_set, if_neg (by omega), slc_off (a := 23) (by omega), slc_off (a := 47) (by omega), slc_off (a := 51) (by omega)]
  rw [e]
  have : k = 0 ∨ k = 1 ∨ k = 2 := by omega
  rcases this with rfl | rfl | rfl
  · rw [setP_0, show 11 + 4 * 0 + p = 11 + p by omega, slc_on (by omega) (by omega), slc_off (a := 15) (by omega), slc_off (a := 19) (by omega)]
    rfl
  · rw [setP_1, show 11 + 4 * 1 + p = 15 + p by omega, slc_on (a := 15) (by omega) (by omega), slc_off (a := 11) (by omega), slc_off (a := 19) (by omega)]
    rfl
  · rw [setP_2, show 11 + 4 * 2 + p = 19 + p by omega, slc_on (a := 19) (by omega) (by omega), slc_off (a := 11) (by omega), slc_off (a := 15) (by omega)]
    rfl
section Rd
variable {w : Wd} {st : ST} {tm : List Int32} {x : Nat} {hi : List (ST × Int32)} {im : Nat → Option (ST × List Int32)} {rf : Nat → Int32} {ss : Int32} {tp : List Int32} {ft : Int32}
theorem call_change (h : lawJ w st tm x hi im rf ss tp ft) (a b v : Int32) : callOk w (Sp_change 0 a b v) (Mod_change 274 a b v) := by
  obtain ⟨hg, hc, hs⟩ := J_pd h.2.1
  obtain ⟨hgv, hkv, c0, c1, c2⟩ := J_wf h
  have hwf := h.1.1.1
  have n0 := hwf.1.1.2
  have t2 : (2 : Int32).toInt = 2 := rfl
  have j47 : ∀ w1 : Wd, Mod_change_j47 274 a b v (hp w1) = bnd2 (Mod_refuses 274 (-1) (hp w1)) (fun x h => some (x, h)) := by
    intro w1
    unfold Mod_change_j47
    rw [k274, Option.bind_some]
  by_cases hb : isInP b 0 2 = true
  · have hb' := isIn_iff.mp hb
    rw [ti_0, t2] at hb'
    obtain ⟨k, hk, rfl, hk2⟩ := i32_nat (i := b) (by omega)
    have hk3 : k < 3 := by omega
    by_cases h1 : isInP v (loC k) (hiC k) = true
    · have hv : rng (loC k).toInt (hiC k).toInt v := isIn_iff.mp h1
      have hpl := Prog_hasPlant_w (w := w) (i := a) isPg_2
      rw [c0] at hpl
      by_cases h2 : hasN (nI (pNp st.1)) a = true
      · obtain ⟨p, hp', rfl⟩ := (has_iff (by omega)).mp h2
        rw [b2i_t h2] at hpl
        have hpv := Prog_plantValue_w (w := w) (p := p) (what := nI k) isPg_2 hgv (by omega)
        rw [hg] at hpv
        have rtoll : ∀ w1, refI w1 st tm x hi im rf ss tp ft → Mod_change 274 (nI p) (nI k) v (hp w1) = bnd2 (if ¬ plantVal st.1 p (nI k) = v then (chk (hp w1) 274 11).bind fun _ => bnd2 (Mod_keepsAhead 274 (hp w1)) fun _ h3 => (gfR h3 274 11 5).bind fun a4 => (ast 0 h3 a4 ((11 + (4 * nI k)) + nI p) v).bind fun h5 => (chk h5 274 11).bind fun _ => bnd2 (Mod_changed 274 6 (plantVal st.1 p (nI k)) h5) fun x7 h6 => some (x7, h6) else (chk (hp w1) 274 11).bind fun _ => bnd2 (Mod_refuses 274 (-4) (hp w1)) fun x9 h8 => some (x9, h8)) (fun x10 h9 => some (x10, h9)) := by
          intro w1 hr
          obtain ⟨mg, mc, ms, mo⟩ := J_md hr h.1
          obtain ⟨d0, d1, d2⟩ := R_n hr h.1
          have q1 := Mod_isPlant_w (i := nI p) hr.1 mo.1
          rw [d0, b2i_t h2] at q1
          have q3 : ald 0 (hp w1) 279 (11 + 4 * nI k + nI p) = some (plantVal st.1 p (nI k)) := by
            rw [ldN hr.1 (i := 11 + 4 * nI k + nI p) (j := 11 + 4 * k + p) (nI_abc 11 4 k p) (by omega), pv_row (by omega) hk3, mg]
          have q4 : Mod_tellsAt 274 6 (11 + 4 * nI k + nI p) v (hp w1) = (if ¬ plantVal st.1 p (nI k) = v then (chk (hp w1) 274 11).bind fun _ => bnd2 (Mod_keepsAhead 274 (hp w1)) fun _ h3 => (gfR h3 274 11 5).bind fun a4 => (ast 0 h3 a4 ((11 + (4 * nI k)) + nI p) v).bind fun h5 => (chk h5 274 11).bind fun _ => bnd2 (Mod_changed 274 6 (plantVal st.1 p (nI k)) h5) fun x7 h6 => some (x7, h6) else (chk (hp w1) 274 11).bind fun _ => bnd2 (Mod_refuses 274 (-4) (hp w1)) fun x9 h8 => some (x9, h8)) := by
            unfold Mod_tellsAt
            rw [c274_5, Option.bind_some, q3, Option.bind_some]
          rw [← q4, Mod_change_k hk3]
          unfold Mod_change_j41 Mod_change_j85
          rw [Mod_isIn_w, bnd2_some, b2i_t h1, if_pos (by decide), k274, Option.bind_some, q1, bnd2_some, if_pos (by decide), k274, Option.bind_some]
        have cpre : Sp_change 0 (nI p) (nI k) v (hp w) = (if ¬ plantVal st.1 p (nI k) = v then (gfR (hp w) 0 10 5).bind fun a9 => (gfR (hp w) 0 10 0).bind fun a10 => (chk (hp w) a9 5).bind fun _ => bnd2 (Hist_keep a9 a10 6 (hp w)) fun _ h11 => (chk h11 2 6).bind fun _ => bnd2 (Prog_setPlantValue 2 (nI p) (nI k) v h11) fun _ h12 => (gfR h12 0 10 2).bind fun a13 => (gfR h12 a13 3 0).bind fun a14 => (chk h12 a14 0).bind fun _ => bnd2 (Book_forgetAll a14 h12) fun _ h15 => (chk h15 0 10).bind fun _ => bnd2 (Sp_afterChange 0 h15) fun _ h16 => (chk h16 0 10).bind fun _ => bnd2 (Sp_accept 0 (plantVal st.1 p (nI k)) h16) fun x18 h17 => some (x18, h17) else (chk (hp w) 0 10).bind fun _ => bnd2 (Sp_refuse 0 (-4) (hp w)) fun x20 h19 => some (x20, h19)) := by
          unfold Sp_change
          rw [c0_0, Option.bind_some, c1_0, Option.bind_some, canBe_k hk3, bnd2_some, b2i_t h1, if_pos (by decide), k2, Option.bind_some, hpl, bnd2_some, if_pos (by decide), k2, Option.bind_some, hpv, bnd2_some, ← c0_0 (w := w)]
        by_cases h4 : plantVal st.1 p (nI k) = v
        · refine law_refuse (m := 3) (b := -4) h (by omega) (by decide) ?_ (fun w1 hr => ?_)
          · rw [cpre, if_neg (fun hh => hh h4), k0, Option.bind_some]
          · rw [rtoll w1 hr, if_neg (fun hh => hh h4), k274, Option.bind_some]
            obtain ⟨w2, z1, _, _⟩ := ref_refuse hr (m := 3) (by omega) (b := -4) (by decide)
            rw [z1, bnd2_some, bnd2_some]
        · obtain ⟨gw, gn⟩ := setP_wf hwf hp' hk3 hv
          refine law_step (y := plantVal st.1 p (nI k)) (st' := stC (pdSetPlant st.1 p (nI k) v) st.2.1) (tm' := tm) (x' := nxt x) (hi' := push (st, 6) hi) (im' := im) (rf' := rf) (ss' := 0) (tp' := tp) (ft' := ft) h ?_ (fun w1 hr => ?_) (vA_push h.1 (stC_V (g := st.1) gw (by omega) h.1.1.2.1 h.1.1.2.2.2) 6 (by decide))
          · obtain ⟨w1, a1, b1, e1⟩ := cls_keep h.2.1 6
            have g1 := (J_pd b1).1
            obtain ⟨w2, a2, b2, p2, e2⟩ := Prog_setPlantValue_w (w := w1) (p := p) (what := nI k) (v := v) isPg_2 b1.1 (by rw [g1]; exact hwf) (by omega)
            rw [g1] at p2
            obtain ⟨w3, a3, b3, e3, k3⟩ := Book_forgetAll_w (g := pdSetPlant st.1 p (nI k) v) b2
            have p3 : pdW w3 2 = pdSetPlant st.1 p (nI k) v := by rw [← p2]; exact pd_fr e3 (by omega)
            obtain ⟨w4, a4, b4, e4, p4⟩ := cls_after b1 b3 gw p3 k3 (fun i h1 h2 => ⟨((e3 i (by omega)).1).trans (e2 i (by omega)).1, ((e3 i (by omega)).2).trans (e2 i (by omega)).2⟩)
            obtain ⟨w5, a5, b5, e5⟩ := cls_accept b4 (plantVal st.1 p (nI k))
            refine ⟨w5, ?_, b5, ((e1.mono (by omega) (by omega)).tr e4).tr e5⟩
            rw [cpre, if_pos h4, c0_5, Option.bind_some, c0_0, Option.bind_some, k49, Option.bind_some, a1, bnd2_some, k2, Option.bind_some, a2, bnd2_some, c0_2, Option.bind_some, c17_0, Option.bind_some, k18, Option.bind_some, a3, bnd2_some, k0, Option.bind_some, a4, bnd2_some, k0, Option.bind_some, a5, bnd2_some]
          · obtain ⟨mg, mc, ms, mo⟩ := J_md hr h.1
            obtain ⟨w2, a2, b2, c2', k2', e2⟩ := Mod_keepsAhead_w hr.1
            have f2 : w2.1 279 = w1.1 279 := (e2 279 (by omega)).1
            have hI2 : refI w2 st tm x hi im rf ss tp ft := refI_M hr b2 ⟨fun i i1 i2 i3 i4 => e2 i (by omega), fun k _ _ _ _ _ _ _ => by rw [k2']⟩
            obtain ⟨w3, a3, b3, c3, k3, e3⟩ := st_at (i := 11 + 4 * nI k + nI p) (x := v) (j := 11 + 4 * k + p) b2 s279 (nI_abc 11 4 k p) (show 11 + 4 * k + p < 1427 by omega) (by omega)
            have r3 : rowIs (w3.1 279) (pdSetPlant st.1 p (nI k) v) st.2.1 st.2.2 := by
              refine row_prog hI2.2.1 ?_ (fun k' hk' => by rw [c3, gD_set, if_neg (by omega)])
              rw [c3, f2, set_row (l279 hr.1) (by omega) hk3, mg]
            have hI3 : refI w3 (pdSetPlant st.1 p (nI k) v, st.2.1, st.2.2) tm x hi im rf ss tp ft := refI_row hI2 b3 e3 r3
            obtain ⟨w4, a4, b4, e4⟩ := ref_changed hI3 gw h.1.2.2.1 h.1.2.2.2.1 (old := st) (by rw [(e3 280 (by omega)).1, c2']; exact hr.2.1) 6 (plantVal st.1 p (nI k))
            refine ⟨w4, ?_, b4, ((e2.mono (by omega) (by omega)).tr (e3.mono (by omega) (by omega))).tr e4⟩
            rw [rtoll w1 hr, if_pos h4, k274, Option.bind_some, a2, bnd2_some, c274_5, Option.bind_some, a3, Option.bind_some, k274, Option.bind_some, a4, bnd2_some, bnd2_some]
      · refine law_refuse (m := 1) (b := -2) h (by omega) (by decide) ?_ (fun w1 hr => ?_)
        · rw [b2i_f h2] at hpl
          unfold Sp_change
          rw [c0_0, Option.bind_some, c1_0, Option.bind_some, canBe_k hk3, bnd2_some, b2i_t h1, if_pos (by decide), k2, Option.bind_some, hpl, bnd2_some, if_neg (fun hh => hh rfl), k0, Option.bind_some]
        · obtain ⟨mg, mc, ms, mo⟩ := J_md hr h.1
          obtain ⟨d0, d1, d2⟩ := R_n hr h.1
          have q1 := Mod_isPlant_w (i := a) hr.1 mo.1
          rw [d0, b2i_f h2] at q1
          rw [Mod_change_k hk3]
          unfold Mod_change_j41 Mod_change_j85
          rw [Mod_isIn_w, bnd2_some, b2i_t h1, if_pos (by decide), k274, Option.bind_some, q1, bnd2_some, if_neg (fun hh => hh rfl), k274, Option.bind_some]
    · refine law_refuse (m := 0) (b := -1) h (by omega) (by decide) ?_ (fun w1 hr => ?_)
      · unfold Sp_change
        rw [c0_0, Option.bind_some, c1_0, Option.bind_some, canBe_k hk3, bnd2_some, b2i_f h1, if_neg (fun hh => hh rfl), k0, Option.bind_some]
      · rw [Mod_change_k hk3]
        unfold Mod_change_j41
        rw [Mod_isIn_w, bnd2_some, b2i_f h1, if_neg (fun hh => hh rfl), j47]
  · refine law_refuse (m := 0) (b := -1) h (by omega) (by decide) ?_ (fun w1 hr => ?_)
    · unfold Sp_change
      rw [c0_0, Option.bind_some, c1_0, Option.bind_some, canBe_n hb, bnd2_some, if_neg (fun hh => hh rfl), k0, Option.bind_some]
    · unfold Mod_change
      rw [Mod_isIn_w, bnd2_some, b2i_f hb, if_pos rfl, j47]
end Rd
