/-! calls that change: site, clear -/
theorem vA_push {st st' : ST} {tm : List Int32} {x : Nat} {hi : List (ST × Int32)} {im : Nat → Option (ST × List Int32)} (hv : vA st tm x hi im) (h' : stV st') (act : Int32) (ha : act ≠ -1) : vA st' tm (nxt x) (push (st, act) hi) im := by
  obtain ⟨h1, h2, h3, h4, h5, h6⟩ := hv
  refine ⟨h', h2, nxt_lt h3, by rw [push_len h4]; split <;> omega, fun s hs => ?_, h6⟩
  rcases push_mem hs with rfl | hs
  · exact ⟨h1, ha⟩
  · exact h5 s hs
theorem slc_set {r : List Int32} {a n k : Nat} {x : Int32} (h : k < r.length) : slc (r.set k x) a n = if a ≤ k ∧ k < a + n then (slc r a n).set (k - a) x else slc r a n := by
  by_cases hk : a ≤ k ∧ k < a + n
  · rw [if_pos hk]
    apply ext_gD
    · rw [List.length_set]; unfold slc; simp
    · intro j hj
      have hj' : j < n := by
        rw [List.length_set] at hj
        unfold slc at hj
        rw [List.length_map, List.length_range] at hj
        exact hj
      rw [slc_get hj', gD_set, gD_set, slc_get hj']
      have hl : (slc r a n).length = n := by unfold slc; simp
      by_cases e : k = a + j
      · rw [if_pos ⟨e, h⟩, if_pos ⟨by omega, by omega⟩]
      · rw [if_neg (fun hh => e hh.1), if_neg (fun hh => e (by omega))]
  · rw [if_neg hk]
    exact slc_cg (fun j h1 h2 => by rw [gD_set, if_neg (by omega)])
theorem mdG_low {r : List Int32} {k : Nat} {x : Int32} (h : k < 3) : mdG (r.set k x) = ((r.set k x).getD 0 0, (r.set k x).getD 1 0, (r.set k x).getD 2 0, (mdG r).2.2.2) := by
  have s : ∀ a n, 3 ≤ a → slc (r.set k x) a n = slc r a n := fun a n ha => slc_cg (fun j h1 h2 => by rw [gD_set, if_neg (by omega)])
  unfold mdG
  rw [s 11 4 (by omega), s 15 4 (by omega), s 19 4 (by omega), s 23 24 (by omega), s 47 4 (by omega), s 51 24 (by omega)]
theorem row_prog {r r' : List Int32} {g g' : PD} {cs : List (List Int32)} {sr : List Int32} (h : rowIs r g cs sr) (hG : mdG r' = g') (hk : ∀ k, ((3 ≤ k ∧ k < 11) ∨ 75 ≤ k) → r'.getD k 0 = r.getD k 0) : rowIs r' g' cs sr := by
  refine ⟨hG, ?_, ?_, by rw [hk 9 (by omega)]; exact h.2.2.2.1, h.2.2.2.2⟩
  · rw [← h.2.1]
    exact mdC_cg (hk 9 (by omega)) (fun k h1 => hk k (by omega))
  · rw [← h.2.2.1]
    unfold mdS
    rw [hk 3 (by omega), hk 4 (by omega), hk 5 (by omega), hk 6 (by omega), hk 7 (by omega), hk 8 (by omega), hk 10 (by omega)]
section Rd
variable {w : Wd} {st : ST} {tm : List Int32} {x : Nat} {hi : List (ST × Int32)} {im : Nat → Option (ST × List Int32)} {rf : Nat → Int32} {ss : Int32} {tp : List Int32} {ft : Int32}
theorem law_refuse {C R : AHeap → Option (Int32 × AHeap)} (h : lawJ w st tm x hi im rf ss tp ft) {m : Nat} (hm : m < 6) {b : Int32} (hb : (-1) - b = nI m) (hC : C (hp w) = bnd2 (Sp_refuse 0 b (hp w)) (fun x h => some (x, h))) (hR : ∀ w1, refI w1 st tm x hi im rf ss tp ft → R (hp w1) = bnd2 (Mod_refuses 274 b (hp w1)) (fun x h => some (x, h))) : callOk w C R := by
  obtain ⟨w1, a1, a2, a3⟩ := cls_refuse h.2.1 hm hb
  refine law_step (y := b) h ⟨w1, by rw [hC, a1, bnd2_some], a2, a3⟩ (fun w1 hr => ?_) h.1
  obtain ⟨w2, b1, b2, b3⟩ := ref_refuse hr hm hb
  exact ⟨w2, by rw [hR w1 hr, b1, bnd2_some], b2, b3⟩
def gSite (g : PD) : PD := (g.1, g.2.1 + 1, g.2.2)
theorem gSite_wf {g : PD} (hg : wfP g) (h : pNs g < 6) : wfP (gSite g) ∧ pNs (gSite g) = pNs g + 1 := by
  have e : (gSite g).2.1 = nI (pNs g + 1) := by
    show g.2.1 + 1 = _
    rw [hg.1.2.1.1, nI_1]
  have en : pNs (gSite g) = pNs g + 1 := by unfold pNs; rw [e, nI_clamp (by omega)]; rfl
  obtain ⟨⟨h1, h2, h3⟩, h4, h5, h6, h7, h8, h9, h10, h11, h12, h13⟩ := hg
  refine ⟨⟨⟨h1, ⟨by rw [en]; exact e, by omega⟩, h3⟩, h4, h5, h6, h7, h8, fun p s hp' hs ho => h9 p s hp' hs ?_, h10, h11, h12, fun c s hc hs ho => h13 c s hc hs ?_⟩, en⟩
  · rcases ho with ho | ho
    · exact .inl ho
    · right; rw [en] at ho; omega
  · rcases ho with ho | ho
    · exact .inl ho
    · right; rw [en] at ho; omega
theorem call_site (h : lawJ w st tm x hi im rf ss tp ft) : callOk w (Sp_site 0) (Mod_site 274) := by
  obtain ⟨hg, hc, hs⟩ := J_pd h.2.1
  obtain ⟨hgv, hkv, c0, c1, c2⟩ := J_wf h
  have hwf := h.1.1.1
  have n1 := hwf.1.2.1.2
  by_cases h6 : pNs st.1 < 6
  · obtain ⟨gw, gn⟩ := gSite_wf hwf h6
    have hns : (gSite st.1).2.1 = nI (pNs st.1 + 1) := by rw [← gn]; exact gw.1.2.1.1
    refine law_step (y := nI (pNs st.1)) (st' := stC (gSite st.1) st.2.1) (tm' := tm) (x' := nxt x) (hi' := push (st, 2) hi) (im' := im) (rf' := rf) (ss' := 0) (tp' := tp) (ft' := ft) h ?_ (fun w1 hr => ?_) (vA_push h.1 (stC_V (g := st.1) gw (Nat.le_refl _) h.1.1.2.1 h.1.1.2.2.2) 2 (by decide))
    · obtain ⟨w1, a1, b1, e1⟩ := cls_keep h.2.1 2
      have p1 : w1.2 2 1 = nI (pNs st.1) := by rw [(e1 2 (by omega)).2, c1]
      obtain ⟨w2, a2, b2, c2', d2, d2', e2⟩ := pf_eq (x := nI (pNs st.1) + 1) b1.1 p2_1
      obtain ⟨w3, a3, b3, e3, k3⟩ := Book_forgetAll_w (g := gSite st.1) b2
      have g1 := (J_pd b1).1
      have p2 : pdW w2 2 = gSite st.1 := by
        rw [← g1]
        unfold pdW gSite
        simp only [c2', d2, d2' 0 (by omega), d2' 2 (by omega), p1]
      have p3 : pdW w3 2 = gSite st.1 := by rw [← p2]; exact pd_fr e3 (by omega)
      obtain ⟨w4, a4, b4, e4, p4⟩ := cls_after b1 b3 gw p3 k3 (fun i h1 h2 => ⟨((e3 i (by omega)).1).trans (e2 i (by omega)).1, ((e3 i (by omega)).2).trans (e2 i (by omega)).2⟩)
      obtain ⟨w5, a5, b5, e5⟩ := cls_accept b4 (nI (pNs st.1))
      have q4 : w4.2 2 1 = nI (pNs st.1 + 1) := by rw [← hns, ← p4]; rfl
      have es : nI (pNs st.1 + 1) - 1 = nI (pNs st.1) := nI_sb (b := 1) (by omega) (by omega)
      refine ⟨w5, ?_, b5, ((e1.mono (by omega) (by omega)).tr e4).tr e5⟩
      unfold Sp_site
      rw [c0_0, Option.bind_some, c1_0, Option.bind_some, c2_1, Option.bind_some, c1, if_pos (show nI (pNs st.1) < 6 from nI_lt (b := 6) h6 (by omega)), c0_5, Option.bind_some, Option.bind_some, k49, Option.bind_some, a1, bnd2_some, c2_1, Option.bind_some, p1, a2, Option.bind_some, c0_2, Option.bind_some, c17_0, Option.bind_some, k18, Option.bind_some, a3, bnd2_some, k0, Option.bind_some, a4, bnd2_some, c2_1, Option.bind_some, k0, Option.bind_some, q4, es, a5, bnd2_some]
    · obtain ⟨mg, mc, ms, mo⟩ := J_md hr h.1
      obtain ⟨d0, d1, d2⟩ := R_n hr h.1
      obtain ⟨w2, a2, b2, c2', k2', e2⟩ := Mod_keepsAhead_w hr.1
      have d1' : nI (pNs (mdG (w1.1 279))) = (w1.1 279).getD 1 0 := by rw [mg, d1]
      have f2 : w2.1 279 = w1.1 279 := (e2 279 (by omega)).1
      have l1 : ald 0 (hp w1) 279 1 = some (nI (pNs st.1)) := by rw [ldN hr.1 (i := 1) (j := 1) rfl (by omega), d1]
      have l2 : ald 0 (hp w2) 279 1 = some (nI (pNs st.1)) := by rw [ldN b2 (i := 1) (j := 1) rfl (by omega), f2, d1]
      obtain ⟨w3, a3, b3, c3, k3, e3⟩ := st_at (i := 1) (x := nI (pNs st.1) + 1) (j := 1) b2 s279 rfl (by decide) (by omega)
      have L := l279 b2
      have hI2 : refI w2 st tm x hi im rf ss tp ft := refI_M hr b2 ⟨fun i i1 i2 i3 i4 => e2 i (by omega), fun k _ _ _ _ _ _ _ => by rw [k2']⟩
      have r3 : rowIs (w3.1 279) (gSite st.1) st.2.1 st.2.2 := by
        refine row_prog hI2.2.1 ?_ (fun k hk => by rw [c3, gD_set, if_neg (by omega)])
        rw [c3, mdG_low (k := 1) (by omega), gD_set, gD_set, gD_set, if_neg (by omega), if_pos ⟨rfl, by omega⟩, if_neg (by omega), f2, ← mg, d1']
        rfl
      have hI3 : refI w3 (gSite st.1, st.2.1, st.2.2) tm x hi im rf ss tp ft := refI_row hI2 b3 e3 r3
      obtain ⟨w4, a4, b4, e4⟩ := ref_changed hI3 gw h.1.2.2.1 h.1.2.2.2.1 (old := st) (by rw [(e3 280 (by omega)).1, c2']; exact hr.2.1) 2 (nI (pNs st.1))
      have l3 : ald 0 (hp w3) 279 1 = some (nI (pNs st.1 + 1)) := by
        rw [ldN b3 (i := 1) (j := 1) rfl (by omega), c3, gD_set, if_pos ⟨rfl, by omega⟩, nI_1]
      have es : nI (pNs st.1 + 1) - 1 = nI (pNs st.1) := nI_sb (b := 1) (by omega) (by omega)
      refine ⟨w4, ?_, b4, ((e2.mono (by omega) (by omega)).tr (e3.mono (by omega) (by omega))).tr e4⟩
      unfold Mod_site
      rw [c274_5, Option.bind_some, l1, Option.bind_some, if_pos (fun hh => by have := (nI_eq (b := 6) (by omega) (by omega)).mp hh; omega), k274, Option.bind_some, a2, bnd2_some, c274_5, Option.bind_some, l2, Option.bind_some, a3, Option.bind_some, c274_5, Option.bind_some, l3, Option.bind_some, k274, Option.bind_some, es, a4, bnd2_some]
  · have e6 : pNs st.1 = 6 := by omega
    refine law_refuse (m := 4) (b := -5) h (by omega) (by decide) ?_ (fun w1 hr => ?_)
    · unfold Sp_site
      rw [c0_0, Option.bind_some, c1_0, Option.bind_some, c2_1, Option.bind_some, c1, e6, if_neg (by decide), k0, Option.bind_some]
    · obtain ⟨d0, d1, d2⟩ := R_n hr h.1
      have l1 : ald 0 (hp w1) 279 1 = some (nI (pNs st.1)) := by rw [ldN hr.1 (i := 1) (j := 1) rfl (by omega), d1]
      unfold Mod_site
      rw [c274_5, Option.bind_some, l1, Option.bind_some, e6, if_neg (fun hh => hh rfl), k274, Option.bind_some]
end Rd
