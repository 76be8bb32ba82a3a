def frF (w w' : Wd) : Prop := (∀ i, i ≠ 274 → (i < 287 ∨ 291 ≤ i) → w'.1 i = w.1 i ∧ w'.2 i = w.2 i) ∧ w'.1 274 = w.1 274 ∧ (∀ k, k ≠ 21 → k ≠ 22 → k ≠ 27 → w'.2 274 k = w.2 274 k)
theorem frF.rfl' {w : Wd} : frF w w := ⟨fun _ _ _ => ⟨rfl, rfl⟩, rfl, fun _ _ _ _ => rfl⟩
theorem frF.tr {w w' w'' : Wd} (h1 : frF w w') (h2 : frF w' w'') : frF w w'' := ⟨fun i a b => ⟨(h2.1 i a b).1.trans (h1.1 i a b).1, (h2.1 i a b).2.trans (h1.1 i a b).2⟩, h2.2.1.trans h1.2.1, fun k a b c => (h2.2.2 k a b c).trans (h1.2.2 k a b c)⟩
theorem frS.F {w w' : Wd} (h : frS w w') : frF w w' := ⟨fun i a b => h.1 i a (by omega), h.2.1, fun k a b _ => h.2.2 k a b⟩
theorem frN.F {w w' : Wd} (h : frN w w') : frF w w' := ⟨fun i a b => h.1 i a (by omega), h.2.1, fun k _ _ c => h.2.2 k c⟩
theorem nw_S {w w' : Wd} (h : frS w w') : nwC w' = nwC w ∧ w'.2 274 27 = w.2 274 27 := by
  have e : w'.2 274 27 = w.2 274 27 := h.2.2 27 (by omega) (by omega)
  refine ⟨?_, e⟩
  unfold nwC nwM
  rw [e, (h.1 290 (by omega) (by omega)).1]
theorem ray_ct {g : PD} {c : Nat} {plan : Int32} {u v : List Int32} {t : Int32} (h : rateR g c plan (fun p => u.getD p 0) (fun s => v.getD s 0)) (ht : t = b2i (!decide (lackP g c plan ≤ 0))) : ctOf (nI c) t 0 u v = rateC g c plan := by
  rw [rateC_eq h, ht]
  rfl
/-- the best case so far, as the reference holds it -/
def bestR (g : PD) (key : Nat → Int) (plan : Int32) (r : Option Nat) (ray most : Int32) : Prop := match r with
  | none => ray = 0 ∧ most = 0
  | some b => ray = b2i (!decide (lackP g b plan ≤ 0)) ∧ most.toInt = key b - (if lackP g b plan ≤ 0 then 0 else 1000000)
theorem Mod_finds_w {w : Wd} {n : Nat} (hw : WL w) (hm : mdOk (w.1 279)) (hn : n < 256) : ∃ w', Mod_finds 274 (nI n) (hp w) = some ((), hp w') ∧ WL w' ∧ frF w w' ∧ nwC w' = newsP (mdG (w.1 279)) (mdC (w.1 279)) (nI n) ((w.1 276).getD 0 0) ∧ w'.2 274 27 = nI (nwC w').length := by
  have hg := hm.1
  have hnc := hg.1.2.2
  generalize hkey : keyZ (mdG (w.1 279)) (mdC (w.1 279)) (nI n) = key
  generalize hway : (w.1 276).getD 0 0 = way
  obtain ⟨q, i1, W, r, ray, most, rfl, hW, hF, hI⟩ := iter_I (body := Mod_finds_b15 274 (nI n)) (fun j st => ∃ W r ray most, st = (encO r, ray, most, nI j, hp W) ∧ WL W ∧ frF w W ∧ W.2 274 27 = nI (nwC W).length ∧ (way = 0 → r = none ∧ ray = 0 ∧ most = 0 ∧ nwC W = ((List.range j).filter (fun c => decide (0 < key c))).map (fun c => rateC (mdG (w.1 279)) c (nI n))) ∧ (way ≠ 0 → isAm key j r ∧ bestR (mdG (w.1 279)) key (nI n) r ray most ∧ nwC W = [])) (fun q => ∃ W r ray most, q = (encO r, ray, most, nI (pNc (mdG (w.1 279))), hp W) ∧ WL W ∧ frF w W ∧ W.2 274 27 = nI (nwC W).length ∧ (way = 0 → r = none ∧ ray = 0 ∧ most = 0 ∧ nwC W = ((List.range (pNc (mdG (w.1 279)))).filter (fun c => decide (0 < key c))).map (fun c => rateC (mdG (w.1 279)) c (nI n))) ∧ (way ≠ 0 → isAm key (pNc (mdG (w.1 279))) r ∧ bestR (mdG (w.1 279)) key (nI n) r ray most ∧ nwC W = [])) (pNc (mdG (w.1 279))) (s0 := ((-1), 0, 0, 0, hp (wF w 274 27 0))) (by omega) ⟨wF w 274 27 0, none, 0, 0, rfl, WL.F hw, ⟨fun i h1 _ => ⟨rfl, by funext k; exact wF_n (by omega)⟩, rfl, fun k _ _ h3 => wF_n (by omega)⟩, by rw [wF_s]; unfold nwC nwM; rw [wF_s]; rfl, fun _ => ⟨rfl, rfl, rfl, by unfold nwC nwM; rw [wF_s]; rfl⟩, fun _ => ⟨fun c hc => absurd hc (by omega), ⟨rfl, rfl⟩, by unfold nwC nwM; rw [wF_s]; rfl⟩⟩ (by
    rintro j st hj ⟨W, r, ray, most, rfl, hW, hF, hlen, hI0, hI1⟩
    left
    have hcn : ¬ nI (pNc (mdG (w.1 279))) ≤ nI j := nI_ge hj (by omega)
    have fW : W.1 279 = w.1 279 := (hF.1 279 (by omega) (by omega)).1
    have e2 : ald 0 (hp W) 279 2 = some (nI (pNc (mdG (w.1 279)))) := by rw [ldN hW (i := 2) (j := 2) rfl (by omega), fW]; exact congrArg some hnc.1
    obtain ⟨V, v1, v2, v3, v4, v5⟩ := Mod_solves_w (c := j) hW (by rw [fW]; exact hg) (by omega) hn
    rw [fW] at v1 v4 v5
    have fV : V.1 279 = w.1 279 := by rw [(v3.1 279 (by omega) (by omega)).1, fW]
    have a1 : ald 0 (hp V) 279 (47 + nI j) = some (pWt (mdG (w.1 279)) j) := by rw [m_wt (by omega), ← fV]; exact ldN v2 (nI_add 47 j) (by omega)
    have rb := Mod_reachBy_w (w := V) (plan := nI n) v2 (by rw [fV]; exact hm) (show j < 4 by omega)
    rw [fV] at rb
    have FV := hF.tr v3.F
    have nV := nw_S v3
    have lenV : V.2 274 27 = nI (nwC V).length := by rw [nV.2, nV.1]; exact hlen
    have a6 : ald 0 (hp V) 276 0 = some way := by
      rw [ald_w (i := 0) (j := 0) s276 rfl (by rw [l276 v2]; omega) (by omega), (FV.1 276 (by omega) (by omega)).1, hway]
    have p2 := priceR_ex hg (show j < 4 by omega) hn
    have rr := rch_rng hg hm.2.2 (show j < 4 by omega) (nI n)
    simp only [Mod_finds_b15, c274_5, e2, Option.bind_some, if_neg hcn, k274, v1, bnd2_some, c274_21, v5, a1, rb]
    -- a case that brings nothing
    have skip : ∀ v6 v7 v8 : Int32, key j ≤ 0 → ∃ s', Mod_finds_j168 274 (nI n) (encO r) ray most (nI j) v6 v7 v8 (hp V) = some (.inl s') ∧ ∃ W r ray most, s' = (encO r, ray, most, nI (j + 1), hp W) ∧ WL W ∧ frF w W ∧ W.2 274 27 = nI (nwC W).length ∧ (way = 0 → r = none ∧ ray = 0 ∧ most = 0 ∧ nwC W = ((List.range (j + 1)).filter (fun c => decide (0 < key c))).map (fun c => rateC (mdG (w.1 279)) c (nI n))) ∧ (way ≠ 0 → isAm key (j + 1) r ∧ bestR (mdG (w.1 279)) key (nI n) r ray most ∧ nwC W = []) := by
      intro v6 v7 v8 hk
      simp only [Mod_finds_j168, nI_1]
      refine ⟨_, rfl, V, r, ray, most, rfl, v2, FV, lenV, fun h => ?_, fun h => ?_⟩
      · obtain ⟨q1, q2, q3, q4⟩ := hI0 h
        refine ⟨q1, q2, q3, ?_⟩
        rw [nV.1, q4, filter_succ, if_neg (by rw [decide_eq_true_iff]; omega), List.append_nil]
      · obtain ⟨q1, q2, q3⟩ := hI1 h
        refine ⟨isAm_old q1 (fun b hb => ?_) (fun _ => hk), q2, by rw [nV.1]; exact q3⟩
        subst hb
        have := q1.2.1
        omega
    have hit : ∀ (v6 v7 v8 : Int32), 0 < key j → (v6 = -1 ↔ ¬ lackP (mdG (w.1 279)) j (nI n) ≤ 0) → v8.toInt = key j - (if lackP (mdG (w.1 279)) j (nI n) ≤ 0 then 0 else 1000000) → ∃ s', Mod_finds_j89 274 (nI n) (encO r) ray most (nI j) v6 v7 v8 (hp V) = some (.inl s') ∧ ∃ W r ray most, s' = (encO r, ray, most, nI (j + 1), hp W) ∧ WL W ∧ frF w W ∧ W.2 274 27 = nI (nwC W).length ∧ (way = 0 → r = none ∧ ray = 0 ∧ most = 0 ∧ nwC W = ((List.range (j + 1)).filter (fun c => decide (0 < key c))).map (fun c => rateC (mdG (w.1 279)) c (nI n))) ∧ (way ≠ 0 → isAm key (j + 1) r ∧ bestR (mdG (w.1 279)) key (nI n) r ray most ∧ nwC W = []) := by
      intro v6 v7 v8 hk h6 h8
      have eray : ∀ t : Int32, (t = if v6 = -1 then 1 else 0) → t = b2i (!decide (lackP (mdG (w.1 279)) j (nI n) ≤ 0)) := by
        intro t ht
        rw [ht]
        by_cases hl : lackP (mdG (w.1 279)) j (nI n) ≤ 0
        · rw [if_neg (fun h => h6.mp h hl), decide_eq_true hl]; rfl
        · rw [if_pos (h6.mpr hl), decide_eq_false hl]; rfl
      simp only [Mod_finds_j89, c274_2, a6, Option.bind_some]
      by_cases hw0 : way = 0
      · rw [if_neg (fun h => h hw0)]
        obtain ⟨q1, q2, q3, q4⟩ := hI0 hw0
        have hlen4 : (nwC V).length < 4 := by
          rw [nV.1, q4, List.length_map, filter_cnt]
          have := cntB_le (P := fun c => decide (0 < key c)) j
          omega
        have lay : ∀ t : Int32, (t = if v6 = -1 then 1 else 0) → ∃ s', Mod_finds_j112 274 (nI n) (encO r) ray most (nI j) v6 v7 v8 274 (nI j) t (hp V) = some (.inl s') ∧ ∃ W r ray most, s' = (encO r, ray, most, nI (j + 1), hp W) ∧ WL W ∧ frF w W ∧ W.2 274 27 = nI (nwC W).length ∧ (way = 0 → r = none ∧ ray = 0 ∧ most = 0 ∧ nwC W = ((List.range (j + 1)).filter (fun c => decide (0 < key c))).map (fun c => rateC (mdG (w.1 279)) c (nI n))) ∧ (way ≠ 0 → isAm key (j + 1) r ∧ bestR (mdG (w.1 279)) key (nI n) r ray most ∧ nwC W = []) := by
          intro t ht
          obtain ⟨Y, y1, y2, y3, y4, y5⟩ := Mod_laysNew_w (x := nI j) (y := t) v2 lenV hlen4
          rw [ray_ct v4 (eray t ht)] at y5
          simp only [Mod_finds_j112, k274, Option.bind_some, y1, bnd2_some, Mod_finds_j168, nI_1]
          refine ⟨_, rfl, Y, r, ray, most, rfl, y2, FV.tr y3.F, ?_, fun _ => ⟨q1, q2, q3, ?_⟩, fun h => absurd hw0 h⟩
          · rw [y4, y5, List.length_append]; rfl
          · rw [y5, nV.1, q4, filter_succ, if_pos (decide_eq_true hk), List.map_append]; rfl
        by_cases h6' : v6 = -1
        · rw [if_neg (fun h => h h6')]
          exact lay 1 (by rw [if_pos h6'])
        · rw [if_pos h6']
          exact lay 0 (by rw [if_neg h6'])
      · rw [if_pos hw0]
        obtain ⟨q1, q2, q3⟩ := hI1 hw0
        have rep : ∀ t : Int32, (t = if v6 = -1 then 1 else 0) → (∀ b, r = some b → key b < key j) → ∃ s', Mod_finds_j158 274 (nI n) (encO r) ray most (nI j) v6 v7 v8 t (hp V) = some (.inl s') ∧ ∃ W r ray most, s' = (encO r, ray, most, nI (j + 1), hp W) ∧ WL W ∧ frF w W ∧ W.2 274 27 = nI (nwC W).length ∧ (way = 0 → r = none ∧ ray = 0 ∧ most = 0 ∧ nwC W = ((List.range (j + 1)).filter (fun c => decide (0 < key c))).map (fun c => rateC (mdG (w.1 279)) c (nI n))) ∧ (way ≠ 0 → isAm key (j + 1) r ∧ bestR (mdG (w.1 279)) key (nI n) r ray most ∧ nwC W = []) := by
          intro t ht hlt
          simp only [Mod_finds_j158, Mod_finds_j168, nI_1]
          exact ⟨_, rfl, V, some j, t, v8, rfl, v2, FV, lenV, fun h => absurd h hw0, fun _ => ⟨isAm_new q1 hlt hk, ⟨eray t ht, h8⟩, by rw [nV.1]; exact q3⟩⟩
        have old : (∀ b, r = some b → key j ≤ key b) → r ≠ none → ∃ s', Mod_finds_j168 274 (nI n) (encO r) ray most (nI j) v6 v7 v8 (hp V) = some (.inl s') ∧ ∃ W r ray most, s' = (encO r, ray, most, nI (j + 1), hp W) ∧ WL W ∧ frF w W ∧ W.2 274 27 = nI (nwC W).length ∧ (way = 0 → r = none ∧ ray = 0 ∧ most = 0 ∧ nwC W = ((List.range (j + 1)).filter (fun c => decide (0 < key c))).map (fun c => rateC (mdG (w.1 279)) c (nI n))) ∧ (way ≠ 0 → isAm key (j + 1) r ∧ bestR (mdG (w.1 279)) key (nI n) r ray most ∧ nwC W = []) := by
          intro hle hne
          simp only [Mod_finds_j168, nI_1]
          exact ⟨_, rfl, V, r, ray, most, rfl, v2, FV, lenV, fun h => absurd h hw0, fun _ => ⟨isAm_old q1 hle (fun h => absurd h hne), q2, by rw [nV.1]; exact q3⟩⟩
        have cmp : ∀ t : Int32, (t = if v6 = -1 then 1 else 0) → ∃ s', Mod_finds_j129 274 (nI n) (encO r) ray most (nI j) v6 v7 v8 t (hp V) = some (.inl s') ∧ ∃ W r ray most, s' = (encO r, ray, most, nI (j + 1), hp W) ∧ WL W ∧ frF w W ∧ W.2 274 27 = nI (nwC W).length ∧ (way = 0 → r = none ∧ ray = 0 ∧ most = 0 ∧ nwC W = ((List.range (j + 1)).filter (fun c => decide (0 < key c))).map (fun c => rateC (mdG (w.1 279)) c (nI n))) ∧ (way ≠ 0 → isAm key (j + 1) r ∧ bestR (mdG (w.1 279)) key (nI n) r ray most ∧ nwC W = []) := by
          intro t ht
          have htr := eray t ht
          unfold Mod_finds_j129
          cases r with
          | none =>
            rw [if_pos (show encO none = -1 from rfl)]
            exact rep t ht (fun b hb => absurd hb (by simp))
          | some b =>
            have hb4 : b < j := q1.1
            rw [if_neg (show ¬ encO (some b) = -1 from nI_ne_m1 (by omega))]
            obtain ⟨g1, g2⟩ := q2
            have kb : (lackP (mdG (w.1 279)) b (nI n) ≤ 0 → key b ≤ 900000) ∧ (¬ lackP (mdG (w.1 279)) b (nI n) ≤ 0 → 1000000 < key b) := by
              refine ⟨fun hl => ?_, fun hl => ?_⟩
              · rw [← hkey]
                have rr := rch_rng hg hm.2.2 (show b < 4 by omega) (nI n)
                exact (key_pt (cs := mdC (w.1 279)) hg (show b < pNc (mdG (w.1 279)) by omega) (priceR_ex hg (show b < 4 by omega) hn) hl rfl (by omega)).2.1
              · rw [← hkey]
                have := key_ray (cs := mdC (w.1 279)) hl
                omega
            have kj : (lackP (mdG (w.1 279)) j (nI n) ≤ 0 → key j ≤ 900000) ∧ (¬ lackP (mdG (w.1 279)) j (nI n) ≤ 0 → 1000000 < key j) := by
              refine ⟨fun hl => ?_, fun hl => ?_⟩
              · rw [← hkey]
                exact (key_pt (cs := mdC (w.1 279)) hg hj p2 hl rfl (by omega)).2.1
              · rw [← hkey]
                have := key_ray (cs := mdC (w.1 279)) hl
                omega
            by_cases hlb : lackP (mdG (w.1 279)) b (nI n) ≤ 0
            · rw [decide_eq_true hlb] at g1
              rw [if_pos hlb] at g2
              have g1' : ray = 0 := g1
              have kb1 := kb.1 hlb
              by_cases hlj : lackP (mdG (w.1 279)) j (nI n) ≤ 0
              · rw [decide_eq_true hlj] at htr
                have htr' : t = 0 := htr
                rw [if_neg (show ¬ t < ray by rw [g1', htr']; decide), if_neg (show ¬ ¬ t = ray from fun h => h (by rw [g1', htr']))]
                rw [if_pos hlj] at h8
                by_cases hlt : most < v8
                · rw [if_pos hlt]
                  rw [ti_lt] at hlt
                  exact rep t ht (fun b' hb' => by cases hb'; omega)
                · rw [if_neg hlt]
                  rw [ti_lt] at hlt
                  exact old (fun b' hb' => by cases hb'; omega) (by simp)
              · rw [decide_eq_false hlj] at htr
                have htr' : t = 1 := htr
                have kj1 := kj.2 hlj
                rw [if_neg (show ¬ t < ray by rw [g1', htr']; decide), if_pos (show ¬ t = ray by rw [g1', htr']; decide)]
                exact rep t ht (fun b' hb' => by cases hb'; omega)
            · rw [decide_eq_false hlb] at g1
              rw [if_neg hlb] at g2
              have g1' : ray = 1 := g1
              have kb1 := kb.2 hlb
              by_cases hlj : lackP (mdG (w.1 279)) j (nI n) ≤ 0
              · rw [decide_eq_true hlj] at htr
                have htr' : t = 0 := htr
                have kj1 := kj.1 hlj
                rw [if_pos (show t < ray by rw [g1', htr']; decide)]
                exact old (fun b' hb' => by cases hb'; omega) (by simp)
              · rw [decide_eq_false hlj] at htr
                have htr' : t = 1 := htr
                rw [if_neg (show ¬ t < ray by rw [g1', htr']; decide), if_neg (show ¬ ¬ t = ray from fun h => h (by rw [g1', htr']))]
                rw [if_neg hlj] at h8
                by_cases hlt : most < v8
                · rw [if_pos hlt]
                  rw [ti_lt] at hlt
                  exact rep t ht (fun b' hb' => by cases hb'; omega)
                · rw [if_neg hlt]
                  rw [ti_lt] at hlt
                  exact old (fun b' hb' => by cases hb'; omega) (by simp)
        by_cases h6' : v6 = -1
        · rw [if_neg (fun h => h h6')]
          exact cmp 1 (by rw [if_pos h6'])
        · rw [if_pos h6']
          exact cmp 0 (by rw [if_neg h6'])
    by_cases hx : priceP (mdG (w.1 279)) j (nI n) = -1
    · rw [if_neg (fun h => h hx)]
      have hl := (priceR_m1 p2).mp hx
      have kj := key_ray (cs := mdC (w.1 279)) hl
      rw [hkey] at kj
      unfold Mod_finds_j73
      rw [if_pos hx]
      exact hit _ _ _ (by omega) ⟨fun _ => hl, fun _ => hx⟩ (by rw [if_neg hl]; omega)
    · rw [if_pos hx]
      have hl : lackP (mdG (w.1 279)) j (nI n) ≤ 0 := by
        apply Decidable.byContradiction
        intro h
        exact hx ((priceR_m1 p2).mpr h)
      have kj := key_pt (cs := mdC (w.1 279)) hg hj p2 hl rfl (by omega)
      rw [hkey] at kj
      unfold Mod_finds_j73
      rw [if_neg hx]
      by_cases hpos : 0 < pWt (mdG (w.1 279)) j * (priceP (mdG (w.1 279)) j (nI n) - rchP (mdG (w.1 279)) (mdC (w.1 279)) j (nI n))
      · rw [if_pos hpos]
        rw [ti_lt, kj.1, ti_0] at hpos
        exact hit _ _ _ hpos ⟨fun h => absurd h hx, fun h => absurd hl h⟩ (by rw [if_pos hl, kj.1]; omega)
      · rw [if_neg hpos]
        rw [ti_lt, kj.1, ti_0] at hpos
        exact skip _ _ _ (by omega)) (by
    rintro st ⟨W, r, ray, most, rfl, hW, hF, hI⟩
    have fW : W.1 279 = w.1 279 := (hF.1 279 (by omega) (by omega)).1
    have e2 : ald 0 (hp W) 279 2 = some (nI (pNc (mdG (w.1 279)))) := by rw [ldN hW (i := 2) (j := 2) rfl (by omega), fW]; exact congrArg some hnc.1
    exact ⟨(encO r, ray, most, nI (pNc (mdG (w.1 279))), hp W), by simp only [Mod_finds_b15, c274_5, e2, Option.bind_some, if_pos (nI_le (Nat.le_refl _) (show pNc (mdG (w.1 279)) < 2 ^ 31 by omega))], W, r, ray, most, rfl, hW, hF, hI⟩)
  obtain ⟨hlen, hI0, hI1⟩ := hI
  simp only [Mod_finds, p274_27, Option.bind_some, i1, Mod_finds_j174]
  unfold newsP
  rw [hkey]
  by_cases hw0 : way = 0
  · obtain ⟨q1, q2, q3, q4⟩ := hI0 hw0
    subst q1
    rw [if_neg (fun h => h rfl)]
    refine ⟨W, rfl, hW, hF, ?_, hlen⟩
    have ef : (List.range (pNc (mdG (w.1 279)))).filter (fun c => decide (0 < key c)) = (List.range (pNc (mdG (w.1 279)))).filter (pkB key (pNc (mdG (w.1 279))) way) := by
      apply List.filter_congr
      intro c hc
      rw [Bool.eq_iff_iff, decide_eq_true_iff, pkB_iff]
      exact ⟨fun h => ⟨h, Or.inl hw0⟩, fun h => h.1⟩
    rw [q4, ef]
  · obtain ⟨q1, q2, q3⟩ := hI1 hw0
    cases r with
    | none =>
      rw [if_neg (fun h => h rfl)]
      refine ⟨W, rfl, hW, hF, ?_, hlen⟩
      rw [q3]
      have : (List.range (pNc (mdG (w.1 279)))).filter (pkB key (pNc (mdG (w.1 279))) way) = [] := by
        rw [List.filter_eq_nil_iff]
        intro c hc hb
        rw [pkB_iff] at hb
        have := q1 c (List.mem_range.mp hc)
        have := hb.1
        omega
      rw [this]
      rfl
    | some b =>
      have hb4 : b < pNc (mdG (w.1 279)) := q1.1
      rw [if_pos (show ¬ encO (some b) = -1 from nI_ne_m1 (by omega))]
      have fW : W.1 279 = w.1 279 := (hF.1 279 (by omega) (by omega)).1
      obtain ⟨V, v1, v2, v3, v4, v5⟩ := Mod_solves_w (c := b) hW (by rw [fW]; exact hg) (by omega) hn
      rw [fW] at v1 v4 v5
      have nV := nw_S v3
      obtain ⟨Y, y1, y2, y3, y4, y5⟩ := Mod_laysNew_w (x := nI b) (y := ray) (M := 0) v2 (by rw [nV.2, hlen, q3]; rfl) (by omega)
      rw [ray_ct v4 q2.1, nV.1, q3] at y5
      have y1' : Mod_laysNew 274 (encO (some b)) ray (hp V) = some ((), hp Y) := y1
      have v1' : Mod_solves 274 (encO (some b)) (nI n) (hp W) = some (priceP (mdG (w.1 279)) b (nI n), hp V) := v1
      simp only [k274, Option.bind_some, v1', bnd2_some, y1']
      refine ⟨Y, rfl, y2, (hF.tr v3.F).tr y3.F, ?_, by rw [y4, y5]; rfl⟩
      rw [y5]
      have hpk : ∀ c, c < pNc (mdG (w.1 279)) → (pkB key (pNc (mdG (w.1 279))) way c = true ↔ c = b) := by
        intro c hc
        rw [pkB_iff]
        constructor
        · rintro ⟨_, h | h⟩
          · exact absurd h hw0
          · have := isAm_uni h q1; cases this; rfl
        · intro h
          subst h
          exact ⟨q1.2.1, Or.inr q1⟩
      have key1 : ∀ m, (List.range m).filter (fun c => decide (c = b)) = if b < m then [b] else [] := by
        intro m
        induction m with
        | zero => rfl
        | succ m ih =>
          rw [filter_succ, ih]
          by_cases h : m = b
          · rw [if_pos (decide_eq_true h), if_neg (by omega), if_pos (by omega), h]; rfl
          · rw [if_neg (show ¬ decide (m = b) = true by simp [h])]
            by_cases h2 : b < m
            · rw [if_pos h2, if_pos (by omega)]; rfl
            · rw [if_neg h2, if_neg (by omega)]; rfl
      have : (List.range (pNc (mdG (w.1 279)))).filter (pkB key (pNc (mdG (w.1 279))) way) = [b] := by
        rw [← if_pos (c := b < pNc (mdG (w.1 279))) (t := [b]) (e := []) hb4, ← key1]
        apply List.filter_congr
        intro c hc
        rw [Bool.eq_iff_iff, decide_eq_true_iff, hpk c (List.mem_range.mp hc)]
      rw [this]
      rfl
