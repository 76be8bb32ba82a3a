/-! the reference reads a text -/
theorem row_empty {r : List Int32} (h : ∀ k, r.getD k 0 = if 23 ≤ k ∧ k < 47 then -1 else 0) : rowIs r pd0 [] (mdS r) := by
  have z : ∀ a n, (a + n ≤ 23 ∨ 47 ≤ a) → slc r a n = List.replicate n 0 := fun a n ha => slc_full (by rw [List.length_replicate]) (fun k hk => by rw [zRep, h, if_neg (by omega)])
  have m : slc r 23 24 = List.replicate 24 (-1) := slc_full (by rw [List.length_replicate]) (fun k hk => by
    rw [h, if_pos (by omega)]
    have m24 : ∀ k : Fin 24, (List.replicate 24 (-1 : Int32)).getD k.1 0 = -1 := by decide +kernel
    exact m24 ⟨k, hk⟩)
  have h9 : r.getD 9 0 = 0 := by rw [h, if_neg (by omega)]
  refine ⟨?_, ?_, rfl, ?_, by show 0 ≤ 99; omega⟩
  · unfold mdG pd0
    rw [h 0, h 1, h 2, if_neg (by omega), if_neg (by omega), if_neg (by omega), z 11 4 (by omega), z 15 4 (by omega), z 19 4 (by omega), m, z 47 4 (by omega), z 51 24 (by omega)]
  · unfold mdC mdN
    rw [h9]
    rfl
  · rw [h9]; rfl
theorem Mod_empties_w {w : Wd} (hw : WL w) : ∃ w', Mod_empties 274 (hp w) = some ((), hp w') ∧ WL w' ∧ rowIs (w'.1 279) pd0 [] sr0 ∧ w'.2 = w.2 ∧ Fr w w' 279 280 := by
  obtain ⟨q, i1, w1, rfl, b1, f1, c1, k1⟩ := iter_I (body := Mod_empties_b2 274) (fun j s => ∃ W, s = (nI j, hp W) ∧ WL W ∧ Fr w W 279 280 ∧ W.2 = w.2 ∧ ∀ k, k < j → (W.1 279).getD k 0 = 0) (fun r => ∃ W, r = (nI 1427, hp W) ∧ WL W ∧ Fr w W 279 280 ∧ W.2 = w.2 ∧ ∀ k, k < 1427 → (W.1 279).getD k 0 = 0) 1427 (s0 := (0, hp w)) (by omega) ⟨w, rfl, hw, Fr.rfl', rfl, fun k hk => absurd hk (by omega)⟩ (by
    rintro j s hj ⟨W, rfl, hW, hF, h2, hk⟩
    left
    have hcn : ¬ (1427 : Int32) ≤ nI j := nI_ge (b := 1427) hj (by omega)
    obtain ⟨V, v1, v2, v3, v4, v5⟩ := st_at (i := nI j) (x := 0) (j := j) hW s279 rfl (show j < 1427 from hj) (by omega)
    refine ⟨(nI (j + 1), hp V), by simp only [Mod_empties_b2, if_neg hcn, c274_5, Option.bind_some, v1, nI_1], V, rfl, v2, hF.tr v5, by rw [v4, h2], fun k hk' => ?_⟩
    rw [v3, gD_set]
    by_cases e : j = k
    · rw [if_pos ⟨e, by rw [l279 hW]; exact hj⟩]
    · rw [if_neg (fun hh => e hh.1)]
      exact hk k (by omega)) (by
    rintro s ⟨W, rfl, hW, hF, h2, hk⟩
    exact ⟨(nI 1427, hp W), by simp only [Mod_empties_b2, if_pos (show (1427 : Int32) ≤ nI 1427 by decide)], W, rfl, hW, hF, h2, hk⟩)
  have z1 : ∀ k, (w1.1 279).getD k 0 = 0 := by
    intro k
    by_cases hk : k < 1427
    · exact k1 k hk
    · rw [List.getD_eq_getElem?_getD, List.getElem?_eq_none (by rw [l279 b1]; omega)]; rfl
  obtain ⟨q, i2, w2, rfl, b2, f2, c2, k2⟩ := iter_I (body := Mod_empties_b24 274) (fun j s => ∃ W, s = (nI j, hp W) ∧ WL W ∧ Fr w1 W 279 280 ∧ W.2 = w1.2 ∧ ∀ k, (W.1 279).getD k 0 = if 23 ≤ k ∧ k < 23 + j then -1 else 0) (fun r => ∃ W, r = (nI 24, hp W) ∧ WL W ∧ Fr w1 W 279 280 ∧ W.2 = w1.2 ∧ ∀ k, (W.1 279).getD k 0 = if 23 ≤ k ∧ k < 47 then -1 else 0) 24 (s0 := (0, hp w1)) (by omega) ⟨w1, rfl, b1, Fr.rfl', rfl, fun k => by rw [z1, if_neg (by omega)]⟩ (by
    rintro j s hj ⟨W, rfl, hW, hF, h2, hk⟩
    left
    have hcn : ¬ (24 : Int32) ≤ nI j := nI_ge (b := 24) hj (by omega)
    obtain ⟨V, v1, v2, v3, v4, v5⟩ := st_at (i := 23 + nI j) (x := -1) (j := 23 + j) hW s279 (nI_add 23 j) (show 23 + j < 1427 by omega) (by omega)
    refine ⟨(nI (j + 1), hp V), by simp only [Mod_empties_b24, if_neg hcn, c274_5, Option.bind_some, v1, nI_1], V, rfl, v2, hF.tr v5, by rw [v4, h2], fun k => ?_⟩
    rw [v3, gD_set, hk k, l279 hW]
    by_cases e : 23 + j = k
    · rw [if_pos ⟨e, by omega⟩, if_pos (by omega)]
    · rw [if_neg (fun hh => e hh.1)]
      by_cases e2 : 23 ≤ k ∧ k < 23 + j
      · rw [if_pos e2, if_pos (by omega)]
      · rw [if_neg e2, if_neg (by omega)]) (by
    rintro s ⟨W, rfl, hW, hF, h2, hk⟩
    exact ⟨(nI 24, hp W), by simp only [Mod_empties_b24, if_pos (show (24 : Int32) ≤ nI 24 by decide)], W, rfl, hW, hF, h2, hk⟩)
  obtain ⟨w3, a3, b3, c3, d3, e3⟩ := Mod_forgets_w b2 (row_empty k2)
  refine ⟨w3, ?_, b3, c3, by rw [d3, c2, c1], (f1.tr f2).tr e3⟩
  unfold Mod_empties
  rw [i1, Option.bind_some]
  unfold Mod_empties_j22
  rw [i2, Option.bind_some]
  unfold Mod_empties_j46
  rw [k274, Option.bind_some, a3, bnd2_some]
def preR (w : Wd) (tp : List Int32) (g : PD) (e : Nat) : Prop := WL w ∧ tpR w tp ∧ e ≤ tp.length ∧ w.2 274 19 = nI e ∧ w.2 274 20 = 0 ∧ w.2 274 10 = -1 ∧ rowIs (w.1 279) g [] sr0
def doneR (w : Wd) (tp : List Int32) (l : Int32) (R : Nat × Option (Nat × PD)) : Prop := (deadR w tp R.1 ∧ R.2 = none) ∨ (∃ g', liveR w tp g' R.1 ∧ R.1 < tp.length ∧ R.2 = none) ∨ (∃ l' g', l = nI l' ∧ liveR w tp g' R.1 ∧ ¬ R.1 < tp.length ∧ (wfP g' ∧ l' ≤ 400) ∧ R.2 = some (l', g'))
theorem read_R {w : Wd} {tp : List Int32} (h : preR w tp pd0 0) : ∃ l W, iter (Mod_read_b40 274) Lmax (0, 1, hp w) = some (l, 0, hp W) ∧ frL w W ∧ doneR W tp l (parP tp 400 0 pd0 (gn spB tp 0)) := by
  have hn := h.2.1.2.1.1
  obtain ⟨R, hR⟩ : ∃ R, R = parP tp 400 0 pd0 (gn spB tp 0) := ⟨_, rfl⟩
  rw [← hR]
  obtain ⟨q, i1, l, W, rfl, fW, dW⟩ := iter_I (body := Mod_read_b40 274) (fun j t => (∃ W gj e, t = (nI j, 1, hp W) ∧ preR W tp gj e ∧ frL w W ∧ wfP gj ∧ 5 * j ≤ gn spB tp e ∧ parP tp (400 - j) j gj (gn spB tp e) = R) ∨ (∃ l W, t = (l, 0, hp W) ∧ frL w W ∧ doneR W tp l R)) (fun q => ∃ l W, q = (l, 0, hp W) ∧ frL w W ∧ doneR W tp l R) 81 (s0 := (0, 1, hp w)) (by omega) (.inl ⟨w, pd0, 0, rfl, h, frL.rfl', wf_pd0, by omega, hR.symm⟩) (by
    rintro j t hj (⟨W, gj, e, rfl, hW, fW, wj, h5, hN⟩ | ⟨l, W, rfl, fW, dW⟩)
    · left
      obtain ⟨p1, p2, p3, p4, p5, p6, p7⟩ := hW
      obtain ⟨W1, a1, b1, c1, d1⟩ := Mod_reads_w p1 p2 p4 p3
      have l1 : liveR W1 tp gj (gn spB tp e) := ⟨b1, d1.tpR p2, c1, by rw [d1.2.1 20 (by omega) (by omega)]; exact p5, by rw [d1.2.1 10 (by omega) (by omega)]; exact p6, by rw [d1.1]; exact p7⟩
      obtain ⟨s, hs⟩ : ∃ s, s = gn spB tp e := ⟨_, rfl⟩
      rw [← hs] at l1 h5 hN
      obtain ⟨V, v1, v2, v3⟩ := line_R l1 wj
      have pr : Mod_read_b40 274 (nI j, 1, hp W) = ((gfI (hp V) 274 11 20).bind fun x12 => (if ¬ x12 = 0 then Mod_read_j91 274 (nI j + 1) 1 (hp V) else (gfI (hp V) 274 11 18).bind fun x13 => (gfI (hp V) 274 11 17).bind fun x14 => (if x14 ≤ x13 then Mod_read_j91 274 (nI j + 1) 1 (hp V) else (gfR (hp V) 274 11 8).bind fun a15 => (gfI (hp V) 274 11 18).bind fun x16 => (ald 0 (hp V) a15 x16).bind fun x17 => (if ¬ x17 = 59 then Mod_read_j91 274 (nI j + 1) 1 (hp V) else Mod_read_j92 274 (nI j + 1) 1 1 (hp V))))) := by
        unfold Mod_read_b40
        dsimp only
        rw [if_neg (by decide), k274, Option.bind_some, a1, bnd2_some, k274, Option.bind_some, v1, bnd2_some]
      have j91 : Mod_read_j91 274 (nI j + 1) 1 (hp V) = some (.inl (nI (j + 1), 0, hp V)) := by
        unfold Mod_read_j91 Mod_read_j92
        rw [nI_1]
      rw [show 400 - j = (400 - (j + 1)) + 1 by omega] at hN
      have fV : frL w V := (fW.tr d1.L).tr v3
      cases eL : (lineP tp gj s).2 with
      | none =>
        rw [parP_f eL] at hN
        unfold resR at v2
        rw [eL] at v2
        refine ⟨(nI (j + 1), 0, hp V), ?_, .inr ⟨_, V, rfl, fV, .inl ⟨by rw [← hN]; exact v2, by rw [← hN]⟩⟩⟩
        rw [pr, c274_20, Option.bind_some, v2.2.2.2.1, if_pos (by decide), j91]
      | some g' =>
        rw [parP_s eL] at hN
        obtain ⟨Q, hQ⟩ : ∃ Q, Q = (lineP tp gj s).1 := ⟨_, rfl⟩
        have hok := lineP_ok wj l1.2.2.1.1 (show lineP tp gj s = ((lineP tp gj s).1, some g') by rw [← eL])
        unfold resR at v2
        rw [eL] at v2
        have lV : liveR V tp g' Q := by rw [hQ]; exact v2
        rw [← hQ] at hN hok
        have pr2 : Mod_read_b40 274 (nI j, 1, hp W) = (if nI tp.length ≤ nI Q then Mod_read_j91 274 (nI j + 1) 1 (hp V) else (ald 0 (hp V) 282 (nI Q)).bind fun x17 => (if ¬ x17 = 59 then Mod_read_j91 274 (nI j + 1) 1 (hp V) else Mod_read_j92 274 (nI j + 1) 1 1 (hp V))) := by
          rw [pr, c274_20, Option.bind_some, lV.2.2.2.1, if_neg (fun hh => hh rfl), c274_18, Option.bind_some, c274_17, Option.bind_some, lV.2.2.1.2.1, lV.2.1.1, c274_8, Option.bind_some, Option.bind_some]
        by_cases h1 : Q < tp.length
        · rw [if_pos h1] at hN
          have l2 := ld282 lV.1 lV.2.1 h1
          by_cases h59 : tp.getD Q 0 = 59
          · rw [if_pos h59] at hN
            have hE := tkE_rng hok.2.2
            have hX := nxT_rng hok.2.2
            have hE2 := hE.2.2 h1
            refine ⟨(nI (j + 1), 1, hp V), ?_, .inl ⟨V, g', tkE tp Q, rfl, ⟨lV.1, lV.2.1, hE.2.1, lV.2.2.1.2.2, lV.2.2.2.1, lV.2.2.2.2.1, lV.2.2.2.2.2⟩, fV, hok.1, by show 5 * (j + 1) ≤ nxT tp Q; omega, hN⟩⟩
            rw [pr2, if_neg (nI_ge h1 (by omega)), l2, Option.bind_some, if_neg (fun hh => hh h59)]
            unfold Mod_read_j92
            rw [nI_1]
          · rw [if_neg h59] at hN
            refine ⟨(nI (j + 1), 0, hp V), ?_, .inr ⟨_, V, rfl, fV, .inr (.inl ⟨g', by rw [← hN]; exact lV, by rw [← hN]; exact h1, by rw [← hN]⟩)⟩⟩
            rw [pr2, if_neg (nI_ge h1 (by omega)), l2, Option.bind_some, if_pos h59, j91]
        · rw [if_neg h1] at hN
          refine ⟨(nI (j + 1), 0, hp V), ?_, .inr ⟨_, V, rfl, fV, .inr (.inr ⟨j + 1, g', rfl, by rw [← hN]; exact lV, by rw [← hN]; exact h1, ⟨hok.1, by omega⟩, by rw [← hN]⟩)⟩⟩
          rw [pr2, if_pos (nI_le (by omega) (by omega)), j91]
    · right
      refine ⟨(l, 0, hp W), ?_, l, W, rfl, fW, dW⟩
      unfold Mod_read_b40
      dsimp only
      rw [if_pos rfl]) (by
    rintro t (⟨W, gj, e, rfl, hW, fW, wj, h5, hN⟩ | ⟨l, W, rfl, fW, dW⟩)
    · exfalso
      have := (gn_rng (P := spB) (tp := tp) (i := e)).2.1 hW.2.2.1
      omega
    · refine ⟨(l, 0, hp W), ?_, l, W, rfl, fW, dW⟩
      unfold Mod_read_b40
      dsimp only
      rw [if_pos rfl])
  exact ⟨l, W, i1, fW, dW⟩
theorem done_R {w : Wd} {tp : List Int32} {l : Int32} {R : Nat × Option (Nat × PD)} (h : doneR w tp l R) : ∃ V, Mod_read_j96 274 l 0 (hp w) = Mod_read_j118 274 l 0 (hp V) ∧ frL w V ∧ ((deadR V tp R.1 ∧ R.2 = none) ∨ (∃ l' g', l = nI l' ∧ liveR V tp g' R.1 ∧ (wfP g' ∧ l' ≤ 400) ∧ R.2 = some (l', g'))) := by
  rcases h with ⟨hd, hn⟩ | ⟨g', hl, h1, hn⟩ | ⟨l', g', rfl, hl, h1, h2, hn⟩
  · refine ⟨w, ?_, frL.rfl', .inl ⟨hd, hn⟩⟩
    unfold Mod_read_j96
    rw [c274_20, Option.bind_some, hd.2.2.2.1, if_pos (by decide)]
  · have h400 := hl.2.1.2.1.1
    obtain ⟨V, a, b, c, _⟩ := hl.wrong
    refine ⟨V, ?_, c, .inl ⟨b, hn⟩⟩
    unfold Mod_read_j96
    rw [c274_20, Option.bind_some, hl.2.2.2.1, if_neg (fun hh => hh rfl), c274_18, Option.bind_some, c274_17, Option.bind_some, hl.2.2.1.2.1, hl.2.1.1, if_neg (nI_ge h1 (by omega)), k274, Option.bind_some, a, bnd2_some]
  · have h400 := hl.2.1.2.1.1
    have hs := hl.2.2.1.1
    refine ⟨w, ?_, frL.rfl', .inr ⟨l', g', rfl, hl, h2, hn⟩⟩
    unfold Mod_read_j96
    rw [c274_20, Option.bind_some, hl.2.2.2.1, if_neg (fun hh => hh rfl), c274_18, Option.bind_some, c274_17, Option.bind_some, hl.2.2.1.2.1, hl.2.1.1, if_pos (nI_le (by omega) (by omega))]
