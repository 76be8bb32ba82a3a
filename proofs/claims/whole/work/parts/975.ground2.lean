theorem floor_age {g : PD} (hg : wfP g) {cs : List (List Int32)} {plan p : Int32} : floorP g (agedP g cs plan) p = floorP g cs p := by
  have e1 : barP g (agedP g cs plan) p = barP g cs p := bar_age hg cs
  have e2 : ∀ n, flrN g (agedP g cs plan) p n = flrN g cs p n := by
    intro n
    induction n with
    | zero => rfl
    | succ n ih =>
      show flrN g (agedP g cs plan) p n + pWt g n * rchP g (agedP g cs plan) n p = flrN g cs p n + pWt g n * rchP g cs n p
      rw [ih]
      have : rchP g (agedP g cs plan) n p = rchP g cs n p := rch_age hg cs
      rw [this]
  unfold floorP
  rw [e1, e2]
theorem news_age {g : PD} (hg : wfP g) {cs : List (List Int32)} {plan p way : Int32} : newsP g (agedP g cs plan) p way = newsP g cs p way := by
  have e : keyZ g (agedP g cs plan) p = keyZ g cs p := by
    funext c
    unfold keyZ
    have : rchP g (agedP g cs plan) c p = rchP g cs c p := rch_age hg cs
    rw [this]
  unfold newsP
  rw [e]
theorem Mod_gapNow_w {w : Wd} {lo up : Int32} (hw : WL w) (h4 : (w.1 279).getD 4 0 = lo) (h5 : (w.1 279).getD 5 0 = up) (h1 : 0 ≤ lo.toInt) (h2 : lo.toInt ≤ up.toInt) (h3 : up.toInt < 16777216) : Mod_gapNow 274 (hp w) = some (gapP lo up, hp w) := by
  have a4 : ald 0 (hp w) 279 4 = some lo := by rw [ldN hw (i := 4) (j := 4) rfl (by omega), h4]
  have a5 : ald 0 (hp w) 279 5 = some up := by rw [ldN hw (i := 5) (j := 5) rfl (by omega), h5]
  simp only [Mod_gapNow, c274_5, a4, a5, Option.bind_some, Mod_gapNow_j35]
  unfold gapP
  by_cases h0 : up = 0
  · rw [if_neg (fun h => h h0), if_neg (by rw [h0]; decide)]
  · have hp' : 0 < up.toInt := by
      have : up.toInt ≠ 0 := fun h => h0 (by rw [ti_eq, h]; rfl)
      omega
    rw [if_pos h0, if_pos (by rw [ti_lt]; exact hp')]
    have e : (up - lo).toInt = up.toInt - lo.toInt := ti_sub (by omega) (by omega)
    rw [n32_div (by omega) (by omega) hp' h3]
    rfl
set_option maxHeartbeats 1000000 in
theorem Mod_goesRound_w {w : Wd} (hw : WL w) (hm : mdOk (w.1 279)) (hs : srOk (mdG (w.1 279)) (mdS (w.1 279))) (ht : tmOk (w.1 276)) (hroom : ((w.1 276).getD 3 0).toInt ≤ 99) (hkeep : 0 ≤ ((w.1 276).getD 1 0).toInt) (h3 : (w.1 279).getD 3 0 = 0) : ∃ w' x, Mod_goesRound 274 (hp w) = some (x, hp w') ∧ WL w' ∧ frR w w' ∧ ((rndP (mdG (w.1 279)) (mdC (w.1 279)) (mdS (w.1 279)) (w.1 276) = none ∧ x = -5) ∨ ∃ cs' sr', rndP (mdG (w.1 279)) (mdC (w.1 279)) (mdS (w.1 279)) (w.1 276) = some (x, cs', sr') ∧ 0 ≤ x.toInt ∧ rowIs (w'.1 279) (mdG (w.1 279)) cs' sr') := by
  have r0 := rowIs.of hm
  have hg := hm.1
  have hc := hm.2.2
  have L0 := l279 hw
  generalize hgd : mdG (w.1 279) = g at *
  generalize hcd : mdC (w.1 279) = cs at *
  obtain ⟨a, hsa⟩ : ∃ a, a = (w.1 279).getD 4 0 := ⟨_, rfl⟩
  obtain ⟨b, hsb⟩ : ∃ b, b = (w.1 279).getD 5 0 := ⟨_, rfl⟩
  obtain ⟨c, hsc⟩ : ∃ c, c = (w.1 279).getD 6 0 := ⟨_, rfl⟩
  obtain ⟨d, hsd⟩ : ∃ d, d = (w.1 279).getD 7 0 := ⟨_, rfl⟩
  obtain ⟨e, hse⟩ : ∃ e, e = (w.1 279).getD 8 0 := ⟨_, rfl⟩
  obtain ⟨f, hsf⟩ : ∃ f, f = (w.1 279).getD 10 0 := ⟨_, rfl⟩
  have hS : mdS (w.1 279) = [0, a, b, c, d, e, f] := by unfold mdS; rw [h3, hsa, hsb, hsc, hsd, hse, hsf]
  rw [hS] at r0 hs ⊢
  have a8 : ald 0 (hp w) 279 8 = some e := by rw [ldN hw (i := 8) (j := 8) rfl (by omega), hse]
  -- the round counts
  obtain ⟨W1, hW1⟩ : ∃ X, X = wA w 279 ((w.1 279).set 8 (e + 1)) := ⟨_, rfl⟩
  have w1 : WL W1 := by rw [hW1]; exact WL.S hw
  have r1 : rowIs (W1.1 279) g cs [0, a, b, c, d, e + 1, f] := by
    rw [hW1, wA_s]; exact r0.set L0 (k := 8) (by omega) (e + 1)
  have f1 : frR w W1 := by rw [hW1]; exact frR.A
  have mo := Mod_masterOf_w w1 (r1.ok hg hc)
  rw [r1.1, r1.2.1] at mo
  obtain ⟨M, hM⟩ : ∃ M, M = (loP g cs 256).1 := ⟨_, rfl⟩
  rw [← hM] at mo
  obtain ⟨W2, hW2⟩ : ∃ X, X = wA W1 279 ((W1.1 279).set 7 M) := ⟨_, rfl⟩
  have w2 : WL W2 := by rw [hW2]; exact WL.S w1
  have r2 : rowIs (W2.1 279) g cs [0, a, b, c, M, e + 1, f] := by
    rw [hW2, wA_s]; exact r1.set (l279 w1) (k := 7) (by omega) M
  have f2 : frR w W2 := f1.tr (by rw [hW2]; exact frR.A)
  unfold Mod_goesRound
  simp only [c274_5, a8, Option.bind_some]
  rw [stN hw (i := 8) (j := 8) rfl (by omega)]
  simp only [Option.bind_some, ← hW1, k274, mo, bnd2_some, c274_5]
  rw [stN w1 (i := 7) (j := 7) rfl (by omega)]
  simp only [Option.bind_some, ← hW2]
  unfold rndP
  rw [← hM]
  rcases loP_spec (g := g) (cs := cs) 256 (Nat.le_refl _) with ⟨hlo, _⟩ | ⟨n, hn, hlo, hpl, hfl, _, hmin⟩
  · rw [← hM] at hlo
    rw [if_neg (fun h => h hlo), if_pos hlo]
    simp only [c274_5, Option.bind_some]
    rw [stN w2 (i := 3) (j := 3) rfl (by omega)]
    refine ⟨_, 0, rfl, WL.S w2, f2.tr frR.A, Or.inr ⟨cs, _, rfl, by decide, ?_⟩⟩
    rw [wA_s]
    have := r2.set (l279 w2) (k := 3) (by omega) 2
    rw [hlo] at this
    exact this
  · rw [← hM] at hlo
    subst hlo
    have hnm : ¬ nI n = -1 := nI_m1 (by omega)
    rw [if_pos hnm, if_neg hnm]
    obtain ⟨W3, y1, y2, y3, y4, y5⟩ := Mod_ages_w (plan := nI n) w2 (r2.ok hg hc)
    rw [r2.1, r2.2.1] at y5
    have hca := aged_ok hg hc (nI n)
    have r3 : rowIs (W3.1 279) g (agedP g cs (nI n)) [0, a, b, c, nI n, e + 1, f] := by
      refine ⟨?_, y5, ?_, ?_, ?_⟩
      · rw [← r2.1]; exact mdG_cg (fun k hk => y4 k (by omega))
      · rw [← r2.2.2.1]
        unfold mdS
        rw [y4 3 (by omega), y4 4 (by omega), y4 5 (by omega), y4 6 (by omega), y4 7 (by omega), y4 8 (by omega), y4 10 (by omega)]
      · rw [y4 9 (by omega), r2.2.2.2.1]; unfold agedP; rw [List.length_map]
      · unfold agedP; rw [List.length_map]; exact r2.2.2.2.2
    have f3 : frR w W3 := f2.tr (Fr.R y3)
    have fo := Mod_floorOf_w (plan := nI n) y2 (r3.ok hg hca)
    rw [r3.1, r3.2.1, floor_age hg] at fo
    obtain ⟨fl, hfld⟩ : ∃ fl, fl = floorP g cs (nI n) := ⟨_, rfl⟩
    have a34 : ald 0 (hp W3) 279 4 = some a := by rw [ldN y2 (i := 4) (j := 4) rfl (by omega), r3.v.2.1]; rfl
    rw [← hfld] at fo
    have smv := sr_move hg hc hs hn hpl hfl hmin
    rw [← hfld] at smv
    have smv' : ∀ o b' m' r' e' : Int32, srOk g [o, lowP a fl, uppP b (totalP g (nI n)), b', m', r', e'] := smv
    unfold rndM
    rw [← hfld]
    have eg1 : ([0, a, b, c, d, e, f] : List Int32).getD 1 0 = a := rfl
    have eg2 : ([0, a, b, c, d, e, f] : List Int32).getD 2 0 = b := rfl
    have eg3 : ([0, a, b, c, d, e, f] : List Int32).getD 3 0 = c := rfl
    have eg5 : ([0, a, b, c, d, e, f] : List Int32).getD 5 0 = e := rfl
    have eg6 : ([0, a, b, c, d, e, f] : List Int32).getD 6 0 = f := rfl
    rw [eg1, eg2, eg3, eg5, eg6]
    -- the lower bound
    have J74 : ∃ W4, WL W4 ∧ frR w W4 ∧ rowIs (W4.1 279) g (agedP g cs (nI n)) [0, lowP a fl, b, c, nI n, e + 1, f] ∧ Mod_goesRound_j74 274 (nI n) fl (b2i (risP a fl)) (hp W3) = Mod_goesRound_j86 274 (nI n) fl (b2i (risP a fl)) (hp W4) := by
      unfold Mod_goesRound_j74 lowP
      by_cases hris : risP a fl = true
      · refine ⟨wA W3 279 ((W3.1 279).set 4 fl), WL.S y2, f3.tr frR.A, ?_, ?_⟩
        · rw [wA_s, if_pos hris]; exact r3.set (l279 y2) (k := 4) (by omega) fl
        · rw [hris, if_neg (by decide)]
          simp only [c274_5, Option.bind_some]
          rw [stN y2 (i := 4) (j := 4) rfl (by omega)]
          simp only [Option.bind_some]
      · have hris' : risP a fl = false := by simpa using hris
        refine ⟨W3, y2, f3, ?_, ?_⟩
        · rw [if_neg hris]; exact r3
        · rw [hris', if_pos (by decide)]
    obtain ⟨W4, w4, f4, r4, J74⟩ := J74
    -- the total
    obtain ⟨W5, t1, w5, t3⟩ := Mod_totalOf_w (n := n) w4 (by rw [r4.1]; exact hg) hn
    rw [r4.1] at t1
    have e5 : W5.1 279 = W4.1 279 := (t3.1 279 (by omega) (by omega)).1
    have f5 : frR w W5 := f4.tr t3.F.R
    obtain ⟨tot, htot⟩ : ∃ t, t = totalP g (nI n) := ⟨_, rfl⟩
    rw [← htot] at t1 smv' ⊢
    have r5 : rowIs (W5.1 279) g (agedP g cs (nI n)) [0, lowP a fl, b, c, nI n, e + 1, f] := by rw [e5]; exact r4
    have a55 : ald 0 (hp W5) 279 5 = some b := by rw [ldN w5 (i := 5) (j := 5) rfl (by omega), r5.v.2.2.1]; rfl
    have J86 : ∃ W6, WL W6 ∧ frR w W6 ∧ rowIs (W6.1 279) g (agedP g cs (nI n)) [0, lowP a fl, uppP b tot, besP b tot c (nI n), nI n, e + 1, f] ∧ Mod_goesRound_j86 274 (nI n) fl (b2i (risP a fl)) (hp W4) = Mod_goesRound_j136 274 (nI n) fl (b2i (risP a fl)) tot (hp W6) := by
      have keep : betP b tot = false → rowIs (W5.1 279) g (agedP g cs (nI n)) [0, lowP a fl, uppP b tot, besP b tot c (nI n), nI n, e + 1, f] := by
        intro hb
        unfold uppP besP
        rw [hb, if_neg (by decide), if_neg (by decide)]
        exact r5
      have move : betP b tot = true → ∃ W6, WL W6 ∧ frR w W6 ∧ rowIs (W6.1 279) g (agedP g cs (nI n)) [0, lowP a fl, uppP b tot, besP b tot c (nI n), nI n, e + 1, f] ∧ Mod_goesRound_j120 274 (nI n) fl (b2i (risP a fl)) tot (hp W5) = Mod_goesRound_j136 274 (nI n) fl (b2i (risP a fl)) tot (hp W6) := by
        intro hb
        have wX : WL (wA W5 279 ((W5.1 279).set 5 tot)) := WL.S w5
        refine ⟨wA (wA W5 279 ((W5.1 279).set 5 tot)) 279 (((wA W5 279 ((W5.1 279).set 5 tot)).1 279).set 6 (nI n)), WL.S wX, (f5.tr frR.A).tr frR.A, ?_, ?_⟩
        · unfold uppP besP
          rw [hb, if_pos rfl, if_pos rfl, wA_s]
          have q1 := r5.set (l279 w5) (k := 5) (by omega) tot
          have q2 := q1.set (by rw [List.length_set]; exact l279 w5) (k := 6) (by omega) (nI n)
          rw [wA_s]
          exact q2
        · simp only [Mod_goesRound_j120, c274_5, Option.bind_some]
          rw [stN w5 (i := 5) (j := 5) rfl (by omega)]
          simp only [c274_5, Option.bind_some]
          rw [stN wX (i := 6) (j := 6) rfl (by omega)]
          simp only [Option.bind_some]
      unfold Mod_goesRound_j86
      simp only [k274, Option.bind_some, t1, bnd2_some, c274_5, a55]
      by_cases h1 : tot = -1
      · rw [if_pos h1]
        exact ⟨W5, w5, f5, keep (by unfold betP; rw [decide_eq_true h1]; rfl), rfl⟩
      · rw [if_neg h1]
        by_cases h2 : b = -1
        · rw [if_pos h2]
          exact move (by unfold betP; rw [decide_eq_false h1, decide_eq_true h2]; rfl)
        · rw [if_neg h2]
          by_cases h4 : b ≤ tot
          · rw [if_pos h4]
            exact ⟨W5, w5, f5, keep (by unfold betP; rw [decide_eq_false h2, decide_eq_true h4, Bool.and_comm]; rfl), rfl⟩
          · rw [if_neg h4]
            exact move (by unfold betP; rw [decide_eq_false h1, decide_eq_false h4, Bool.or_comm]; rfl)
    obtain ⟨W6, w6, f6, r6, J86⟩ := J86
    obtain ⟨lo, hlod⟩ : ∃ x, x = lowP a fl := ⟨_, rfl⟩
    obtain ⟨up, hupd⟩ : ∃ x, x = uppP b tot := ⟨_, rfl⟩
    obtain ⟨be, hbed⟩ : ∃ x, x = besP b tot c (nI n) := ⟨_, rfl⟩
    rw [← hlod, ← hupd, ← hbed] at r6
    rw [← hlod, ← hupd] at smv'
    rw [← hlod, ← hupd, ← hbed]
    have hup := (smv' 0 0 0 0 0).up hg
    have hsm := (smv' 0 0 0 0 0).2
    have hsm' : up = -1 ∨ (lo ≠ -1 ∧ ∃ k, k < 256 ∧ isPlanP g (nI k) = true ∧ totalP g (nI k) ≠ -1 ∧ up = totalP g (nI k)) := hsm
    have hup1 : up.toInt < 16777216 := hup.1
    have hup2 : lo = -1 ∨ 0 ≤ lo.toInt := hup.2
    -- new cuts
    obtain ⟨W7, n1, w7, n3, n4, n5⟩ := Mod_finds_w (n := n) w6 (r6.ok hg hca) hn
    have e276 : W6.1 276 = w.1 276 := (f6.1 276 (by omega) (by omega) (by omega)).1
    rw [r6.1, r6.2.1, news_age hg, e276] at n4
    have e7 : W7.1 279 = W6.1 279 := (n3.1 279 (by omega) (by omega)).1
    have f7 : frR w W7 := f6.tr n3.R
    have r7 : rowIs (W7.1 279) g (agedP g cs (nI n)) [0, lo, up, be, nI n, e + 1, f] := by rw [e7]; exact r6
    have e276' : W7.1 276 = w.1 276 := (f7.1 276 (by omega) (by omega) (by omega)).1
    have a74 : ald 0 (hp W7) 279 4 = some lo := by rw [ldN w7 (i := 4) (j := 4) rfl (by omega), r7.v.2.1]; rfl
    have a75 : ald 0 (hp W7) 279 5 = some up := by rw [ldN w7 (i := 5) (j := 5) rfl (by omega), r7.v.2.2.1]; rfl
    have a72 : ald 0 (hp W7) 276 2 = some ((w.1 276).getD 2 0) := by rw [ald_w (i := 2) (j := 2) s276 rfl (by rw [l276 w7]; omega) (by omega), e276']
    have hlen4 : (nwC W7).length ≤ 4 := by
      rw [n4, news_len]
      have := cntB_le (P := pkB (keyZ g cs (nI n)) (pNc g) ((w.1 276).getD 0 0)) (pNc g)
      have := hg.1.2.2.2
      omega
    have over : ∀ o : Int32, judP lo up ((w.1 276).getD 2 0) = o → o ≠ 0 → ∃ w' x, (ast 0 (hp W7) 279 3 o).bind (fun h => some ((0 : Int32), h)) = some (x, hp w') ∧ WL w' ∧ frR w w' ∧ (((if judP lo up ((w.1 276).getD 2 0) = 0 then (if (w.1 276).getD 3 0 < nI ((leftP (risP a fl) ((w.1 276).getD 1 0) (agedP g cs (nI n))).length + (newsP g cs (nI n) ((w.1 276).getD 0 0)).length) then none else some (nI (newsP g cs (nI n) ((w.1 276).getD 0 0)).length, leftP (risP a fl) ((w.1 276).getD 1 0) (agedP g cs (nI n)) ++ newsP g cs (nI n) ((w.1 276).getD 0 0), [0, lo, up, be, nI n, e + 1, f + (nI cs.length - nI (leftP (risP a fl) ((w.1 276).getD 1 0) (agedP g cs (nI n))).length)])) else some (0, agedP g cs (nI n), [judP lo up ((w.1 276).getD 2 0), lo, up, be, nI n, e + 1, f])) = none ∧ x = -5) ∨ ∃ cs' sr', (if judP lo up ((w.1 276).getD 2 0) = 0 then (if (w.1 276).getD 3 0 < nI ((leftP (risP a fl) ((w.1 276).getD 1 0) (agedP g cs (nI n))).length + (newsP g cs (nI n) ((w.1 276).getD 0 0)).length) then none else some (nI (newsP g cs (nI n) ((w.1 276).getD 0 0)).length, leftP (risP a fl) ((w.1 276).getD 1 0) (agedP g cs (nI n)) ++ newsP g cs (nI n) ((w.1 276).getD 0 0), [0, lo, up, be, nI n, e + 1, f + (nI cs.length - nI (leftP (risP a fl) ((w.1 276).getD 1 0) (agedP g cs (nI n))).length)])) else some (0, agedP g cs (nI n), [judP lo up ((w.1 276).getD 2 0), lo, up, be, nI n, e + 1, f])) = some (x, cs', sr') ∧ 0 ≤ x.toInt ∧ rowIs (w'.1 279) g cs' sr') := by
      intro o ho ho0
      rw [stN w7 (i := 3) (j := 3) rfl (by omega), ho, if_neg ho0]
      refine ⟨_, 0, rfl, WL.S w7, f7.tr frR.A, Or.inr ⟨_, _, rfl, by decide, ?_⟩⟩
      rw [wA_s]
      exact r7.set (l279 w7) (k := 3) (by omega) o
    have go : judP lo up ((w.1 276).getD 2 0) = 0 → ∃ w' x, Mod_goesRound_j213 274 (nI n) fl (b2i (risP a fl)) tot (hp W7) = some (x, hp w') ∧ WL w' ∧ frR w w' ∧ (((if judP lo up ((w.1 276).getD 2 0) = 0 then (if (w.1 276).getD 3 0 < nI ((leftP (risP a fl) ((w.1 276).getD 1 0) (agedP g cs (nI n))).length + (newsP g cs (nI n) ((w.1 276).getD 0 0)).length) then none else some (nI (newsP g cs (nI n) ((w.1 276).getD 0 0)).length, leftP (risP a fl) ((w.1 276).getD 1 0) (agedP g cs (nI n)) ++ newsP g cs (nI n) ((w.1 276).getD 0 0), [0, lo, up, be, nI n, e + 1, f + (nI cs.length - nI (leftP (risP a fl) ((w.1 276).getD 1 0) (agedP g cs (nI n))).length)])) else some (0, agedP g cs (nI n), [judP lo up ((w.1 276).getD 2 0), lo, up, be, nI n, e + 1, f])) = none ∧ x = -5) ∨ ∃ cs' sr', (if judP lo up ((w.1 276).getD 2 0) = 0 then (if (w.1 276).getD 3 0 < nI ((leftP (risP a fl) ((w.1 276).getD 1 0) (agedP g cs (nI n))).length + (newsP g cs (nI n) ((w.1 276).getD 0 0)).length) then none else some (nI (newsP g cs (nI n) ((w.1 276).getD 0 0)).length, leftP (risP a fl) ((w.1 276).getD 1 0) (agedP g cs (nI n)) ++ newsP g cs (nI n) ((w.1 276).getD 0 0), [0, lo, up, be, nI n, e + 1, f + (nI cs.length - nI (leftP (risP a fl) ((w.1 276).getD 1 0) (agedP g cs (nI n))).length)])) else some (0, agedP g cs (nI n), [judP lo up ((w.1 276).getD 2 0), lo, up, be, nI n, e + 1, f])) = some (x, cs', sr') ∧ 0 ≤ x.toInt ∧ rowIs (w'.1 279) g cs' sr') := by
      intro hj
      obtain ⟨Y, x, q1, q2, q3, q4⟩ := gr_drop (v1 := nI n) (v2 := fl) (v4 := tot) (ris := risP a fl) w7 hg r7 n5 hlen4 (by rw [e276']; exact hroom) (by rw [e276']; exact hkeep) rfl
      rw [e276', n4] at q4
      have elen : (agedP g cs (nI n)).length = cs.length := by unfold agedP; rw [List.length_map]
      rw [elen] at q4
      rw [if_pos hj]
      refine ⟨Y, x, q1, q2, f7.tr q3, ?_⟩
      rcases q4 with ⟨z1, z2⟩ | ⟨z1, z2, z3⟩
      · rw [if_pos z1]; exact Or.inl ⟨rfl, z2⟩
      · rw [if_neg z1]
        have z3' : rowIs (Y.1 279) g (leftP (risP a fl) ((w.1 276).getD 1 0) (agedP g cs (nI n)) ++ newsP g cs (nI n) ((w.1 276).getD 0 0)) [0, lo, up, be, nI n, e + 1, f + (nI cs.length - nI (leftP (risP a fl) ((w.1 276).getD 1 0) (agedP g cs (nI n))).length)] := z3
        refine Or.inr ⟨_, _, by rw [z2], ?_, z3'⟩
        rw [z2, nI_toInt (by rw [← n4]; omega)]
        omega
    have fin : ∃ w' x, Mod_goesRound_j136 274 (nI n) fl (b2i (risP a fl)) tot (hp W6) = some (x, hp w') ∧ WL w' ∧ frR w w' ∧ (((if judP lo up ((w.1 276).getD 2 0) = 0 then (if (w.1 276).getD 3 0 < nI ((leftP (risP a fl) ((w.1 276).getD 1 0) (agedP g cs (nI n))).length + (newsP g cs (nI n) ((w.1 276).getD 0 0)).length) then none else some (nI (newsP g cs (nI n) ((w.1 276).getD 0 0)).length, leftP (risP a fl) ((w.1 276).getD 1 0) (agedP g cs (nI n)) ++ newsP g cs (nI n) ((w.1 276).getD 0 0), [0, lo, up, be, nI n, e + 1, f + (nI cs.length - nI (leftP (risP a fl) ((w.1 276).getD 1 0) (agedP g cs (nI n))).length)])) else some (0, agedP g cs (nI n), [judP lo up ((w.1 276).getD 2 0), lo, up, be, nI n, e + 1, f])) = none ∧ x = -5) ∨ ∃ cs' sr', (if judP lo up ((w.1 276).getD 2 0) = 0 then (if (w.1 276).getD 3 0 < nI ((leftP (risP a fl) ((w.1 276).getD 1 0) (agedP g cs (nI n))).length + (newsP g cs (nI n) ((w.1 276).getD 0 0)).length) then none else some (nI (newsP g cs (nI n) ((w.1 276).getD 0 0)).length, leftP (risP a fl) ((w.1 276).getD 1 0) (agedP g cs (nI n)) ++ newsP g cs (nI n) ((w.1 276).getD 0 0), [0, lo, up, be, nI n, e + 1, f + (nI cs.length - nI (leftP (risP a fl) ((w.1 276).getD 1 0) (agedP g cs (nI n))).length)])) else some (0, agedP g cs (nI n), [judP lo up ((w.1 276).getD 2 0), lo, up, be, nI n, e + 1, f])) = some (x, cs', sr') ∧ 0 ≤ x.toInt ∧ rowIs (w'.1 279) g cs' sr') := by
      unfold Mod_goesRound_j136
      simp only [k274, Option.bind_some, n1, bnd2_some, c274_5, a75, a74]
      by_cases hu1 : up = -1
      · rw [if_pos hu1]
        unfold Mod_goesRound_j175
        simp only [c274_5, a75, Option.bind_some]
        rw [if_pos hu1]
        exact go (by unfold judP; rw [if_pos hu1])
      · rw [if_neg hu1]
        have hlo0 : 0 ≤ lo.toInt := by
          rcases hsm' with h | ⟨h, _⟩
          · exact absurd h hu1
          · rcases hup2 with h' | h'
            · exact absurd h' h
            · exact h'
        by_cases hlu : lo < up
        · rw [if_pos hlu]
          have hlu' := ti_lt.mp hlu
          unfold Mod_goesRound_j175
          have gn := Mod_gapNow_w (w := W7) (lo := lo) (up := up) w7 (by rw [r7.v.2.1]; rfl) (by rw [r7.v.2.2.1]; rfl) hlo0 (by omega) hup1
          simp only [c274_5, a75, Option.bind_some, k274, gn, bnd2_some, c274_2, a72, tol_ok ht]
          rw [if_neg hu1]
          by_cases hcmp : 0 < Op.cmpValue (FP.fcmp (gapP lo up) (FP.fdiv (FP.i2f ((w.1 276).getD 2 0)) 1148846080)) .g
          · rw [if_pos hcmp]
            exact go (by unfold judP; rw [if_neg hu1, if_pos hlu, if_pos hcmp])
          · rw [if_neg hcmp]
            exact over 3 (by unfold judP; rw [if_neg hu1, if_pos hlu, if_neg hcmp]) (by decide)
        · rw [if_neg hlu]
          exact over 1 (by unfold judP; rw [if_neg hu1, if_neg hlu]) (by decide)
    rw [← J86, ← J74] at fin
    simp only [k274, Option.bind_some, y1, bnd2_some, fo, c274_5, a34, Mod_goesRound_j69]
    by_cases h1 : a = -1
    · rw [if_pos h1]
      have : (1 : Int32) = b2i (risP a fl) := by unfold risP; rw [decide_eq_true h1]; rfl
      rw [← this] at fin
      exact fin
    · rw [if_neg h1]
      by_cases h2 : fl ≤ a
      · rw [if_pos h2]
        have : (0 : Int32) = b2i (risP a fl) := by unfold risP; rw [decide_eq_false h1, decide_eq_true h2]; rfl
        rw [← this] at fin
        exact fin
      · rw [if_neg h2]
        have : (1 : Int32) = b2i (risP a fl) := by unfold risP; rw [decide_eq_false h1, decide_eq_false h2]; rfl
        rw [← this] at fin
        exact fin
