/-! the reference: rounds after rounds -/
theorem Mod_rstep {w : Wd} {g : PD} {cs : List (List Int32)} {sr : List Int32} (hw : WL w) (hg : wfP g) (hc : csOk g cs) (hs : srOk g sr) (hr : rowIs (w.1 279) g cs sr) (ht : tmOk (w.1 276)) (hroom : ((w.1 276).getD 3 0).toInt ≤ 99) (hkeep : 0 ≤ ((w.1 276).getD 1 0).toInt) (h3 : sr.getD 0 0 = 0) : ∃ w' x, Mod_goesRound 274 (hp w) = some (x, hp w') ∧ WL w' ∧ frR w w' ∧ ((rndP g cs sr (w.1 276) = none ∧ x = -5) ∨ ∃ cs' sr', rndP g cs sr (w.1 276) = some (x, cs', sr') ∧ 0 ≤ x.toInt ∧ rowIs (w'.1 279) g cs' sr' ∧ csOk g cs' ∧ srOk g sr') := by
  obtain ⟨w', x, a1, a2, a3, a4⟩ := Mod_goesRound_w hw (hr.ok hg hc) (by rw [hr.1, hr.2.2.1]; exact hs) ht hroom hkeep (by rw [hr.v.1]; exact h3)
  rw [hr.1, hr.2.1, hr.2.2.1] at a4
  refine ⟨w', x, a1, a2, a3, ?_⟩
  rcases a4 with a4 | ⟨cs', sr', b1, b2, b3⟩
  · exact .inl a4
  · obtain ⟨r1, r2⟩ := rnd_ok hg hc hs b1
    exact .inr ⟨cs', sr', b1, b2, b3, r1, r2⟩
theorem run_no {g : PD} {tm : List Int32} {k : Nat} {cs : List (List Int32)} {sr : List Int32} (h : ¬ sr.getD 0 0 = 0) : runP g tm k cs sr = (0, cs, sr) := by
  cases k with
  | zero => rfl
  | succ k => rw [runP, if_neg h]
theorem Mod_would_loop {w : Wd} {g : PD} {cs : List (List Int32)} {sr : List Int32} {a b : Int32} (hw : WL w) (hg : wfP g) (hc : csOk g cs) (hs : srOk g sr) (hr : rowIs (w.1 279) g cs sr) (ht : tmOk (w.1 276)) (hroom : ((w.1 276).getD 3 0).toInt ≤ 99) (hkeep : 0 ≤ ((w.1 276).getD 1 0).toInt) : ∃ c ok V, iter (Mod_would_b96 274 a b) Lmax (0, 1, hp w) = some (c, ok, hp V) ∧ WL V ∧ frR w V ∧ ((ok = 0 ∧ (runP g (w.1 276) 99 cs sr).2.2.getD 0 0 = 0) ∨ (ok = 1 ∧ c = nI (runP g (w.1 276) 99 cs sr).1 ∧ (V.1 279).getD 3 0 = (runP g (w.1 276) 99 cs sr).2.2.getD 0 0)) := by
  obtain ⟨R, hR⟩ : ∃ R, R = runP g (w.1 276) 99 cs sr := ⟨_, rfl⟩
  rw [← hR]
  obtain ⟨q, i1, c, ok, V, rfl, hV, hF, hq⟩ := iter_I (body := Mod_would_b96 274 a b) (fun j s => (∃ V cs' sr', s = (nI j, 1, hp V) ∧ WL V ∧ frR w V ∧ rowIs (V.1 279) g cs' sr' ∧ csOk g cs' ∧ srOk g sr' ∧ R = ((runP g (w.1 276) (99 - j) cs' sr').1 + j, (runP g (w.1 276) (99 - j) cs' sr').2)) ∨ (∃ V, s = (nI j, 0, hp V) ∧ WL V ∧ frR w V ∧ R.2.2.getD 0 0 = 0)) (fun r => ∃ c ok V, r = (c, ok, hp V) ∧ WL V ∧ frR w V ∧ ((ok = 0 ∧ R.2.2.getD 0 0 = 0) ∨ (ok = 1 ∧ c = nI R.1 ∧ (V.1 279).getD 3 0 = R.2.2.getD 0 0))) 99 (s0 := (0, 1, hp w)) (by omega) (.inl ⟨w, cs, sr, rfl, hw, frR.rfl', hr, hc, hs, by rw [hR]; rfl⟩) (by
    rintro j s hj (⟨V, cs', sr', rfl, hV, hF, hr', hc', hs', hR'⟩ | ⟨V, rfl, hV, hF, h0⟩)
    · have hcn : ¬ (99 : Int32) ≤ nI j := nI_ge (b := 99) hj (by omega)
      have a3 : ald 0 (hp V) 279 3 = some (sr'.getD 0 0) := by rw [ldN hV (i := 3) (j := 3) rfl (by omega), hr'.v.1]
      simp only [Mod_would_b96, if_neg (show ¬ (1 : Int32) = 0 by decide), if_neg hcn, c274_5, a3, Option.bind_some, k274]
      by_cases h0 : sr'.getD 0 0 = 0
      · left
        rw [if_neg (fun h => h h0)]
        have e276 : V.1 276 = w.1 276 := (hF.1 276 (by omega) (by omega) (by omega)).1
        obtain ⟨V', x, b1, b2, b3, b4⟩ := Mod_rstep hV hg hc' hs' hr' (by rw [e276]; exact ht) (by rw [e276]; exact hroom) (by rw [e276]; exact hkeep) h0
        rw [e276] at b4
        simp only [b1, bnd2_some, Mod_would_j128, nI_1]
        rw [show 99 - j = (99 - (j + 1)) + 1 by omega] at hR'
        rcases b4 with ⟨n1, n2⟩ | ⟨cs2, sr2, n1, n2, n3, n4, n5⟩
        · rw [n2, if_pos (by decide)]
          refine ⟨_, rfl, .inr ⟨V', rfl, b2, hF.tr b3, ?_⟩⟩
          rw [hR', runP, if_pos h0, n1]
          exact h0
        · rw [if_neg (by rw [ti_lt, ti_0]; omega)]
          refine ⟨_, rfl, .inl ⟨V', cs2, sr2, rfl, b2, hF.tr b3, n3, n4, n5, ?_⟩⟩
          rw [hR', runP, if_pos h0, n1]
          simp only [Prod.mk.injEq, and_true]
          omega
      · right
        rw [if_pos h0]
        rw [run_no h0] at hR'
        refine ⟨_, rfl, nI j, 1, V, rfl, hV, hF, .inr ⟨rfl, ?_, ?_⟩⟩
        · rw [hR']; simp only [Nat.zero_add]
        · rw [hR', hr'.v.1]
    · right
      exact ⟨_, by simp only [Mod_would_b96, if_true], nI j, 0, V, rfl, hV, hF, .inl ⟨rfl, h0⟩⟩) (by
    rintro s (⟨V, cs', sr', rfl, hV, hF, hr', hc', hs', hR'⟩ | ⟨V, rfl, hV, hF, h0⟩)
    · refine ⟨_, by simp only [Mod_would_b96, if_neg (show ¬ (1 : Int32) = 0 by decide), if_pos (show (99 : Int32) ≤ nI 99 by decide)], nI 99, 1, V, rfl, hV, hF, .inr ⟨rfl, ?_, ?_⟩⟩
      · rw [hR', Nat.sub_self]; rfl
      · rw [hR', Nat.sub_self, hr'.v.1]; rfl
    · exact ⟨_, by simp only [Mod_would_b96, if_true], nI 99, 0, V, rfl, hV, hF, .inl ⟨rfl, h0⟩⟩)
  exact ⟨c, ok, V, i1, hV, hF, hq⟩
/-- the loop of go: the row is kept before each round -/
theorem Mod_go_loop {w : Wd} {g : PD} {cs : List (List Int32)} {sr : List Int32} {k : Nat} (hk : k ≤ 99) (hw : WL w) (hg : wfP g) (hc : csOk g cs) (hs : srOk g sr) (hr : rowIs (w.1 279) g cs sr) (ht : tmOk (w.1 276)) (hroom : ((w.1 276).getD 3 0).toInt ≤ 99) (hkeep : 0 ≤ ((w.1 276).getD 1 0).toInt) : ∃ ok V, iter (Mod_go_b40 274 (nI k)) Lmax (0, 1, hp w) = some (nI (runP g (w.1 276) k cs sr).1, ok, hp V) ∧ WL V ∧ (∀ i, i ≠ 274 → i ≠ 279 → i ≠ 281 → (i < 287 ∨ 291 ≤ i) → V.1 i = w.1 i ∧ V.2 i = w.2 i) ∧ (∀ k, k ≠ 21 → k ≠ 22 → k ≠ 27 → V.2 274 k = w.2 274 k) ∧ rowIs (V.1 279) g (runP g (w.1 276) k cs sr).2.1 (runP g (w.1 276) k cs sr).2.2 ∧ csOk g (runP g (w.1 276) k cs sr).2.1 ∧ srOk g (runP g (w.1 276) k cs sr).2.2 := by
  obtain ⟨R, hR⟩ : ∃ R, R = runP g (w.1 276) k cs sr := ⟨_, rfl⟩
  obtain ⟨F, hFd⟩ : ∃ F : Wd → Prop, F = fun V => WL V ∧ (∀ i, i ≠ 274 → i ≠ 279 → i ≠ 281 → (i < 287 ∨ 291 ≤ i) → V.1 i = w.1 i ∧ V.2 i = w.2 i) ∧ (∀ k, k ≠ 21 → k ≠ 22 → k ≠ 27 → V.2 274 k = w.2 274 k) := ⟨_, rfl⟩
  have hF1 : ∀ V, F V → WL V ∧ (∀ i, i ≠ 274 → i ≠ 279 → i ≠ 281 → (i < 287 ∨ 291 ≤ i) → V.1 i = w.1 i ∧ V.2 i = w.2 i) ∧ (∀ k, k ≠ 21 → k ≠ 22 → k ≠ 27 → V.2 274 k = w.2 274 k) := fun V h => by rw [hFd] at h; exact h
  have hF2 : ∀ V, (WL V ∧ (∀ i, i ≠ 274 → i ≠ 279 → i ≠ 281 → (i < 287 ∨ 291 ≤ i) → V.1 i = w.1 i ∧ V.2 i = w.2 i) ∧ (∀ k, k ≠ 21 → k ≠ 22 → k ≠ 27 → V.2 274 k = w.2 274 k)) → F V := fun V h => by rw [hFd]; exact h
  rw [← hR]
  have main := iter_I (body := Mod_go_b40 274 (nI k)) (fun j s => (∃ V cs' sr', s = (nI j, 1, hp V) ∧ F V ∧ rowIs (V.1 279) g cs' sr' ∧ csOk g cs' ∧ srOk g sr' ∧ R = ((runP g (w.1 276) (k - j) cs' sr').1 + j, (runP g (w.1 276) (k - j) cs' sr').2)) ∨ (∃ V, s = (nI R.1, 0, hp V) ∧ F V ∧ rowIs (V.1 279) g R.2.1 R.2.2 ∧ csOk g R.2.1 ∧ srOk g R.2.2)) (fun r => ∃ ok V, r = (nI R.1, ok, hp V) ∧ F V ∧ rowIs (V.1 279) g R.2.1 R.2.2 ∧ csOk g R.2.1 ∧ srOk g R.2.2) k (s0 := (0, 1, hp w)) (by omega) (.inl ⟨w, cs, sr, rfl, hF2 w ⟨hw, fun _ _ _ _ _ => ⟨rfl, rfl⟩, fun _ _ _ _ => rfl⟩, hr, hc, hs, by rw [hR]; rfl⟩) (by
    rintro j s hj (⟨V, cs', sr', rfl, hV, hr', hc', hs', hR'⟩ | ⟨V, rfl, hV, hr', hc', hs'⟩)
    · obtain ⟨v1, v2, v3⟩ := hF1 V hV
      have hcn : ¬ nI k ≤ nI j := nI_ge hj (by omega)
      have a3 : ald 0 (hp V) 279 3 = some (sr'.getD 0 0) := by rw [ldN v1 (i := 3) (j := 3) rfl (by omega), hr'.v.1]
      simp only [Mod_go_b40, if_neg (show ¬ (1 : Int32) = 0 by decide), if_neg hcn, c274_5, a3, Option.bind_some]
      by_cases h0 : sr'.getD 0 0 = 0
      · left
        rw [if_neg (fun h => h h0)]
        obtain ⟨q, i1, U, rfl, hU⟩ := iter_I (body := Mod_go_b61 274 (nI k) (nI j) 1) (fun j s => ∃ W, s = (nI j, hp W) ∧ cpI V W 281 279 j) (fun r => ∃ W, r = (nI 1427, hp W) ∧ cpI V W 281 279 1427) 1427 (s0 := (0, hp V)) (by omega) ⟨V, rfl, cpI.zero v1⟩ (by
          rintro i s hi ⟨W, rfl, hW⟩
          left
          have hcn : ¬ (1427 : Int32) ≤ nI i := nI_ge (b := 1427) hi (by omega)
          have a1 : ald 0 (hp W) 279 (nI i) = some ((W.1 279).getD i 0) := ldN hW.1 rfl hi
          have a2 : ast 0 (hp W) 281 (nI i) ((W.1 279).getD i 0) = some (hp (wA W 281 ((W.1 281).set i ((W.1 279).getD i 0)))) := ast_w s281 rfl (by rw [l281 hW.1]; exact hi) (by omega)
          exact ⟨_, by simp only [Mod_go_b61, if_neg hcn, c274_7, c274_5, Option.bind_some, a1, a2, nI_1], _, rfl, hW.step (by omega) hi⟩) (by
          rintro s ⟨W, rfl, hW⟩
          exact ⟨(nI 1427, hp W), by simp only [Mod_go_b61, if_pos (show (1427 : Int32) ≤ nI 1427 by decide)], W, rfl, hW⟩)
        have u281 := hU.fin v1 rfl rfl
        have u279 : U.1 279 = V.1 279 := (hU.2.1 279 (by omega)).1
        have u276 : U.1 276 = w.1 276 := ((hU.2.1 276 (by omega)).1).trans (v2 276 (by omega) (by omega) (by omega) (by omega)).1
        rw [i1]
        simp only [Option.bind_some, Mod_go_j89, k274]
        obtain ⟨V', x, b1, b2, b3, b4⟩ := Mod_rstep hU.1 hg hc' hs' (by rw [u279]; exact hr') (by rw [u276]; exact ht) (by rw [u276]; exact hroom) (by rw [u276]; exact hkeep) h0
        rw [u276] at b4
        simp only [b1, bnd2_some, Mod_go_j101, nI_1]
        rw [show k - j = (k - (j + 1)) + 1 by omega] at hR'
        have fV' : F V' := hF2 V' ⟨b2, fun i i1 i2 i3 i4 => ⟨((b3.1 i i1 i2 i4).1.trans (hU.2.1 i (by omega)).1).trans (v2 i i1 i2 i3 i4).1, ((b3.1 i i1 i2 i4).2.trans (hU.2.1 i (by omega)).2).trans (v2 i i1 i2 i3 i4).2⟩, fun k k1 k2 k3 => by rw [b3.2.2 k k1 k2 k3, hU.2.2.1]; exact v3 k k1 k2 k3⟩
        rcases b4 with ⟨n1, n2⟩ | ⟨cs2, sr2, n1, n2, n3, n4, n5⟩
        · rw [n2, if_pos (by decide), if_pos trivial, c274_7, Option.bind_some, k274, Option.bind_some]
          obtain ⟨X, x1, x2, x3, x4, x5⟩ := Mod_comesBack_w (b := 281) b2 s281 rfl (by omega)
          rw [x1]
          simp only [bnd2_some]
          have e : R = (j, cs', sr') := by
            rw [hR', runP, if_pos h0, n1]
            simp only [Nat.zero_add]
          obtain ⟨f1, f2, f3⟩ := hF1 V' fV'
          refine ⟨_, rfl, .inr ⟨X, by rw [e], hF2 X ⟨x2, fun i i1 i2 i3 i4 => ⟨(x5 i (by omega)).1.trans (f2 i i1 i2 i3 i4).1, (x5 i (by omega)).2.trans (f2 i i1 i2 i3 i4).2⟩, fun k k1 k2 k3 => by rw [x4]; exact f3 k k1 k2 k3⟩, ?_, by rw [e]; exact hc', by rw [e]; exact hs'⟩⟩
          rw [x3, (b3.1 281 (by omega) (by omega) (by omega)).1, u281, e]
          exact hr'
        · rw [if_neg (by rw [ti_lt, ti_0]; omega), if_neg (by decide)]
          refine ⟨_, rfl, .inl ⟨V', cs2, sr2, rfl, fV', n3, n4, n5, ?_⟩⟩
          rw [hR', runP, if_pos h0, n1]
          simp only [Prod.mk.injEq, and_true]
          omega
      · right
        rw [if_pos h0]
        rw [run_no h0] at hR'
        have e : R = (j, cs', sr') := by rw [hR']; simp only [Nat.zero_add]
        exact ⟨_, rfl, 1, V, by rw [e], hV, by rw [e]; exact hr', by rw [e]; exact hc', by rw [e]; exact hs'⟩
    · right
      exact ⟨_, by simp only [Mod_go_b40, if_true], 0, V, rfl, hV, hr', hc', hs'⟩) (by
    rintro s (⟨V, cs', sr', rfl, hV, hr', hc', hs', hR'⟩ | ⟨V, rfl, hV, hr', hc', hs'⟩)
    · rw [Nat.sub_self] at hR'
      have e : R = (k, cs', sr') := by
        rw [hR']
        show ((0 + k : Nat), cs', sr') = _
        rw [Nat.zero_add]
      exact ⟨(nI k, 1, hp V), by simp only [Mod_go_b40, if_neg (show ¬ (1 : Int32) = 0 by decide), if_pos (show nI k ≤ nI k from nI_le (Nat.le_refl _) (by omega))], 1, V, by rw [e], hV, by rw [e]; exact hr', by rw [e]; exact hc', by rw [e]; exact hs'⟩
    · exact ⟨_, by simp only [Mod_go_b40, if_true], 0, V, rfl, hV, hr', hc', hs'⟩)
  obtain ⟨q, i1, ok, V, rfl, hV, hr1, hc1, hs1⟩ := main
  obtain ⟨v1, v2, v3⟩ := hF1 V hV
  exact ⟨ok, V, i1, v1, v2, v3, hr1, hc1, hs1⟩
