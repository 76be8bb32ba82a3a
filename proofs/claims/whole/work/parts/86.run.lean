def frE (w w' : Wd) (a sa : Nat) : Prop := ∀ i, (i < 17 ∨ 40 ≤ i) → (i < a ∨ a + 6 ≤ i) → i ≠ sa → w'.1 i = w.1 i ∧ w'.2 i = w.2 i
theorem frE.tr {w w' w'' : Wd} {a sa : Nat} (h1 : frE w w' a sa) (h2 : frE w' w'' a sa) : frE w w'' a sa := fun i x y z => ⟨(h2 i x y z).1.trans (h1 i x y z).1, (h2 i x y z).2.trans (h1 i x y z).2⟩
theorem frE.of {w w' : Wd} {a sa : Nat} (h : Fr w w' 17 40) : frE w w' a sa := fun i x _ _ => h i x
theorem frE.pd {w w' : Wd} {a m sa ta : Nat} (hpl : plOk a m sa ta) (hF : frE w w' a sa) : pdW w' 2 = pdW w 2 := by
  obtain ⟨p1, p2, p3, p4, p5, p6, p7, p8, p9, p10, p11, p12⟩ := hpl
  unfold pdW
  rw [(hF 2 (by omega) (by omega) (by omega)).2, (hF (2 + 1) (by omega) (by omega) (by omega)).1, (hF (2 + 2) (by omega) (by omega) (by omega)).1, (hF (2 + 3) (by omega) (by omega) (by omega)).1, (hF (2 + 4) (by omega) (by omega) (by omega)).1, (hF (2 + 5) (by omega) (by omega) (by omega)).1, (hF (2 + 6) (by omega) (by omega) (by omega)).1]
theorem eg_fr {V W : Wd} {a m sa ta : Nat} (hpl : plOk a m sa ta) (he : egOk V a m sa ta) (hW : WL W) (hF : Fr V W 17 40) (hk : bkOk W (pdW V 2)) (hb : W.2 33 0 = 0 ∧ bdA W (pdW V 2) (cutsW V a)) : egOk W a m sa ta ∧ cutsW W a = cutsW V a ∧ srW W sa = srW V sa ∧ W.1 ta = V.1 ta := by
  have epd := frE.pd hpl (frE.of (a := a) (sa := sa) hF)
  obtain ⟨p1, p2, p3, p4, p5, p6, p7, p8, p9, p10, p11, p12⟩ := hpl
  obtain ⟨h1, h2, h3, h4, h5, h6, h7, h8, h9, h10, h11⟩ := he
  have ec : cutsW W a = cutsW V a := cuts_fr hF (by omega)
  have es : srW W sa = srW V sa := sr_fr hF (by omega)
  have et : W.1 ta = V.1 ta := (hF ta p10).1
  refine ⟨⟨hW, by rw [epd]; exact h2, by rw [epd]; exact hk, cSz_fr hF (by omega) h4, by rw [(hF a (by omega)).2]; exact h5, by rw [epd, ec]; exact h6, by rw [epd, es]; exact h7, Or.inr ⟨hb.1, by rw [epd, ec]; exact hb.2⟩, by rw [et]; exact h9, by rw [et]; exact h10, by rw [et]; exact h11⟩, ec, es, et⟩
theorem Eng_run_w {w : Wd} {a m sa ta k : Nat} (hpl : plOk a m sa ta) (he : egOk w a m sa ta) (hk : k ≤ 99) : ∃ w', Eng_run 17 2 a sa ta (nI k) (hp w) = some (nI (runP (pdW w 2) (w.1 ta) k (cutsW w a) (srW w sa)).1, hp w') ∧ egOk w' a m sa ta ∧ frE w w' a sa ∧ (cutsW w' a, srW w' sa) = (runP (pdW w 2) (w.1 ta) k (cutsW w a) (srW w sa)).2 := by
  obtain ⟨q, i1, V, hq, hV, hF, hr⟩ := iter_I (body := Eng_run_b6 17 2 a sa ta (nI k)) (fun j st => ∃ V, st = (nI j, nI j, hp V) ∧ egOk V a m sa ta ∧ frE w V a sa ∧ runP (pdW w 2) (w.1 ta) k (cutsW w a) (srW w sa) = ((runP (pdW w 2) (w.1 ta) (k - j) (cutsW V a) (srW V sa)).1 + j, (runP (pdW w 2) (w.1 ta) (k - j) (cutsW V a) (srW V sa)).2)) (fun r => ∃ V, (∃ d x, (r = Sum.inl (nI d, x, hp V) ∨ r = Sum.inr (nI d, x, hp V)) ∧ d = (runP (pdW w 2) (w.1 ta) k (cutsW w a) (srW w sa)).1) ∧ egOk V a m sa ta ∧ frE w V a sa ∧ (cutsW V a, srW V sa) = (runP (pdW w 2) (w.1 ta) k (cutsW w a) (srW w sa)).2) k (s0 := (0, 0, hp w)) (by omega) ⟨w, rfl, he, fun _ _ _ _ => ⟨rfl, rfl⟩, rfl⟩ (by
    rintro j st hj ⟨V, rfl, hV, hF, hr⟩
    have hcn : ¬ nI k ≤ nI j := nI_ge hj (by omega)
    have hsa : isSr sa := hpl.2.2.2.1
    have epd := hF.pd hpl
    have et : V.1 ta = w.1 ta := (hF ta hpl.2.2.2.2.2.2.2.2.2.1 hpl.2.2.2.2.2.2.2.2.2.2.1 hpl.2.2.2.2.2.2.2.2.2.2.2).1
    have g0 : gfI (hp V) sa 7 0 = some ((srW V sa).getD 0 0) := by rw [sr_get (by omega)]; exact gfI_w hsa rfl
    rw [show k - j = (k - (j + 1)) + 1 by omega] at hr
    simp only [Eng_run_b6, if_neg hcn, g0, Option.bind_some]
    by_cases hov : (srW V sa).getD 0 0 = 0
    · rw [if_neg (fun h => h hov)]
      obtain ⟨W, ok, d1, d2, d3, d4, d5, d6⟩ := Eng_one hpl hV
      obtain ⟨eW, ecW, esW, etW⟩ := eg_fr hpl hV d2 d3 d4 d5
      simp only [k17, Option.bind_some, d1, bnd2_some]
      rcases d6 with ⟨rfl, hnone⟩ | ⟨rfl, hd⟩
      · right
        rw [if_neg (by decide)]
        rw [epd, et] at hnone
        have e0 : runP (pdW w 2) (w.1 ta) (k - (j + 1) + 1) (cutsW V a) (srW V sa) = (0, cutsW V a, srW V sa) := by
          rw [runP, if_pos hov, hnone]
        rw [e0] at hr
        exact ⟨_, rfl, W, ⟨j, _, Or.inl rfl, by rw [hr]; simp⟩, eW, hF.tr (frE.of d3), by rw [hr, ecW, esW]⟩
      · left
        rw [if_pos (by decide)]
        obtain ⟨X, came, a1, a2⟩ := Eng_do hpl hV hd
        have at1 : ald 0 (hp W) ta 1 = some ((V.1 ta).getD 1 0) := by rw [ald_w (w := W) (i := 1) (j := 1) hpl.2.2.2.2.2.2.2.1 rfl (by rw [etW]; have := hV.2.2.2.2.2.2.2.2.2.2; omega) (by omega), etW]
        simp only [at1, Option.bind_some, k17, a1, bnd2_some, nI_1]
        have eX := a2.eg hpl hV
        have r1 := a2.1
        rw [epd, et] at r1
        have e0 : runP (pdW w 2) (w.1 ta) (k - (j + 1) + 1) (cutsW V a) (srW V sa) = ((runP (pdW w 2) (w.1 ta) (k - (j + 1)) (cutsW X a) (srW X sa)).1 + 1, (runP (pdW w 2) (w.1 ta) (k - (j + 1)) (cutsW X a) (srW X sa)).2) := by
          rw [runP, if_pos hov, r1]
        rw [e0] at hr
        refine ⟨_, rfl, X, rfl, eX, hF.tr (fun i x y z => a2.2.2.2.2.2.2 i x y z), ?_⟩
        rw [hr]
        simp only [Prod.mk.injEq, and_true]
        omega
    · right
      rw [if_pos hov]
      have e0 : runP (pdW w 2) (w.1 ta) (k - (j + 1) + 1) (cutsW V a) (srW V sa) = (0, cutsW V a, srW V sa) := by
        rw [runP, if_neg hov]
      rw [e0] at hr
      exact ⟨_, rfl, V, ⟨j, _, Or.inr rfl, by rw [hr]; simp⟩, hV, hF, by rw [hr]⟩) (by
    rintro st ⟨V, rfl, hV, hF, hr⟩
    rw [show k - k = 0 by omega, runP] at hr
    exact ⟨Sum.inr (nI k, nI k, hp V), by simp only [Eng_run_b6, if_pos (nI_le (Nat.le_refl _) (show k < 2 ^ 31 by omega))], V, ⟨k, _, Or.inr rfl, by rw [hr]; simp⟩, hV, hF, by rw [hr]⟩)
  refine ⟨V, ?_, hV, hF, hr⟩
  obtain ⟨d, x, h1, h2⟩ := hq
  rw [← h2]
  rcases h1 with rfl | rfl
  · simp only [Eng_run, i1, Option.bind_some, Sum.elim_inl, Eng_run_j32]
  · simp only [Eng_run, i1, Option.bind_some, Sum.elim_inr, Eng_run_j56]
