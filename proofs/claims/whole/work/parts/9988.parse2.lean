/-! the whole text -/
def parP (tp : List Int32) : Nat → Nat → PD → Nat → Nat × Option (Nat × PD)
  | 0, _, _, s => (s, none)
  | f + 1, l, g, s => match (lineP tp g s).2 with
    | none => ((lineP tp g s).1, none)
    | some g' => if (lineP tp g s).1 < tp.length then (if tp.getD (lineP tp g s).1 0 = 59 then parP tp f (l + 1) g' (nxT tp (lineP tp g s).1) else ((lineP tp g s).1, none)) else ((lineP tp g s).1, some (l + 1, g'))
theorem parP_f {tp : List Int32} {f l : Nat} {g : PD} {s : Nat} (e : (lineP tp g s).2 = none) : parP tp (f + 1) l g s = ((lineP tp g s).1, none) := by
  simp only [parP, e]
theorem parP_s {tp : List Int32} {f l : Nat} {g g' : PD} {s : Nat} (e : (lineP tp g s).2 = some g') : parP tp (f + 1) l g s = if (lineP tp g s).1 < tp.length then (if tp.getD (lineP tp g s).1 0 = 59 then parP tp f (l + 1) g' (nxT tp (lineP tp g s).1) else ((lineP tp g s).1, none)) else ((lineP tp g s).1, some (l + 1, g')) := by
  simp only [parP, e]
theorem zRep (n k : Nat) : (List.replicate n (0 : Int32)).getD k 0 = 0 := by
  rw [List.getD_eq_getElem?_getD, List.getElem?_replicate]
  split <;> rfl
theorem wf_pd0 : wfP pd0 := by
  have z4 : ∀ k : Nat, (List.replicate 4 (0 : Int32)).getD k 0 = 0 := zRep 4
  have z24 : ∀ k : Nat, (List.replicate 24 (0 : Int32)).getD k 0 = 0 := zRep 24
  have m24 : ∀ k : Fin 24, (List.replicate 24 (-1 : Int32)).getD k.1 0 = -1 := by decide +kernel
  have e1 : ∀ p, pFee pd0 p = 0 := z4
  have e2 : ∀ p, pSize pd0 p = 0 := z4
  have e3 : ∀ p, pMost pd0 p = 0 := z4
  have e4 : ∀ p s, p < 4 → s < 6 → pToll pd0 p s = -1 := fun p s h1 h2 => m24 ⟨p * 6 + s, by omega⟩
  have e5 : ∀ c, pWt pd0 c = 0 := z4
  have e6 : ∀ c s, pNeed pd0 c s = 0 := fun c s => z24 _
  have hp0 : pNp pd0 = 0 := by decide +kernel
  have hc0 : pNc pd0 = 0 := by decide +kernel
  refine ⟨by decide +kernel, by decide +kernel, fun p _ => ?_, fun p h => ?_, fun p _ _ => ⟨e1 p, e2 p, e3 p⟩, fun p s h1 h2 => ?_, fun p s h1 h2 _ => e4 p s h1 h2, fun c h => ?_, fun c _ _ => e5 c, fun c s _ _ => ?_, fun c s _ _ _ => e6 c s⟩
  · rw [e1, e2, e3]; unfold rng; decide
  · rw [hp0] at h; omega
  · rw [e4 p s h1 h2]; unfold rng; decide
  · rw [hc0] at h; omega
  · rw [e6]; unfold rng; decide
theorem pgLen_42 : pgLen 42 := ⟨by decide +kernel, by decide +kernel, by decide +kernel, by decide +kernel, by decide +kernel, by decide +kernel⟩
theorem kd_59 : kdB 59 = 3 := by decide
theorem kdB_ne0 {d : Int32} : ¬ kdB d = 0 := by
  rcases kdB_cases d with h | h | h <;> rw [h] <;> decide
def parC (w' : Wd) (x : Int32) (R : Nat × Option (Nat × PD)) : Prop := match R.2 with
  | none => x = -1 ∧ w'.2 40 2 = nI R.1
  | some r => x = nI r.1 ∧ w'.2 40 2 = -1 ∧ pdW w' 42 = r.2 ∧ wfP r.2 ∧ r.1 ≤ 400
theorem parse_C {w : Wd} {tp : List Int32} (hw : WL w) (hT : tpC w tp) : ∃ w' x, Tape_parse 40 42 (hp w) = some (x, hp w') ∧ WL w' ∧ Fr w w' 40 49 ∧ parC w' x (parP tp 400 0 pd0 (gn spB tp 0)) := by
  have hn := hT.2.1
  obtain ⟨w1, a1, b1, p1, e1⟩ := Prog_wipe_w isPg_42 pgLen_42 hw
  obtain ⟨w2, a2, b2, c2, d2, d2', e2⟩ := pf_eq (x := 0) b1 p40_4
  obtain ⟨w3, a3, b3, c3, d3, d3', e3⟩ := pf_eq (x := -1) b2 p40_2
  have hT3 : tpC w3 tp := by
    refine ⟨?_, hn, ?_⟩
    · rw [d3' 1 (by omega), d2' 1 (by omega), (e1 40 (by omega)).2]; exact hT.1
    · rw [c3, c2, (e1 41 (by omega)).1]; exact hT.2.2
  obtain ⟨w4, a4, b4, t4, f4⟩ := Tape_step_w (e := 0) b3 hT3 (by rw [d3' 4 (by omega), d2]; rfl) (by omega)
  have p4 : pdW w4 42 = pd0 := by
    rw [f4.pd, ← p1]
    unfold pdW
    rw [c3, c2, (e3 42 (by omega)).2, (e2 42 (by omega)).2]
  have l4 : liveC w4 tp pd0 (gn spB tp 0) := ⟨b4, f4.tpC hT3, t4, p4⟩
  have F4 : Fr w w4 40 49 := by
    intro i hi
    have q1 := e1 i (by omega)
    have q2 := e2 i (by omega)
    have q3 := e3 i (by omega)
    have q4 := f4.C.1 i (by omega)
    exact ⟨q4.1.trans (q3.1.trans (q2.1.trans q1.1)), q4.2.trans (q3.2.trans (q2.2.trans q1.2))⟩
  have g42 : w4.2 40 2 = -1 := by rw [f4.2.1 2 (by omega) (by omega) (by omega), d3]
  obtain ⟨R, hR⟩ : ∃ R, R = parP tp 400 0 pd0 (gn spB tp 0) := ⟨_, rfl⟩
  rw [← hR]
  obtain ⟨q, i1, hq⟩ := iter_I (body := Tape_parse_b22 40 42) (fun j t => ∃ W gj sj, t = (nI j, nI j, hp W) ∧ liveC W tp gj sj ∧ frC w4 W ∧ wfP gj ∧ parP tp (400 - j) j gj sj = R) (fun q => (∃ l i W, (q = .inl (l, i, hp W) ∨ q = .inr (.inr (.inl (l, i, hp W))) ∨ q = .inr (.inr (.inr (l, i, hp W)))) ∧ WL W ∧ W.2 40 3 = nI R.1 ∧ R.2 = none ∧ frC w4 W) ∨ (∃ l i W g', q = .inr (.inl (nI l, i, hp W)) ∧ WL W ∧ pdW W 42 = g' ∧ wfP g' ∧ l ≤ 400 ∧ R.2 = some (l, g') ∧ frC w4 W)) 400 (s0 := (0, 0, hp w4)) (by omega) ⟨w4, pd0, _, rfl, l4, frC.rfl', wf_pd0, hR.symm⟩ (by
    rintro j t hj ⟨W, gj, sj, rfl, lW, fW, wj, hN⟩
    have hcn : ¬ (400 : Int32) ≤ nI j := nI_ge (b := 400) hj (by omega)
    obtain ⟨V, v1, v2, v3⟩ := line_C lW wj
    rw [show 400 - j = (400 - (j + 1)) + 1 by omega] at hN
    have pr : Tape_parse_b22 40 42 (nI j, nI j, hp W) = (if ¬ b2i (lineP tp gj sj).2.isSome = 0 then (gfI (hp V) 40 9 5).bind fun x7 => (if ¬ x7 = 0 then (gfI (hp V) 40 9 5).bind fun x8 => (if ¬ x8 = 3 then some (Sum.inr (Sum.inr (Sum.inr (Sum.inl (nI j + 1, nI j, hp V))))) else (gfR (hp V) 40 9 0).bind fun a9 => (gfI (hp V) 40 9 3).bind fun x10 => (ald 2 (hp V) a9 x10).bind fun x11 => (if x11 = 59 then (chk (hp V) 40 9).bind fun _ => bnd2 (Tape_step 40 (hp V)) fun _ h12 => some (Sum.inl (nI j + 1, nI j + 1, h12)) else some (Sum.inr (Sum.inr (Sum.inr (Sum.inl (nI j + 1, nI j, hp V))))))) else some (Sum.inr (Sum.inr (Sum.inl (nI j + 1, nI j, hp V))))) else some (Sum.inr (Sum.inl (nI j, nI j, hp V)))) := by
      unfold Tape_parse_b22
      dsimp only
      rw [if_neg hcn, k40, Option.bind_some, v1, bnd2_some]
    cases e : (lineP tp gj sj).2 with
    | none =>
      right
      rw [parP_f e] at hN
      unfold resC at v2
      rw [e] at v2
      refine ⟨.inl (nI j, nI j, hp V), ?_, .inl ⟨_, _, V, .inl rfl, v2.1, by rw [← hN]; exact v2.2, by rw [← hN], fW.tr v3⟩⟩
      rw [pr, e, Option.isSome_none, b2f, if_neg (fun hh => hh rfl)]
    | some g' =>
      rw [parP_s e] at hN
      obtain ⟨Q, hQ⟩ : ∃ Q, Q = (lineP tp gj sj).1 := ⟨_, rfl⟩
      have hok := lineP_ok wj lW.2.2.1.1 (show lineP tp gj sj = ((lineP tp gj sj).1, some g') by rw [← e])
      unfold resC at v2
      rw [e] at v2
      have lV : liveC V tp g' Q := by rw [hQ]; exact v2
      rw [← hQ] at hN hok
      have kQ := lV.2.2.1.2.2.2
      by_cases h1 : Q < tp.length
      · have hkA : kdA tp Q = kdB (tp.getD Q 0) := by unfold kdA; rw [if_pos h1]
        rw [hkA] at kQ
        rw [if_pos h1] at hN
        have l1 := ld41 lV.1 lV.2.1 h1
        have hb := lV.2.1.2.2 Q h1
        by_cases h59 : tp.getD Q 0 = 59
        · left
          rw [if_pos h59] at hN
          obtain ⟨U, u1, lU, fU⟩ := lV.next
          refine ⟨(nI (j + 1), nI (j + 1), hp U), ?_, U, g', _, rfl, lU, (fW.tr v3).tr fU, hok.1, hN⟩
          rw [pr, e, Option.isSome_some, b2t, if_pos (by decide), c40_5, Option.bind_some, kQ, if_pos kdB_ne0, Option.bind_some, h59, kd_59, if_neg (fun hh => hh rfl), c40_0, Option.bind_some, c40_3, Option.bind_some, lV.2.2.1.2.1, l1, Option.bind_some, if_pos ((btR_eq hb (v := 59) ⟨by decide, by decide⟩).mpr h59), k40, Option.bind_some, u1, bnd2_some, nI_1]
        · right
          rw [if_neg h59] at hN
          refine ⟨.inr (.inr (.inl (nI j + 1, nI j, hp V))), ?_, .inl ⟨_, _, V, .inr (.inl rfl), lV.1, by rw [← hN]; exact lV.2.2.1.2.1, by rw [← hN], fW.tr v3⟩⟩
          rw [pr, e, Option.isSome_some, b2t, if_pos (by decide), c40_5, Option.bind_some, kQ, if_pos kdB_ne0, Option.bind_some]
          by_cases h3 : kdB (tp.getD Q 0) = 3
          · rw [if_neg (fun hh => hh h3), c40_0, Option.bind_some, c40_3, Option.bind_some, lV.2.2.1.2.1, l1, Option.bind_some, if_neg (fun hh => h59 ((btR_eq hb (v := 59) ⟨by decide, by decide⟩).mp hh))]
          · rw [if_pos h3]
      · right
        have hkA : kdA tp Q = 0 := by unfold kdA; rw [if_neg h1]
        rw [hkA] at kQ
        rw [if_neg h1] at hN
        refine ⟨.inr (.inl (nI (j + 1), nI j, hp V)), ?_, .inr ⟨j + 1, _, V, g', rfl, lV.1, lV.2.2.2, hok.1, by omega, by rw [← hN], fW.tr v3⟩⟩
        rw [pr, e, Option.isSome_some, b2t, if_pos (by decide), c40_5, Option.bind_some, kQ, if_neg (fun hh => hh rfl), nI_1]) (by
    rintro t ⟨W, gj, sj, rfl, lW, fW, wj, hN⟩
    rw [Nat.sub_self] at hN
    have hN : (sj, none) = R := hN
    refine ⟨.inr (.inr (.inr (nI 400, nI 400, hp W))), ?_, .inl ⟨_, _, W, .inr (.inr rfl), lW.1, by rw [← hN]; exact lW.2.2.1.2.1, by rw [← hN], fW⟩⟩
    unfold Tape_parse_b22
    dsimp only
    rw [if_pos (show (400 : Int32) ≤ nI 400 by decide)])
  have pre : Tape_parse 40 42 (hp w) = Sum.elim (fun (q22 : Int32 × Int32 × AHeap) => Tape_parse_j37 40 42 q22.1 q22.2.1 q22.2.2) (Sum.elim (fun (q22 : Int32 × Int32 × AHeap) => Tape_parse_j57 40 42 q22.1 q22.2.1 q22.2.2) (Sum.elim (fun (q22 : Int32 × Int32 × AHeap) => Tape_parse_j81 40 42 q22.1 q22.2.1 q22.2.2) (fun (q22 : Int32 × Int32 × AHeap) => Tape_parse_j101 40 42 q22.1 q22.2.1 q22.2.2))) q := by
    unfold Tape_parse
    rw [k42, Option.bind_some, a1, bnd2_some, a2, Option.bind_some, a3, Option.bind_some, k40, Option.bind_some, a4, bnd2_some, i1, Option.bind_some]
  rcases hq with ⟨l, i, W, hq, hW, h3, hn0, fW⟩ | ⟨l, i, W, g', rfl, hW, pW, wg, hl, hn0, fW⟩
  · obtain ⟨V, v1, v2, v3, v4, v5, v6⟩ := pf_eq (x := nI R.1) hW p40_2
    refine ⟨V, -1, ?_, v2, fun i hi => ?_, ?_⟩
    · rcases hq with rfl | rfl | rfl
      · rw [pre, Sum.elim_inl]
        unfold Tape_parse_j37
        rw [c40_3, Option.bind_some, h3, v1, Option.bind_some]
      · rw [pre, Sum.elim_inr, Sum.elim_inr, Sum.elim_inl]
        unfold Tape_parse_j81
        rw [c40_3, Option.bind_some, h3, v1, Option.bind_some]
      · rw [pre, Sum.elim_inr, Sum.elim_inr, Sum.elim_inr]
        unfold Tape_parse_j101
        rw [c40_3, Option.bind_some, h3, v1, Option.bind_some]
    · have q1 := F4 i hi
      have q2 := fW.1 i hi
      have q3 := v6 i (by omega)
      exact ⟨q3.1.trans (q2.1.trans q1.1), q3.2.trans (q2.2.trans q1.2)⟩
    · unfold parC
      rw [hn0]
      exact ⟨rfl, v4⟩
  · refine ⟨W, nI l, ?_, hW, F4.tr fW.1, ?_⟩
    · rw [pre, Sum.elim_inr, Sum.elim_inl]
      unfold Tape_parse_j57
      dsimp only
    · unfold parC
      rw [hn0]
      exact ⟨rfl, by rw [fW.2.2 2 (by omega) (by omega) (by omega)]; exact g42, pW, wg, hl⟩
