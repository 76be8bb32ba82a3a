/-! would -/
theorem ald_F0 {h : AHeap} {j : Nat} (hj : j < 4) : ald 0 h (FB + 0) (nI j) = some (([0, 0, 0, 4] : List Int32).getD j 0) := by
  have e : cAt h (FB + 0) = some (.inr (.inl (0, [0, 0, 0, 4]))) := by
    unfold cAt
    rw [if_neg (by omega), Nat.add_sub_cancel_left]
    rfl
  unfold ald
  rw [e]
  have hneg : ¬ nI j < 0 := by rw [ti_lt, ti_0, nI_toInt (by omega)]; omega
  simp only
  rw [if_pos ⟨trivial, hneg⟩, nI_clamp (by omega)]
  have : j = 0 ∨ j = 1 ∨ j = 2 ∨ j = 3 := by omega
  rcases this with rfl | rfl | rfl | rfl <;> rfl
theorem ald_F1 {h : AHeap} {j : Nat} (hj : j < 4) : ald 0 h (FB + 1) (nI j) = some (([1, 9, 1000, 40] : List Int32).getD j 0) := by
  have e : cAt h (FB + 1) = some (.inr (.inl (0, [1, 9, 1000, 40]))) := by
    unfold cAt
    rw [if_neg (by omega), Nat.add_sub_cancel_left]
    rfl
  unfold ald
  rw [e]
  have hneg : ¬ nI j < 0 := by rw [ti_lt, ti_0, nI_toInt (by omega)]; omega
  simp only
  rw [if_pos ⟨trivial, hneg⟩, nI_clamp (by omega)]
  have : j = 0 ∨ j = 1 ∨ j = 2 ∨ j = 3 := by omega
  rcases this with rfl | rfl | rfl | rfl <;> rfl
/-- a cell written -/
theorem st_at {w : Wd} {a j : Nat} {i x : Int32} (hw : WL w) (h : shp[a]? = some (.inr (.inl 0))) (hi : i = nI j) (hj : j < lenT.getD a 0) (hb : j < 2 ^ 31) : ∃ V, ast 0 (hp w) a i x = some (hp V) ∧ WL V ∧ V.1 a = (w.1 a).set j x ∧ V.2 = w.2 ∧ Fr w V a (a + 1) := by
  refine ⟨_, ast_w h hi (by rw [hw a]; exact hj) hb, hw.A (by rw [List.length_set]; exact hw a), ?_, rfl, Fr.A (by omega) (by omega)⟩
  show (if a = a then (w.1 a).set j (nar 0 x) else w.1 a) = _
  exact if_pos rfl
/-- a field written -/
theorem pf_at {w : Wd} {a ci k : Nat} {fs : List (Option Nat)} {x : Int32} (hw : WL w) (h : shp[a]? = some (.inl (ci, fs))) (hk : fs[k]? = some none) : ∃ V, pfV (hp w) a ci k (.int x) = some (hp V) ∧ WL V ∧ V.1 = w.1 ∧ V.2 a k = x ∧ (∀ j, j ≠ k → V.2 a j = w.2 a j) ∧ Fr w V a (a + 1) := by
  refine ⟨_, pfV_w h hk, hw.F, rfl, ?_, fun j hj => ?_, Fr.F (by omega) (by omega)⟩
  · show (if a = a ∧ k = k then x else w.2 a k) = x
    exact if_pos ⟨rfl, rfl⟩
  · show (if a = a ∧ j = k then x else w.2 a j) = _
    exact if_neg (fun h => hj h.2)
theorem set4 {l : List Int32} (h : l.length = 4) (a b c d : Int32) : (((l.set 0 a).set 1 b).set 2 c).set 3 d = [a, b, c, d] := by
  match l, h with
  | [x0, x1, x2, x3], _ => rfl
theorem clsI_W {w w' : Wd} {st : ST} {tm : List Int32} {x : Nat} {hi : List (ST × Int32)} {im : Nat → Option (ST × List Int32)} {rf : Nat → Int32} {ss : Int32} {tp : List Int32} {ft : Int32} (h : clsI w st tm x hi im rf ss tp ft) (hw' : WL w') (hF : ∀ i, (i < 17 ∨ (40 ≤ i ∧ i < 235) ∨ 243 ≤ i) → w'.1 i = w.1 i ∧ w'.2 i = w.2 i) (hk : bkOk w' st.1) (hb : w'.2 33 0 = 1) (h9 : w'.2 235 0 = nI 99) : clsI w' st tm x hi im rf ss tp ft := by
  obtain ⟨h0, ⟨h1, h2, h3, h4, h5⟩, h6, h7, h8, h9', h10⟩ := h
  have hs := st_same (w := w) (w' := w') (b := 1) (fun i _ h2 => hF i (by omega))
  refine ⟨hw', ⟨hs.2 h1, by rw [hs.1]; exact h2, hk, .inl hb, h9⟩, by rw [(hF 16 (by omega)).1]; exact h6, clsH_fr h7 (fun i a b => hF i (by omega)), clsM_fr h8 (fun i h => hF i (by omega)), ?_, ?_⟩
  · unfold clsR at h9' ⊢
    rw [(hF 243 (by omega)).1, (hF 0 (by omega)).2]; exact h9'
  · unfold clsT at h10 ⊢
    rw [(hF 41 (by omega)).1, (hF 40 (by omega)).2]; exact h10
theorem tm99 {a b : Int32} : tmOk [a, b, 0, 99] ∧ (([a, b, 0, 99] : List Int32).getD 3 0).toInt ≤ 99 := ⟨⟨show (0 : Int) ≤ (0 : Int32).toInt by decide, show (0 : Int32).toInt ≤ 1000 by decide⟩, show (99 : Int32).toInt ≤ 99 by decide⟩
theorem csOk_nil {g : PD} : csOk g [] := fun c hc => absurd hc (List.not_mem_nil)
theorem srOk_0 {g : PD} : srOk g sr0 := ⟨.inl rfl, .inl rfl⟩
theorem row_nil {r : List Int32} {g : PD} {cs : List (List Int32)} {sr : List Int32} (h : rowIs r g cs sr) (hl : r.length = 1427) : rowIs (r.set 9 0) g [] sr := by
  have h9 : (r.set 9 0).getD 9 0 = 0 := by rw [gD_set, if_pos ⟨rfl, by omega⟩]
  refine ⟨?_, ?_, ?_, by rw [h9]; rfl, by simp⟩
  · rw [← h.1]
    exact mdG_cg (fun j hj => by rw [gD_set, if_neg (by omega)])
  · unfold mdC mdN
    rw [h9]
    rfl
  · rw [← h.2.2.1]
    unfold mdS
    simp only [gD_set, hl]
    rfl
/-- what the asking of would may touch of the reference -/
def frQ (w w' : Wd) : Prop := (∀ i, i ≠ 274 → i ≠ 280 → i ≠ 281 → (i < 287 ∨ 292 ≤ i) → w'.1 i = w.1 i) ∧ (∀ i, (i < 274 ∨ 292 ≤ i) → w'.2 i = w.2 i) ∧ (∀ k, k ≠ 17 → k ≠ 18 → k ≠ 19 → k ≠ 20 → k ≠ 21 → k ≠ 22 → k ≠ 27 → w'.2 274 k = w.2 274 k)
theorem refI_Q {w w' : Wd} {st : ST} {tm : List Int32} {x : Nat} {hi : List (ST × Int32)} {im : Nat → Option (ST × List Int32)} {rf : Nat → Int32} {ss : Int32} {tp : List Int32} {ft : Int32} (h : refI w st tm x hi im rf ss tp ft) (hw' : WL w') (hF : frQ w w') : refI w' st tm x hi im rf ss tp ft ∧ Fr w w' 274 292 := by
  obtain ⟨h0, h1, h2, h3, h4, h5, h6, h7⟩ := h
  have f : ∀ i, i ≠ 274 → i ≠ 280 → i ≠ 281 → (i < 287 ∨ 292 ≤ i) → w'.1 i = w.1 i := hF.1
  have g : ∀ k, k ≠ 17 → k ≠ 18 → k ≠ 19 → k ≠ 20 → k ≠ 21 → k ≠ 22 → k ≠ 27 → w'.2 274 k = w.2 274 k := hF.2.2
  refine ⟨⟨hw', by rw [f 279 (by omega) (by omega) (by omega) (by omega)]; exact h1, by rw [f 276 (by omega) (by omega) (by omega) (by omega)]; exact h2, by rw [f 277 (by omega) (by omega) (by omega) (by omega), f 278 (by omega) (by omega) (by omega) (by omega)]; exact h3, ?_, ?_, ?_, ?_⟩, fun i hi => ⟨f i (by omega) (by omega) (by omega) (by omega), hF.2.1 i (by omega)⟩⟩
  · unfold refH at h4 ⊢
    rw [f 283 (by omega) (by omega) (by omega) (by omega), f 284 (by omega) (by omega) (by omega) (by omega), g 13 (by omega) (by omega) (by omega) (by omega) (by omega) (by omega) (by omega), g 14 (by omega) (by omega) (by omega) (by omega) (by omega) (by omega) (by omega)]
    exact h4
  · unfold refM at h5 ⊢
    rw [f 285 (by omega) (by omega) (by omega) (by omega), f 286 (by omega) (by omega) (by omega) (by omega)]
    exact h5
  · unfold refR at h6 ⊢
    rw [f 275 (by omega) (by omega) (by omega) (by omega), g 0 (by omega) (by omega) (by omega) (by omega) (by omega) (by omega) (by omega)]
    exact h6
  · unfold refT at h7 ⊢
    rw [f 282 (by omega) (by omega) (by omega) (by omega), g 9 (by omega) (by omega) (by omega) (by omega) (by omega) (by omega) (by omega), g 10 (by omega) (by omega) (by omega) (by omega) (by omega) (by omega) (by omega)]
    exact h7
section Rd
variable {w : Wd} {st : ST} {tm : List Int32} {x : Nat} {hi : List (ST × Int32)} {im : Nat → Option (ST × List Int32)} {rf : Nat → Int32} {ss : Int32} {tp : List Int32} {ft : Int32}
theorem cls_would (h : lawJ w st tm x hi im rf ss tp ft) {a b : Int32} (ha : 0 ≤ a.toInt ∧ a.toInt ≤ 1) (hb : 0 ≤ b.toInt ∧ b.toInt ≤ 9) : ∃ w', Sp_would 0 a b (hp w) = some (if (runP st.1 [a, b, 0, 99] 99 [] sr0).2.2.getD 0 0 = 0 then -1 else nI (runP st.1 [a, b, 0, 99] 99 [] sr0).1, hp w') ∧ clsI w' st tm x hi im rf ss tp ft ∧ Fr w w' 0 274 := by
  obtain ⟨hg, hc, hs⟩ := J_pd h.2.1
  obtain ⟨hgv, hkv, _, _, _⟩ := J_wf h
  have hw := h.2.1.1
  have h235 : w.2 235 0 = nI 99 := h.2.1.2.1.2.2.2.2
  have t1 : (1 : Int32).toInt = 1 := rfl
  have t9 : (9 : Int32).toInt = 9 := rfl
  have F00 : ald 0 (hp w) (FB + 0) 0 = some 0 := ald_F0 (j := 0) (by omega)
  have F01 : ald 0 (hp w) (FB + 0) 1 = some 0 := ald_F0 (j := 1) (by omega)
  have F10 : ald 0 (hp w) (FB + 1) 0 = some 1 := ald_F1 (j := 0) (by omega)
  have F11 : ald 0 (hp w) (FB + 1) 1 = some 9 := ald_F1 (j := 1) (by omega)
  obtain ⟨w1, a1, b1, c1, d1, e1⟩ := st_at (i := 0) (x := a) hw s242 (j := 0) rfl (by decide) (by omega)
  obtain ⟨w2, a2, b2, c2, d2, e2⟩ := st_at (i := 1) (x := b) b1 s242 (j := 1) rfl (by decide) (by omega)
  obtain ⟨w3, a3, b3, c3, d3, e3⟩ := st_at (i := 2) (x := 0) b2 s242 (j := 2) rfl (by decide) (by omega)
  obtain ⟨w4, a4, b4, c4, d4, e4⟩ := st_at (i := 3) (x := 99) b3 s242 (j := 3) rfl (by decide) (by omega)
  have l4 : w4.1 242 = [a, b, 0, 99] := by rw [c4, c3, c2, c1]; exact set4 (l242 hw) a b 0 99
  obtain ⟨w5, a5, b5, c5, d5, d5', e5⟩ := pf_at (x := 0) (a := 235) (ci := 2) (k := 1) b4 isCt_235.1 rfl
  obtain ⟨w6, a6, b6, c6, e6⟩ := Srch_reset_w (a := 241) plOk_2.2.2.2.1 b5
  obtain ⟨w7, a7, b7, c7, d7, d7', e7⟩ := pf_at (x := 1) (a := 33) (ci := 1) (fs := [none, some 34, some 35]) (k := 0) b6 (by decide +kernel) rfl
  have f7 : ∀ i, i ≠ 33 → i ≠ 235 → i ≠ 241 → i ≠ 242 → w7.1 i = w.1 i ∧ w7.2 i = w.2 i := by
    intro i i1 i2 i3 i4
    have g7 := e7 i (by omega)
    have g6 := e6 i (by omega)
    have g5 := e5 i (by omega)
    have g4 := (((e1.tr e2).tr e3).tr e4) i (by omega)
    exact ⟨g7.1.trans (g6.1.trans (g5.1.trans g4.1)), g7.2.trans (g6.2.trans (g5.2.trans g4.2))⟩
  have p7 : pdW w7 2 = st.1 := by
    rw [← hg]
    unfold pdW
    rw [(f7 2 (by omega) (by omega) (by omega) (by omega)).2, (f7 3 (by omega) (by omega) (by omega) (by omega)).1, (f7 4 (by omega) (by omega) (by omega) (by omega)).1, (f7 5 (by omega) (by omega) (by omega) (by omega)).1, (f7 6 (by omega) (by omega) (by omega) (by omega)).1, (f7 7 (by omega) (by omega) (by omega) (by omega)).1, (f7 8 (by omega) (by omega) (by omega) (by omega)).1]
  have q235 : w7.2 235 = w5.2 235 := ((e7 235 (by omega)).2).trans (e6 235 (by omega)).2
  have q1 : w7.2 235 1 = 0 := by rw [q235, d5]
  have q0 : w7.2 235 0 = nI 99 := by rw [q235, d5' 0 (by omega), d4, d3, d2, d1, h235]
  have cn7 : cN w7 235 = 0 := by unfold cN; rw [q1]; rfl
  have cs7 : cutsW w7 235 = [] := by unfold cutsW; rw [cn7]; rfl
  have sr7 : srW w7 241 = sr0 := by rw [sr_fr e7 (by omega), c6]
  have tm7 : w7.1 242 = [a, b, 0, 99] := by rw [(e7 242 (by omega)).1, (e6 242 (by omega)).1, (e5 242 (by omega)).1, l4]
  have bk7 : bkOk w7 st.1 := bkOk_fr h.2.1.2.1.2.2.1 (f7 22 (by omega) (by omega) (by omega) (by omega)).1 (f7 23 (by omega) (by omega) (by omega) (by omega)).1 (f7 32 (by omega) (by omega) (by omega) (by omega)).1
  have eg7 : egOk w7 235 99 241 242 := ⟨b7, by rw [p7]; exact h.1.1.1, by rw [p7]; exact bk7, ⟨by rw [q1, cn7]; rfl, by rw [cn7]; omega⟩, q0, by rw [cs7]; exact csOk_nil, by rw [sr7]; exact srOk_0, .inl d7, by rw [tm7]; exact tm99.1, by rw [tm7]; exact tm99.2, by rw [tm7]; rfl⟩
  obtain ⟨w8, a8, b8, c8, d8⟩ := Eng_run_w (k := 99) plOk_2 eg7 (by omega)
  rw [p7, tm7, cs7, sr7] at a8 d8
  obtain ⟨w9, a9, b9, c9, d9, d9', e9⟩ := pf_at (x := 1) (a := 33) (ci := 1) (fs := [none, some 34, some 35]) (k := 0) b8.1 (by decide +kernel) rfl
  have s9 : w9.2 241 0 = (runP st.1 [a, b, 0, 99] 99 [] sr0).2.2.getD 0 0 := by
    rw [(e9 241 (by omega)).2, ← d8]
    exact (sr_get (by omega)).symm
  have f9 : ∀ i, (i < 17 ∨ (40 ≤ i ∧ i < 235) ∨ 243 ≤ i) → w9.1 i = w.1 i ∧ w9.2 i = w.2 i := by
    intro i hi
    have g9 := e9 i (by omega)
    have g8 := c8 i (by omega) (by omega) (by omega)
    have g7 := f7 i (by omega) (by omega) (by omega) (by omega)
    exact ⟨g9.1.trans (g8.1.trans g7.1), g9.2.trans (g8.2.trans g7.2)⟩
  have p8 : pdW w8 2 = st.1 := by rw [← p7]; exact c8.pd plOk_2
  have bk9 : bkOk w9 st.1 := by
    have := b8.2.2.1
    rw [p8] at this
    exact bkOk_fr this (e9 22 (by omega)).1 (e9 23 (by omega)).1 (e9 32 (by omega)).1
  refine ⟨w9, ?_, clsI_W h.2.1 b9 f9 bk9 d9 (by rw [(e9 235 (by omega)).2]; exact b8.2.2.2.2.1), ?_⟩
  · unfold Sp_would
    rw [F00, Option.bind_some, if_neg (by rw [ti_lt, ti_0]; omega), F10, Option.bind_some, if_pos (by rw [ti_le, t1]; omega), F01, Option.bind_some, if_neg (by rw [ti_lt, ti_0]; omega), F11, Option.bind_some, if_pos (by rw [ti_le, t9]; omega)]
    rw [show nI 99 = 99 from rfl] at a8
    rw [c0_11, Option.bind_some, a1, Option.bind_some, c0_11, Option.bind_some, a2, Option.bind_some, c0_11, Option.bind_some, a3, Option.bind_some, c0_11, Option.bind_some, a4, Option.bind_some, c0_9, Option.bind_some, a5, Option.bind_some, c0_10, Option.bind_some, k241, Option.bind_some, a6, bnd2_some, c0_2, Option.bind_some, c17_1, Option.bind_some, bz1, Option.bind_some, a7, Option.bind_some, c0_2, Option.bind_some, c0_0, Option.bind_some, c1_0, Option.bind_some, c0_9, Option.bind_some, c0_10, Option.bind_some, c0_11, Option.bind_some, k17, Option.bind_some, a8, bnd2_some, c0_2, Option.bind_some, c17_1, Option.bind_some, Option.bind_some, a9, Option.bind_some, c0_10, Option.bind_some, c241_0, Option.bind_some, s9]
    unfold Sp_would_j150
    by_cases z : (runP st.1 [a, b, 0, 99] 99 [] sr0).2.2.getD 0 0 = 0
    · rw [if_pos z, if_pos z]
    · rw [if_neg z, if_neg z]
  · intro i hi
    exact f9 i (by omega)
theorem ref_would (hv : vA st tm x hi im) {w : Wd} (hr : refI w st tm x hi im rf ss tp ft) {a b : Int32} (ha : 0 ≤ a.toInt ∧ a.toInt ≤ 1) (hb : 0 ≤ b.toInt ∧ b.toInt ≤ 9) : ∃ w', Mod_would 274 a b (hp w) = some (if (runP st.1 [a, b, 0, 99] 99 [] sr0).2.2.getD 0 0 = 0 then -1 else nI (runP st.1 [a, b, 0, 99] 99 [] sr0).1, hp w') ∧ WL w' ∧ frQ w w' := by
  have t1 : (1 : Int32).toInt = 1 := rfl
  have t9 : (9 : Int32).toInt = 9 := rfl
  have in1 : isInP a 0 1 = true := by rw [isIn_iff, ti_0, t1]; exact ha
  have in2 : isInP b 0 9 = true := by rw [isIn_iff, ti_0, t9]; exact hb
  obtain ⟨w1, a1, b1, c1, d1, e1⟩ := Mod_keepsAhead_w hr.1
  obtain ⟨q, i1, w2, rfl, h2⟩ := iter_I (body := Mod_would_b27 274 a b) (fun j s => ∃ W, s = (nI j, hp W) ∧ cpI w1 W 291 276 j) (fun r => ∃ W, r = (nI 4, hp W) ∧ cpI w1 W 291 276 4) 4 (s0 := (0, hp w1)) (by omega) ⟨w1, rfl, cpI.zero b1⟩ (by
    rintro i s hi ⟨W, rfl, hW⟩
    left
    have hcn : ¬ (4 : Int32) ≤ nI i := nI_ge (b := 4) hi (by omega)
    have q1 : ald 0 (hp W) 276 (nI i) = some ((W.1 276).getD i 0) := ald_w s276 rfl (by rw [l276 hW.1]; exact hi) (by omega)
    have q2 : ast 0 (hp W) 291 (nI i) ((W.1 276).getD i 0) = some (hp (wA W 291 ((W.1 291).set i ((W.1 276).getD i 0)))) := ast_w s291 rfl (by rw [l291 hW.1]; exact hi) (by omega)
    exact ⟨_, by simp only [Mod_would_b27, if_neg hcn, c274_28, c274_2, Option.bind_some, q1, q2, nI_1], _, rfl, hW.step (by omega) hi⟩) (by
    rintro s ⟨W, rfl, hW⟩
    exact ⟨(nI 4, hp W), by simp only [Mod_would_b27, if_pos (show (4 : Int32) ≤ nI 4 by decide)], W, rfl, hW⟩)
  have k291 : w2.1 291 = w1.1 276 := h2.fin b1 rfl rfl
  obtain ⟨w3, a3, b3, c3, d3, e3⟩ := st_at (i := 0) (x := a) h2.1 s276 (j := 0) rfl (by decide) (by omega)
  obtain ⟨w4, a4, b4, c4, d4, e4⟩ := st_at (i := 1) (x := b) b3 s276 (j := 1) rfl (by decide) (by omega)
  obtain ⟨w5, a5, b5, c5, d5, e5⟩ := st_at (i := 2) (x := 0) b4 s276 (j := 2) rfl (by decide) (by omega)
  obtain ⟨w6, a6, b6, c6, d6, e6⟩ := st_at (i := 3) (x := 99) b5 s276 (j := 3) rfl (by decide) (by omega)
  have l6 : w6.1 276 = [a, b, 0, 99] := by rw [c6, c5, c4, c3]; exact set4 (l276 h2.1) a b 0 99
  obtain ⟨w7, a7, b7, c7, d7, e7⟩ := st_at (i := 9) (x := 0) b6 s279 (j := 9) rfl (by decide) (by omega)
  have f6 : ∀ i, i ≠ 276 → i ≠ 280 → i ≠ 291 → w6.1 i = w.1 i ∧ w6.2 i = w.2 i := by
    intro i i1 i2 i3
    have g6 := (((e3.tr e4).tr e5).tr e6) i (by omega)
    have g2 := h2.2.1 i (by omega)
    have g1 := e1 i (by omega)
    exact ⟨g6.1.trans (g2.1.trans g1.1), g6.2.trans (g2.2.trans g1.2)⟩
  have r6 : rowIs (w6.1 279) st.1 st.2.1 st.2.2 := by rw [(f6 279 (by omega) (by omega) (by omega)).1]; exact hr.2.1
  have r7 : rowIs (w7.1 279) st.1 [] st.2.2 := by rw [c7]; exact row_nil r6 (l279 b6)
  obtain ⟨w8, a8, b8, c8, d8, e8⟩ := Mod_forgets_w b7 r7
  have l8 : w8.1 276 = [a, b, 0, 99] := by rw [(e8 276 (by omega)).1, (e7 276 (by omega)).1, l6]
  obtain ⟨c, ok, w9, a9, b9, f9, q9⟩ := Mod_would_loop (a := a) (b := b) b8 hv.1.1 csOk_nil srOk_0 c8 (by rw [l8]; exact tm99.1) (by rw [l8]; exact tm99.2) (by rw [l8]; exact hb.1)
  rw [l8] at q9
  have f8 : ∀ i, i ≠ 276 → i ≠ 279 → i ≠ 280 → i ≠ 291 → w8.1 i = w.1 i ∧ w8.2 i = w.2 i := by
    intro i i1 i2 i3 i4
    have g8 := e8 i (by omega)
    have g7 := e7 i (by omega)
    have g6 := f6 i i1 i3 i4
    exact ⟨g8.1.trans (g7.1.trans g6.1), g8.2.trans (g7.2.trans g6.2)⟩
  obtain ⟨Y, hY⟩ : ∃ Y : Int32, Y = (if (runP st.1 [a, b, 0, 99] 99 [] sr0).2.2.getD 0 0 = 0 then -1 else nI (runP st.1 [a, b, 0, 99] 99 [] sr0).1) := ⟨_, rfl⟩
  rw [← hY]
  have fin : ∃ w', Mod_would_j155 274 a b c ok Y (hp w9) = some (Y, hp w') ∧ WL w' ∧ frQ w w' := by
    obtain ⟨q, i2, w10, rfl, h10⟩ := iter_I (body := Mod_would_b160 274 a b c ok Y) (fun j s => ∃ W, s = (nI j, hp W) ∧ cpI w9 W 276 291 j) (fun r => ∃ W, r = (nI 4, hp W) ∧ cpI w9 W 276 291 4) 4 (s0 := (0, hp w9)) (by omega) ⟨w9, rfl, cpI.zero b9⟩ (by
      rintro i s hi ⟨W, rfl, hW⟩
      left
      have hcn : ¬ (4 : Int32) ≤ nI i := nI_ge (b := 4) hi (by omega)
      have q1 : ald 0 (hp W) 291 (nI i) = some ((W.1 291).getD i 0) := ald_w s291 rfl (by rw [l291 hW.1]; exact hi) (by omega)
      have q2 : ast 0 (hp W) 276 (nI i) ((W.1 291).getD i 0) = some (hp (wA W 276 ((W.1 276).set i ((W.1 291).getD i 0)))) := ast_w s276 rfl (by rw [l276 hW.1]; exact hi) (by omega)
      exact ⟨_, by simp only [Mod_would_b160, if_neg hcn, c274_28, c274_2, Option.bind_some, q1, q2, nI_1], _, rfl, hW.step (by omega) hi⟩) (by
      rintro s ⟨W, rfl, hW⟩
      exact ⟨(nI 4, hp W), by simp only [Mod_would_b160, if_pos (show (4 : Int32) ≤ nI 4 by decide)], W, rfl, hW⟩)
    have k276 : w10.1 276 = w9.1 291 := h10.fin b9 rfl rfl
    obtain ⟨w11, a11, b11, c11, d11, e11⟩ := Mod_comesBack_w (b := 280) h10.1 s280 rfl (by omega)
    refine ⟨w11, ?_, b11, fun i j1 j2 j3 j4 => ?_, fun i hi => ?_, fun k k1 k2 k3 k4 k5 k6 k7 => ?_⟩
    · unfold Mod_would_j155
      rw [i2, Option.bind_some]
      unfold Mod_would_j186
      rw [c274_6, Option.bind_some, k274, Option.bind_some, a11, bnd2_some]
    · by_cases i9 : i = 279
      · subst i9
        rw [c11, (h10.2.1 280 (by omega)).1, (f9.1 280 (by omega) (by omega) (by omega)).1, (e8 280 (by omega)).1, (e7 280 (by omega)).1, ((((e3.tr e4).tr e5).tr e6) 280 (by omega)).1, (h2.2.1 280 (by omega)).1, c1]
      · by_cases i6 : i = 276
        · subst i6
          rw [(e11 276 (by omega)).1, k276, (f9.1 291 (by omega) (by omega) (by omega)).1, (e8 291 (by omega)).1, (e7 291 (by omega)).1, ((((e3.tr e4).tr e5).tr e6) 291 (by omega)).1, k291, (e1 276 (by omega)).1]
        · have g11 := e11 i (by omega)
          have g10 := h10.2.1 i (by omega)
          have g9 := f9.1 i (by omega) (by omega) (by omega)
          have g8 := f8 i (by omega) (by omega) (by omega) (by omega)
          exact g11.1.trans (g10.1.trans (g9.1.trans g8.1))
    · have g11 := e11 i (by omega)
      have g10 := h10.2.1 i (by omega)
      have g9 := f9.1 i (by omega) (by omega) (by omega)
      have g8 := f8 i (by omega) (by omega) (by omega) (by omega)
      exact g11.2.trans (g10.2.trans (g9.2.trans g8.2))
    · rw [d11, h10.2.2.1, f9.2.2 k k5 k6 k7, d8, d7, d6, d5, d4, d3, h2.2.2.1, d1]
  obtain ⟨w', z1, z2, z3⟩ := fin
  refine ⟨w', ?_, z2, z3⟩
  unfold Mod_would
  rw [Mod_isIn_w, bnd2_some, b2i_t in1, if_neg (by decide), Mod_isIn_w, bnd2_some, b2i_t in2, if_pos (by decide), k274, Option.bind_some, a1, bnd2_some, i1, Option.bind_some]
  unfold Mod_would_j50
  simp only [c274_2, Option.bind_some, a3, a4, a5, a6, c274_5, a7, k274, a8, bnd2_some, a9]
  unfold Mod_would_j136
  rcases q9 with ⟨q1, q2⟩ | ⟨q1, q2, q3⟩
  · rw [if_pos q2] at hY
    rw [if_pos q1]
    unfold Mod_would_j154
    rw [← hY]
    exact z1
  · rw [q1, if_neg (by decide), c274_5, Option.bind_some, ldN b9 (i := 3) (j := 3) rfl (by omega), q3, Option.bind_some]
    rw [q1] at z1
    by_cases z : (runP st.1 [a, b, 0, 99] 99 [] sr0).2.2.getD 0 0 = 0
    · rw [if_pos z] at hY
      rw [if_pos z]
      unfold Mod_would_j154
      rw [← hY]
      exact z1
    · rw [if_neg z] at hY
      rw [if_neg z]
      have e : Mod_would_j155 274 a b c 1 c (hp w9) = Mod_would_j155 274 a b c 1 Y (hp w9) := by rw [hY, ← q2]
      rw [e]
      exact z1
theorem call_would (h : lawJ w st tm x hi im rf ss tp ft) (a b : Int32) : callOk w (Sp_would 0 a b) (Mod_would 274 a b) := by
  have t1 : (1 : Int32).toInt = 1 := rfl
  have t9 : (9 : Int32).toInt = 9 := rfl
  by_cases ha : 0 ≤ a.toInt ∧ a.toInt ≤ 1
  · by_cases hb : 0 ≤ b.toInt ∧ b.toInt ≤ 9
    · refine law_step h (cls_would h ha hb) (fun w1 hr => ?_) h.1
      obtain ⟨w2, r1, r2, r3⟩ := ref_would h.1 hr ha hb
      obtain ⟨q1, q2⟩ := refI_Q hr r2 r3
      exact ⟨w2, r1, q1, q2⟩
    · refine law_pp (y := -1) h ?_ (fun w1 hr => ?_)
      · have F00 : ald 0 (hp w) (FB + 0) 0 = some 0 := ald_F0 (j := 0) (by omega)
        have F01 : ald 0 (hp w) (FB + 0) 1 = some 0 := ald_F0 (j := 1) (by omega)
        have F10 : ald 0 (hp w) (FB + 1) 0 = some 1 := ald_F1 (j := 0) (by omega)
        have F11 : ald 0 (hp w) (FB + 1) 1 = some 9 := ald_F1 (j := 1) (by omega)
        unfold Sp_would
        rw [F00, Option.bind_some, if_neg (by rw [ti_lt, ti_0]; omega), F10, Option.bind_some, if_pos (by rw [ti_le, t1]; omega), F01, Option.bind_some]
        by_cases b0 : b < 0
        · rw [if_pos b0]; unfold Sp_would_j38; rfl
        · rw [if_neg b0, F11, Option.bind_some]
          rw [ti_lt, ti_0] at b0
          rw [if_neg (by rw [ti_le, t9]; omega)]
          unfold Sp_would_j38; rfl
      · have in1 : isInP a 0 1 = true := by rw [isIn_iff, ti_0, t1]; exact ha
        have in2 : ¬ isInP b 0 9 = true := by rw [isIn_iff, ti_0, t9]; exact hb
        unfold Mod_would
        rw [Mod_isIn_w, bnd2_some, b2i_t in1, if_neg (by decide), Mod_isIn_w, bnd2_some, b2i_f in2, if_neg (fun h => h rfl)]
        unfold Mod_would_j19; rfl
  · refine law_pp (y := -1) h ?_ (fun w1 hr => ?_)
    · have F00 : ald 0 (hp w) (FB + 0) 0 = some 0 := ald_F0 (j := 0) (by omega)
      have F10 : ald 0 (hp w) (FB + 1) 0 = some 1 := ald_F1 (j := 0) (by omega)
      unfold Sp_would
      rw [F00, Option.bind_some]
      by_cases a0 : a < 0
      · rw [if_pos a0]; unfold Sp_would_j18; rfl
      · rw [if_neg a0, F10, Option.bind_some]
        rw [ti_lt, ti_0] at a0
        rw [if_neg (by rw [ti_le, t1]; omega)]
        unfold Sp_would_j18; rfl
    · have in1 : ¬ isInP a 0 1 = true := by rw [isIn_iff, ti_0, t1]; exact ha
      unfold Mod_would
      rw [Mod_isIn_w, bnd2_some, b2i_f in1, if_pos rfl]
      unfold Mod_would_j19; rfl
end Rd
