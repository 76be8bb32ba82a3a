/-! undo -/
theorem prv_I : ∀ x : Fin 12, ((nI x.1 + 12) - 1) - ((nI x.1 + 12) - 1) / 12 * 12 = nI (prv x.1) := by decide +kernel
theorem prv_lt {x : Nat} (h : x < 12) : prv x < 12 := by unfold prv; split <;> omega
section Rd
variable {w : Wd} {st : ST} {tm : List Int32} {x : Nat} {hi : List (ST × Int32)} {im : Nat → Option (ST × List Int32)} {rf : Nat → Int32} {ss : Int32} {tp : List Int32} {ft : Int32}
theorem cls_derived {V : Wd} {g : PD} (hV : WL V) : ∃ W, Sp_forgetDerived 0 (hp V) = some ((), hp W) ∧ WL W ∧ bkOk W g ∧ W.2 33 0 = 1 ∧ Fr V W 20 34 := by
  obtain ⟨w1, a1, b1, e1, k1⟩ := Book_forgetAll_w (g := g) hV
  obtain ⟨w2, a2, b2, c2, d2, d2', e2⟩ := pf_at (x := 1) (a := 33) (ci := 1) (fs := [none, some 34, some 35]) (k := 0) b1 (by decide +kernel) rfl
  refine ⟨w2, ?_, b2, bkOk_fr k1 (e2 22 (by omega)).1 (e2 23 (by omega)).1 (e2 32 (by omega)).1, d2, fun i hi => ⟨((e2 i (by omega)).1).trans (e1 i (by omega)).1, ((e2 i (by omega)).2).trans (e1 i (by omega)).2⟩⟩
  unfold Sp_forgetDerived
  rw [c0_2, Option.bind_some, c17_0, Option.bind_some, k18, Option.bind_some, a1, bnd2_some, c0_2, Option.bind_some, c17_1, Option.bind_some, bz1, Option.bind_some, a2, Option.bind_some]
theorem call_undo (h : lawJ w st tm x hi im rf ss tp ft) : callOk w (Sp_undo 0) (Mod_undo 274) := by
  have hx := h.1.2.2.1
  match hi, h with
  | [], h =>
    refine law_refuse (m := 3) (b := -4) h (by omega) (by decide) ?_ (fun w1 hr => ?_)
    · have e0 : w.2 49 2 = nI 0 := h.2.1.2.2.2.1.1.1
      have tb : Hist_takeBack 49 1 (hp w) = some (-1, hp w) := by
        unfold Hist_takeBack
        rw [c49_2, Option.bind_some, e0, if_neg (fun hh => hh rfl)]
      unfold Sp_undo
      rw [c0_5, Option.bind_some, c0_0, Option.bind_some, k49, Option.bind_some, tb, bnd2_some, if_neg (fun hh => hh rfl), k0, Option.bind_some]
    · have e0 : w1.2 274 13 = nI 0 := hr.2.2.2.2.1.1
      unfold Mod_undo
      rw [c274_13, Option.bind_some, e0, if_neg (fun hh => hh rfl), k274, Option.bind_some]
  | e :: t, h =>
    have hv := h.1
    have hn : t.length + 1 ≤ 12 := hv.2.2.2.1
    have he := hv.2.2.2.2.1 e (List.mem_cons_self ..)
    have hpx := prv_lt hx
    refine law_step (y := e.2) (st' := e.1) (tm' := tm) (x' := prv x) (hi' := t) (im' := im) (rf' := rf) (ss' := 0) (tp' := tp) (ft' := ft) h ?_ (fun w1 hr => ?_) ⟨he.1, hv.2.1, hpx, by omega, fun s hs => hv.2.2.2.2.1 s (List.mem_cons_of_mem _ hs), hv.2.2.2.2.2⟩
    · obtain ⟨h0, ⟨h1, h2, h3, h4, h5⟩, h6, ⟨h7, h7'⟩, h8, h9, h10⟩ := h.2.1
      have e0 : (x + 11 - 0) % 12 = prv x := by unfold prv; split <;> omega
      obtain ⟨k1, k2, k3⟩ := h7' 0 e rfl
      rw [e0] at k1 k2 k3
      obtain ⟨w1, a1, b1, c1, d1, f1, g1, _⟩ := Hist_takeBack_w h0 h7 h1.1 k2
      rw [k3] at a1
      rw [k1] at c1
      obtain ⟨w2, a2, b2, c2, d2, e2⟩ := cls_derived (g := e.1.1) b1
      have g2 : ∀ i, (16 ≤ i ∧ i < 20) ∨ (34 ≤ i ∧ i ≠ 49) ∨ i = 0 → w2.1 i = w.1 i ∧ w2.2 i = w.2 i := by
        intro i hi
        have q2 := e2 i (by omega)
        have q1 := g1 i (by omega) (by omega)
        exact ⟨q2.1.trans q1.1, q2.2.trans q1.2⟩
      have hs := st_same (w := w1) (w' := w2) (b := 1) (fun i _ h2 => e2 i (by omega))
      have hc2 : clsI w2 e.1 tm (prv x) t im rf ss tp ft := by
        refine ⟨b2, ⟨hs.2 d1, by rw [hs.1]; exact c1, c2, .inl d2, by rw [(g2 235 (by omega)).2]; exact h5⟩, by rw [(g2 16 (by omega)).1]; exact h6, ⟨?_, ?_⟩, clsM_fr h8 (fun i h => g2 i (by omega)), ?_, ?_⟩
        · obtain ⟨f1, f2, f3, f4, f5⟩ := f1
          refine ⟨by rw [(e2 49 (by omega)).2]; exact f1, f2, by rw [(e2 49 (by omega)).2]; exact f3, f4, fun j hj => ?_⟩
          have := hB_rng hj
          rw [(e2 (hB j + 8) (by omega)).2]
          exact f5 j hj
        · intro k s hk
          obtain ⟨q1, q2, q3⟩ := h7' (k + 1) s hk
          have e1' : (prv x + 11 - k) % 12 = (x + 11 - (k + 1)) % 12 := by
            have hk12 : k < t.length := (List.getElem?_eq_some_iff.mp hk).1
            unfold prv; split <;> omega
          rw [e1']
          have hy2 : (x + 11 - (k + 1)) % 12 < 12 := by omega
          generalize (x + 11 - (k + 1)) % 12 = y at q1 q2 q3 hy2 ⊢
          have hby := hB_rng hy2
          have hs := st_same (w := w) (w' := w2) (b := hB y) (fun i h1 h2 => g2 i (by omega))
          rw [hs.1, (g2 51 (by omega)).1]
          exact ⟨q1, hs.2 q2, q3⟩
        · unfold clsR at h9 ⊢
          rw [(g2 243 (by omega)).1, (g2 0 (by omega)).2]; exact h9
        · unfold clsT at h10 ⊢
          rw [(g2 41 (by omega)).1, (g2 40 (by omega)).2]; exact h10
      obtain ⟨w3, a3, b3, e3⟩ := cls_accept hc2 e.2
      refine ⟨w3, ?_, b3, fun i hi => ⟨((e3 i (by omega)).1).trans (g2 i (by omega)).1, ((e3 i (by omega)).2).trans (g2 i (by omega)).2⟩⟩
      unfold Sp_undo
      rw [c0_5, Option.bind_some, c0_0, Option.bind_some, k49, Option.bind_some, a1, bnd2_some, if_pos he.2, k0, Option.bind_some, a2, bnd2_some, k0, Option.bind_some, a3, bnd2_some]
    · obtain ⟨h0, h1, h2, h3, ⟨h4, h5, h6⟩, h7, h8, h9⟩ := hr
      have e0 : (x + 12 - 0) % 12 = x := by omega
      obtain ⟨k1, k2⟩ := h6 0 e rfl
      rw [e0] at k1 k2
      obtain ⟨q, i1, W, rfl, hW, hF, hW2, hWk⟩ := iter_I (body := Mod_undo_b16 274) (fun j s => ∃ W, s = (nI j, hp W) ∧ WL W ∧ Fr w1 W 279 280 ∧ W.2 = w1.2 ∧ ∀ k, k < j → (W.1 279).getD k 0 = (w1.1 283).getD (1427 * x + k) 0) (fun r => ∃ W, r = (nI 1427, hp W) ∧ WL W ∧ Fr w1 W 279 280 ∧ W.2 = w1.2 ∧ ∀ k, k < 1427 → (W.1 279).getD k 0 = (w1.1 283).getD (1427 * x + k) 0) 1427 (s0 := (0, hp w1)) (by omega) ⟨w1, rfl, h0, Fr.rfl', rfl, fun k hk => absurd hk (by omega)⟩ (by
        rintro j s hj ⟨W, rfl, hW, hF, hW2, hWk⟩
        left
        have hcn : ¬ (1427 : Int32) ≤ nI j := nI_ge (b := 1427) hj (by omega)
        have g14 : W.2 274 14 = nI x := by rw [hW2, h5]
        have ei : 1427 * nI x + nI j = nI (1427 * x + j) := by
          rw [show (1427 : Int32) * nI x = nI (1427 * x) from nI_mul 1427 x, nI_add]
        have q1 : ald 0 (hp W) 283 (1427 * nI x + nI j) = some ((w1.1 283).getD (1427 * x + j) 0) := by
          rw [ald_w (j := 1427 * x + j) s283 ei (by rw [l283 hW]; omega) (by omega), (hF 283 (by omega)).1]
        obtain ⟨V, v1, v2, v3, v4, v5⟩ := st_at (i := nI j) (x := (w1.1 283).getD (1427 * x + j) 0) (j := j) hW s279 rfl (show j < 1427 from hj) (by omega)
        refine ⟨(nI (j + 1), hp V), by simp only [Mod_undo_b16, if_neg hcn, c274_5, c274_11, c274_14, Option.bind_some, g14, q1, v1, nI_1], V, rfl, v2, hF.tr v5, by rw [v4, hW2], fun k hk => ?_⟩
        rw [v3, gD_set, l279 hW]
        by_cases hkj : j = k
        · rw [if_pos ⟨hkj, hj⟩, hkj]
        · rw [if_neg (fun hh => hkj hh.1)]
          exact hWk k (by omega)) (by
        rintro s ⟨W, rfl, hW, hF, hW2, hWk⟩
        exact ⟨(nI 1427, hp W), by simp only [Mod_undo_b16, if_pos (show (1427 : Int32) ≤ nI 1427 by decide)], W, rfl, hW, hF, hW2, hWk⟩)
      have hrow : W.1 279 = slc (w1.1 283) (1427 * x) 1427 := by
        apply ext_gD
        · rw [l279 hW]; unfold slc; simp
        · intro k hk
          have hk' : k < 1427 := by unfold slc at hk; rw [List.length_map, List.length_range] at hk; exact hk
          rw [hWk k hk', slc_get hk']
      have g14 : W.2 274 14 = nI x := by rw [hW2, h5]
      have g13 : W.2 274 13 = nI (t.length + 1) := by rw [hW2, h4]; rfl
      have l284' : ald 0 (hp W) 284 (nI x) = some e.2 := by
        rw [ald_w (j := x) s284 rfl (by rw [l284 hW]; exact hx) (by omega), (hF 284 (by omega)).1, k2]
      obtain ⟨w2, a2, b2, c2, d2, d2', e2⟩ := pf_eq (x := nI (prv x)) hW p274_14
      have g13' : w2.2 274 13 = nI (t.length + 1) := by rw [d2' 13 (by omega), g13]
      obtain ⟨w3, a3, b3, c3, d3, d3', e3⟩ := pf_eq (x := nI t.length) b2 p274_13
      have f3 : ∀ i, i ≠ 274 → i ≠ 279 → w3.1 i = w1.1 i ∧ w3.2 i = w1.2 i := by
        intro i i1 i2
        have q3 := e3 i (by omega)
        have q2 := e2 i (by omega)
        have q1 := hF i (by omega)
        exact ⟨q3.1.trans (q2.1.trans q1.1), q3.2.trans (q2.2.trans q1.2)⟩
      have f4 : ∀ k, k ≠ 13 → k ≠ 14 → w3.2 274 k = w1.2 274 k := by
        intro k k1 k2
        rw [d3' k k1, d2' k k2, hW2]
      have hI3 : refI w3 e.1 tm (prv x) t im rf ss tp ft := by
        refine ⟨b3, by rw [c3, c2, hrow]; exact k1, by rw [(f3 276 (by omega) (by omega)).1]; exact h2, by rw [(f3 277 (by omega) (by omega)).1, (f3 278 (by omega) (by omega)).1]; exact h3, ⟨d3, by rw [d3' 14 (by omega), d2], fun k s hk => ?_⟩, ?_, ?_, ?_⟩
        · obtain ⟨q1, q2⟩ := h6 (k + 1) s hk
          have e1' : (prv x + 12 - k) % 12 = (x + 12 - (k + 1)) % 12 := by
            have hk12 : k < t.length := (List.getElem?_eq_some_iff.mp hk).1
            unfold prv; split <;> omega
          rw [e1', (f3 283 (by omega) (by omega)).1, (f3 284 (by omega) (by omega)).1]
          exact ⟨q1, q2⟩
        · unfold refM at h7 ⊢
          rw [(f3 286 (by omega) (by omega)).1, (f3 285 (by omega) (by omega)).1]
          exact h7
        · unfold refR at h8 ⊢
          rw [(f3 275 (by omega) (by omega)).1, f4 0 (by omega) (by omega)]
          exact h8
        · unfold refT at h9 ⊢
          rw [(f3 282 (by omega) (by omega)).1, f4 9 (by omega) (by omega), f4 10 (by omega) (by omega)]
          exact h9
      obtain ⟨w4, a4, b4, e4⟩ := ref_accept hI3 e.2
      refine ⟨w4, ?_, b4, fun i hi => ⟨((e4 i (by omega)).1).trans (f3 i (by omega) (by omega)).1, ((e4 i (by omega)).2).trans (f3 i (by omega) (by omega)).2⟩⟩
      have es : nI (t.length + 1) - 1 = nI t.length := nI_sb (b := 1) (by omega) (by omega)
      have h4' : w1.2 274 13 = nI (t.length + 1) := h4
      unfold Mod_undo
      rw [c274_13, Option.bind_some, h4', if_pos (fun hh => by have := (nI_eq (b := 0) (by omega) (by omega)).mp hh; omega), i1, Option.bind_some]
      unfold Mod_undo_j50
      rw [c274_12, Option.bind_some, c274_14, Option.bind_some, g14, l284', Option.bind_some, Option.bind_some, prv_I ⟨x, hx⟩, a2, Option.bind_some, c274_13, Option.bind_some, g13', es, a3, Option.bind_some, k274, Option.bind_some, a4, bnd2_some]
end Rd
