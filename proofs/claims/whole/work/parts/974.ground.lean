/-! the reference: a round -/
def rowIs (r : List Int32) (g : PD) (cs : List (List Int32)) (sr : List Int32) : Prop := mdG r = g ∧ mdC r = cs ∧ mdS r = sr ∧ r.getD 9 0 = nI cs.length ∧ cs.length ≤ 99
theorem rowIs.n {r : List Int32} {g : PD} {cs : List (List Int32)} {sr : List Int32} (h : rowIs r g cs sr) : mdN r = cs.length := by rw [← mdC_len, h.2.1]
theorem rowIs.ok {r : List Int32} {g : PD} {cs : List (List Int32)} {sr : List Int32} (h : rowIs r g cs sr) (hg : wfP g) (hc : csOk g cs) : mdOk r := ⟨by rw [h.1]; exact hg, ⟨by rw [h.n]; exact h.2.2.2.1, by rw [h.n]; exact h.2.2.2.2⟩, by rw [h.1, h.2.1]; exact hc⟩
theorem rowIs.of {r : List Int32} (h : mdOk r) : rowIs r (mdG r) (mdC r) (mdS r) := ⟨rfl, rfl, rfl, by rw [mdC_len]; exact h.2.1.1, by rw [mdC_len]; exact h.2.1.2⟩
theorem rowIs.v {r : List Int32} {g : PD} {cs : List (List Int32)} {sr : List Int32} (h : rowIs r g cs sr) : r.getD 3 0 = sr.getD 0 0 ∧ r.getD 4 0 = sr.getD 1 0 ∧ r.getD 5 0 = sr.getD 2 0 ∧ r.getD 6 0 = sr.getD 3 0 ∧ r.getD 7 0 = sr.getD 4 0 ∧ r.getD 8 0 = sr.getD 5 0 ∧ r.getD 10 0 = sr.getD 6 0 := by
  rw [← h.2.2.1]
  exact ⟨rfl, rfl, rfl, rfl, rfl, rfl, rfl⟩
theorem rowIs.set {r : List Int32} {g : PD} {cs : List (List Int32)} {sr : List Int32} (h : rowIs r g cs sr) (hl : r.length = 1427) {k : Nat} (hk : k = 3 ∨ k = 4 ∨ k = 5 ∨ k = 6 ∨ k = 7 ∨ k = 8 ∨ k = 10) (x : Int32) : rowIs (r.set k x) g cs (sr.set (if k = 10 then 6 else k - 3) x) := by
  refine ⟨?_, ?_, ?_, ?_, h.2.2.2.2⟩
  · rw [← h.1]
    exact mdG_cg (fun j hj => by rw [gD_set, if_neg (by omega)])
  · rw [← h.2.1]
    exact mdC_cg (by rw [gD_set, if_neg (by omega)]) (fun j hj => by rw [gD_set, if_neg (by omega)])
  · rw [← h.2.2.1]
    unfold mdS
    simp only [gD_set, hl]
    rcases hk with rfl | rfl | rfl | rfl | rfl | rfl | rfl <;> rfl
  · rw [gD_set, if_neg (by omega)]; exact h.2.2.2.1
def frR (w w' : Wd) : Prop := (∀ i, i ≠ 274 → i ≠ 279 → (i < 287 ∨ 291 ≤ i) → w'.1 i = w.1 i ∧ w'.2 i = w.2 i) ∧ w'.1 274 = w.1 274 ∧ (∀ k, k ≠ 21 → k ≠ 22 → k ≠ 27 → w'.2 274 k = w.2 274 k)
theorem frR.rfl' {w : Wd} : frR w w := ⟨fun _ _ _ _ => ⟨rfl, rfl⟩, rfl, fun _ _ _ _ => rfl⟩
theorem frR.tr {w w' w'' : Wd} (h1 : frR w w') (h2 : frR w' w'') : frR w w'' := ⟨fun i a b c => ⟨(h2.1 i a b c).1.trans (h1.1 i a b c).1, (h2.1 i a b c).2.trans (h1.1 i a b c).2⟩, h2.2.1.trans h1.2.1, fun k a b c => (h2.2.2 k a b c).trans (h1.2.2 k a b c)⟩
theorem frF.R {w w' : Wd} (h : frF w w') : frR w w' := ⟨fun i a _ c => h.1 i a c, h.2.1, h.2.2⟩
theorem frR.A {w : Wd} {xs : List Int32} : frR w (wA w 279 xs) := ⟨fun i _ b _ => ⟨wA_n b, rfl⟩, wA_n (by omega), fun _ _ _ _ => rfl⟩
theorem Fr.R {w w' : Wd} (h : Fr w w' 279 280) : frR w w' := ⟨fun i a b _ => h i (by omega), (h 274 (by omega)).1, fun k _ _ _ => by rw [(h 274 (by omega)).2]⟩
/-- new ones come behind, if there is room -/
theorem gr_room {w : Wd} {v1 v2 v3 v4 : Int32} {g : PD} {cs : List (List Int32)} {sr : List Int32} (hw : WL w) (hr : rowIs (w.1 279) g cs sr) (hl : w.2 274 27 = nI (nwC w).length) (h4 : (nwC w).length ≤ 4) (hroom : ((w.1 276).getD 3 0).toInt ≤ 99) : ∃ w' x, Mod_goesRound_j246 274 v1 v2 v3 v4 (hp w) = some (x, hp w') ∧ WL w' ∧ frR w w' ∧ (((w.1 276).getD 3 0 < nI (cs.length + (nwC w).length) ∧ x = -5) ∨ (¬ (w.1 276).getD 3 0 < nI (cs.length + (nwC w).length) ∧ x = nI (nwC w).length ∧ rowIs (w'.1 279) g (cs ++ nwC w) sr)) := by
  have h99 := hr.2.2.2.2
  generalize hM : (nwC w).length = M at *
  have a9 : ∀ W : Wd, WL W → (W.1 279).getD 9 0 = nI cs.length → ald 0 (hp W) 279 9 = some (nI cs.length) := fun W hW h => by rw [ldN hW (i := 9) (j := 9) rfl (by omega), h]
  have a3 : ald 0 (hp w) 276 3 = some ((w.1 276).getD 3 0) := ald_w (i := 3) (j := 3) s276 rfl (by rw [l276 hw]; omega) (by omega)
  simp only [Mod_goesRound_j246, c274_5, a9 w hw hr.2.2.2.1, Option.bind_some, c274_27, hl, c274_2, a3, nI_add]
  by_cases hx : (w.1 276).getD 3 0 < nI (cs.length + M)
  · rw [if_neg (fun h => by rw [ti_le] at h; rw [ti_lt] at hx; omega)]
    exact ⟨w, -5, rfl, hw, frR.rfl', Or.inl ⟨hx, rfl⟩⟩
  · rw [if_pos (by rw [ti_le]; rw [ti_lt] at hx; omega)]
    have hle : cs.length + M ≤ 99 := by
      rw [ti_lt, nI_toInt (by omega)] at hx
      omega
    have e13 : (75 : Int32) + 13 * nI cs.length = nI (75 + 13 * cs.length) := by
      have := nI_abc 75 13 cs.length 0
      rw [Nat.add_zero, nI_0, Int32.add_zero] at this
      exact this
    have e13M : (13 : Int32) * nI M = nI (13 * M) := nI_mul 13 M
    rw [e13]
    obtain ⟨q, i1, W, rfl, hW, hF, hk, hn⟩ := iter_I (body := Mod_goesRound_b288 274 v1 v2 v3 v4 (nI (75 + 13 * cs.length))) (fun j st => ∃ W, st = (nI j, hp W) ∧ WL W ∧ Fr w W 279 280 ∧ (∀ k, (k < 75 + 13 * cs.length) → (W.1 279).getD k 0 = (w.1 279).getD k 0) ∧ ∀ k, k < j → (W.1 279).getD (75 + 13 * cs.length + k) 0 = (w.1 290).getD k 0) (fun q => ∃ W, q = (nI (13 * M), hp W) ∧ WL W ∧ Fr w W 279 280 ∧ (∀ k, (k < 75 + 13 * cs.length) → (W.1 279).getD k 0 = (w.1 279).getD k 0) ∧ ∀ k, k < 13 * M → (W.1 279).getD (75 + 13 * cs.length + k) 0 = (w.1 290).getD k 0) (13 * M) (s0 := (0, hp w)) (by omega) ⟨w, rfl, hw, Fr.rfl', fun _ _ => rfl, fun _ h => absurd h (by omega)⟩ (by
      rintro j st hj ⟨W, rfl, hW, hF, hk, hn⟩
      left
      have hcn : ¬ nI (13 * M) ≤ nI j := nI_ge hj (by omega)
      have e27 : W.2 274 27 = nI M := by rw [(hF 274 (by omega)).2]; exact hl
      have L := l279 hW
      have L0 := l290 hW
      have a0 : ald 0 (hp W) 290 (nI j) = some ((w.1 290).getD j 0) := by rw [ald_w (j := j) s290 rfl (by omega) (by omega), (hF 290 (by omega)).1]
      simp only [Mod_goesRound_b288, c274_27, e27, e13M, Option.bind_some, if_neg hcn, c274_5, c274_26, a0, nI_add]
      rw [stN hW (j := 75 + 13 * cs.length + j) rfl (by omega)]
      simp only [Option.bind_some, nI_1]
      refine ⟨_, rfl, _, rfl, hW.S, Fr.cA hF (by omega) (by omega), fun k hk' => ?_, fun k hk' => ?_⟩
      · rw [wA_s, gD_set, if_neg (by omega)]; exact hk k hk'
      · rw [wA_s, gD_set]
        by_cases h : j = k
        · subst h; rw [if_pos ⟨rfl, by omega⟩]
        · rw [if_neg (by omega)]; exact hn k (by omega)) (by
      rintro st ⟨W, rfl, hW, hF, h⟩
      have e27 : W.2 274 27 = nI M := by rw [(hF 274 (by omega)).2]; exact hl
      exact ⟨(nI (13 * M), hp W), by simp only [Mod_goesRound_b288, c274_27, e27, e13M, Option.bind_some, if_pos (nI_le (Nat.le_refl _) (show 13 * M < 2 ^ 31 by omega))], W, rfl, hW, hF, h⟩)
    have e27 : W.2 274 27 = nI M := by rw [(hF 274 (by omega)).2]; exact hl
    have LW := l279 hW
    have h9 : (W.1 279).getD 9 0 = nI cs.length := by rw [hk 9 (by omega)]; exact hr.2.2.2.1
    refine ⟨wA W 279 ((W.1 279).set 9 (nI (cs.length + M))), nI M, ?_, hW.S, (Fr.R hF).tr frR.A, Or.inr ⟨hx, rfl, ?_⟩⟩
    · simp only [i1, Option.bind_some, Mod_goesRound_j323, c274_5, a9 W hW h9, c274_27, e27, nI_add]
      rw [stN hW (i := 9) (j := 9) rfl (by omega)]
      simp only [Option.bind_some, c274_27, wA_F, e27]
    · have e9 : ((wA W 279 ((W.1 279).set 9 (nI (cs.length + M)))).1 279).getD 9 0 = nI (cs.length + M) := by rw [wA_s, gD_set, if_pos ⟨rfl, by omega⟩]
      have ek : ∀ k, k ≠ 9 → ((wA W 279 ((W.1 279).set 9 (nI (cs.length + M)))).1 279).getD k 0 = (W.1 279).getD k 0 := fun k hk' => by rw [wA_s, gD_set, if_neg (by omega)]
      refine ⟨?_, ?_, ?_, by rw [e9, List.length_append, hM], by rw [List.length_append, hM]; exact hle⟩
      · rw [← hr.1]
        exact mdG_cg (fun k hk' => by rw [ek k (by omega), hk k (by omega)])
      · unfold mdC mdN
        rw [e9, nI_clamp (by omega)]
        have split : ∀ a b : Nat, (List.range (a + b)).map (mdC1 ((wA W 279 ((W.1 279).set 9 (nI (cs.length + M)))).1 279)) = (List.range a).map (mdC1 ((wA W 279 ((W.1 279).set 9 (nI (cs.length + M)))).1 279)) ++ (List.range b).map (fun i => mdC1 ((wA W 279 ((W.1 279).set 9 (nI (cs.length + M)))).1 279) (a + i)) := by
          intro a b
          induction b with
          | zero => simp
          | succ b ih =>
            rw [show a + (b + 1) = (a + b) + 1 by omega, List.range_succ, List.map_append, ih, List.range_succ, List.map_append, List.append_assoc]
            rfl
        rw [split]
        have p1 : (List.range cs.length).map (mdC1 ((wA W 279 ((W.1 279).set 9 (nI (cs.length + M)))).1 279)) = cs := by
          have : (List.range cs.length).map (mdC1 (w.1 279)) = cs := by
            have h := hr.2.1
            unfold mdC at h
            rw [hr.n] at h
            exact h
          rw [← this, List.length_map, List.length_range]
          apply List.map_congr_left
          intro i hi
          have hi' := List.mem_range.mp hi
          exact mdC1_same (fun k hk' => by rw [ek _ (by omega), hk _ (by omega)])
        have p2 : (List.range M).map (fun i => mdC1 ((wA W 279 ((W.1 279).set 9 (nI (cs.length + M)))).1 279) (cs.length + i)) = nwC w := by
          unfold nwC
          have : nwM w = M := by rw [← hM]; unfold nwC; rw [List.length_map, List.length_range]
          rw [this]
          apply List.map_congr_left
          intro i hi
          have hi' := List.mem_range.mp hi
          show (List.range 13).map (fun k => ((wA W 279 ((W.1 279).set 9 (nI (cs.length + M)))).1 279).getD (75 + 13 * (cs.length + i) + k) 0) = (List.range 13).map (fun k => (w.1 290).getD (13 * i + k) 0)
          apply List.map_congr_left
          intro k hk'
          have hk2 := List.mem_range.mp hk'
          rw [ek _ (by omega), show 75 + 13 * (cs.length + i) + k = 75 + 13 * cs.length + (13 * i + k) by omega, hn _ (by omega)]
        rw [p1, p2]
      · rw [← hr.2.2.1]
        unfold mdS
        rw [ek 3 (by omega), ek 4 (by omega), ek 5 (by omega), ek 6 (by omega), ek 7 (by omega), ek 8 (by omega), ek 10 (by omega), hk 3 (by omega), hk 4 (by omega), hk 5 (by omega), hk 6 (by omega), hk 7 (by omega), hk 8 (by omega), hk 10 (by omega)]
theorem goP_drop {g : PD} {keep : Int32} (hk : keep ≠ -1) (cs : List (List Int32)) : cs.filter (goP g keep) = dropP keep cs := by
  unfold dropP
  apply List.filter_congr
  intro c _
  unfold goP
  rw [if_neg hk]
  by_cases h : cK c 2 < keep
  · rw [decide_eq_true h, decide_eq_true (Int32.not_le.mpr h)]
  · rw [decide_eq_false h]
    symm
    exact decide_eq_false (fun h' => h (Int32.not_le.mp h'))
/-- old ones go, then new ones come -/
theorem gr_drop {w : Wd} {v1 v2 v4 : Int32} {ris : Bool} {g : PD} {cs : List (List Int32)} {sr : List Int32} (hw : WL w) (hg : wfP g) (hr : rowIs (w.1 279) g cs sr) (hl : w.2 274 27 = nI (nwC w).length) (h4 : (nwC w).length ≤ 4) (hroom : ((w.1 276).getD 3 0).toInt ≤ 99) (hkeep : 0 ≤ ((w.1 276).getD 1 0).toInt) (hsr : sr.length = 7) : ∃ w' x, Mod_goesRound_j213 274 v1 v2 (b2i ris) v4 (hp w) = some (x, hp w') ∧ WL w' ∧ frR w w' ∧ (((w.1 276).getD 3 0 < nI ((leftP ris ((w.1 276).getD 1 0) cs).length + (nwC w).length) ∧ x = -5) ∨ (¬ (w.1 276).getD 3 0 < nI ((leftP ris ((w.1 276).getD 1 0) cs).length + (nwC w).length) ∧ x = nI (nwC w).length ∧ rowIs (w'.1 279) g (leftP ris ((w.1 276).getD 1 0) cs ++ nwC w) (sr.set 6 (sr.getD 6 0 + (nI cs.length - nI (leftP ris ((w.1 276).getD 1 0) cs).length))))) := by
  have a1 : ald 0 (hp w) 276 1 = some ((w.1 276).getD 1 0) := ald_w (i := 1) (j := 1) s276 rfl (by rw [l276 hw]; omega) (by omega)
  have nod : (ris = false ∨ (w.1 276).getD 1 0 = 0) → ∃ w' x, Mod_goesRound_j246 274 v1 v2 (b2i ris) v4 (hp w) = some (x, hp w') ∧ WL w' ∧ frR w w' ∧ (((w.1 276).getD 3 0 < nI ((leftP ris ((w.1 276).getD 1 0) cs).length + (nwC w).length) ∧ x = -5) ∨ (¬ (w.1 276).getD 3 0 < nI ((leftP ris ((w.1 276).getD 1 0) cs).length + (nwC w).length) ∧ x = nI (nwC w).length ∧ rowIs (w'.1 279) g (leftP ris ((w.1 276).getD 1 0) cs ++ nwC w) (sr.set 6 (sr.getD 6 0 + (nI cs.length - nI (leftP ris ((w.1 276).getD 1 0) cs).length))))) := by
    intro h
    have el : leftP ris ((w.1 276).getD 1 0) cs = cs := by unfold leftP; rw [if_pos h]
    rw [el, i32_sub0]
    have es : sr.set 6 (sr.getD 6 0) = sr := by
      match sr, hsr with
      | [_, _, _, _, _, _, _], _ => rfl
    rw [es]
    exact gr_room hw hr hl h4 hroom
  unfold Mod_goesRound_j213
  cases ris
  · rw [if_pos (by decide)]
    exact nod (Or.inl rfl)
  · rw [if_neg (by decide)]
    simp only [c274_2, a1, Option.bind_some]
    by_cases hk0 : (w.1 276).getD 1 0 = 0
    · rw [if_pos hk0]
      exact nod (Or.inr hk0)
    · rw [if_neg hk0]
      have hkm : (w.1 276).getD 1 0 ≠ -1 := fun h => by rw [h, ti_m1] at hkeep; omega
      obtain ⟨V, v1', v2', v3', v4', v5', v6'⟩ := Mod_goes_w (age := (w.1 276).getD 1 0) hw (by rw [hr.1]; exact hg) (by rw [hr.n]; exact hr.2.2.2.1) (by rw [hr.n]; exact hr.2.2.2.2)
      have el : leftP true ((w.1 276).getD 1 0) cs = cs.filter (goP g ((w.1 276).getD 1 0)) := by
        unfold leftP
        rw [if_neg (by rintro (h | h); · exact absurd h (by decide)
                       · exact hk0 h), goP_drop hkm]
      rw [hr.n, hr.1, hr.2.1, ← el] at v1'
      rw [hr.1, hr.2.1, ← el] at v5' v6'
      have a10 : ald 0 (hp w) 279 10 = some (sr.getD 6 0) := by rw [ldN hw (i := 10) (j := 10) rfl (by omega), hr.v.2.2.2.2.2.2]
      have LV := l279 v2'
      have hrV : rowIs (V.1 279) g (leftP true ((w.1 276).getD 1 0) cs) sr := by
        refine ⟨?_, v6', ?_, v5', ?_⟩
        · rw [← hr.1]; exact mdG_cg (fun k hk => v4' k (by omega) (by omega))
        · rw [← hr.2.2.1]
          unfold mdS
          rw [v4' 3 (by omega) (by omega), v4' 4 (by omega) (by omega), v4' 5 (by omega) (by omega), v4' 6 (by omega) (by omega), v4' 7 (by omega) (by omega), v4' 8 (by omega) (by omega), v4' 10 (by omega) (by omega)]
        · rw [el]
          exact Nat.le_trans (List.length_filter_le _ _) hr.2.2.2.2
      have hrX := hrV.set LV (k := 10) (by omega) (sr.getD 6 0 + (nI cs.length - nI (leftP true ((w.1 276).getD 1 0) cs).length))
      rw [if_pos rfl] at hrX
      obtain ⟨X, hX⟩ : ∃ X, X = wA V 279 ((V.1 279).set 10 (sr.getD 6 0 + (nI cs.length - nI (leftP true ((w.1 276).getD 1 0) cs).length))) := ⟨_, rfl⟩
      have eX : X.1 279 = (V.1 279).set 10 (sr.getD 6 0 + (nI cs.length - nI (leftP true ((w.1 276).getD 1 0) cs).length)) := by rw [hX, wA_s]
      have eT : X.1 276 = w.1 276 := by rw [hX, wA_n (by omega), (v3' 276 (by omega)).1]
      have e2 : X.2 274 = w.2 274 := by rw [hX, wA_F, (v3' 274 (by omega)).2]
      have e290 : X.1 290 = w.1 290 := by rw [hX, wA_n (by omega), (v3' 290 (by omega)).1]
      have eN : nwC X = nwC w := by unfold nwC nwM; rw [e2, e290]
      have wX : WL X := by rw [hX]; exact WL.S v2'
      obtain ⟨Y, x, y1, y2, y3, y4⟩ := gr_room (v1 := v1) (v2 := v2) (v3 := b2i true) (v4 := v4) (w := X) (g := g) (cs := leftP true ((w.1 276).getD 1 0) cs) (sr := sr.set 6 (sr.getD 6 0 + (nI cs.length - nI (leftP true ((w.1 276).getD 1 0) cs).length))) wX (by rw [eX]; exact hrX) (by rw [eN, e2]; exact hl) (by rw [eN]; exact h4) (by rw [eT]; exact hroom)
      rw [eT, eN] at y4
      simp only [c274_5, a10, a1, k274, Option.bind_some, v1', bnd2_some]
      rw [stN v2' (i := 10) (j := 10) rfl (by omega)]
      simp only [Option.bind_some, ← hX]
      exact ⟨Y, x, y1, y2, (((Fr.R v3').tr (by rw [hX]; exact frR.A)).tr y3), y4⟩
