/-! what class and reference stand for -/
def stV (s : ST) : Prop := wfP s.1 ∧ csOk s.1 s.2.1 ∧ srOk s.1 s.2.2 ∧ s.2.1.length ≤ 40
def rowX (r : List Int32) (s : ST) : Prop := rowIs r s.1 s.2.1 s.2.2
def tmV (t : List Int32) : Prop := t.length = 4 ∧ (0 ≤ (t.getD 0 0).toInt ∧ (t.getD 0 0).toInt ≤ 1) ∧ (0 ≤ (t.getD 1 0).toInt ∧ (t.getD 1 0).toInt ≤ 9) ∧ (0 ≤ (t.getD 2 0).toInt ∧ (t.getD 2 0).toInt ≤ 1000) ∧ (4 ≤ (t.getD 3 0).toInt ∧ (t.getD 3 0).toInt ≤ 40)
def clsH (w : Wd) (x : Nat) (hi : List (ST × Int32)) : Prop := hOk w hi.length x ∧ ∀ t s, hi[t]? = some s → stW w (hB ((x + 11 - t) % 12)) = s.1 ∧ stOk w (hB ((x + 11 - t) % 12)) ∧ (w.1 51).getD ((x + 11 - t) % 12) 0 = s.2
def refH (w : Wd) (x : Nat) (hi : List (ST × Int32)) : Prop := w.2 274 13 = nI hi.length ∧ w.2 274 14 = nI x ∧ ∀ t s, hi[t]? = some s → rowX (slc (w.1 283) (1427 * ((x + 12 - t) % 12)) 1427) s.1 ∧ (w.1 284).getD ((x + 12 - t) % 12) 0 = s.2
def imB (k : Nat) : Nat := 244 + 15 * k
def clsM (w : Wd) (im : Nat → Option (ST × List Int32)) : Prop := ∀ k, k < 2 → w.2 (imB k + 8) 0 = nI 40 ∧ (w.1 234).getD k 0 = b2i (im k).isSome ∧ ∀ s, im k = some s → stW w (imB k) = s.1 ∧ stOk w (imB k) ∧ slc (w.1 233) (4 * k) 4 = s.2
def refM (w : Wd) (im : Nat → Option (ST × List Int32)) : Prop := ∀ k, k < 2 → (w.1 286).getD k 0 = b2i (im k).isSome ∧ ∀ s, im k = some s → rowX (slc (w.1 285) (1431 * k) 1427) s.1 ∧ slc (w.1 285) (1431 * k + 1427) 4 = s.2
def btR (c d : Int32) : Prop := 0 ≤ d.toInt ∧ d.toInt ≤ 255 ∧ c.toInt = if d.toInt < 128 then d.toInt else d.toInt - 256
def clsT (w : Wd) (tp : List Int32) (ft : Int32) : Prop := w.2 40 1 = nI tp.length ∧ tp.length ≤ 400 ∧ (∀ k, k < tp.length → btR ((w.1 41).getD k 0) (tp.getD k 0)) ∧ w.2 40 2 = ft
def refT (w : Wd) (tp : List Int32) (ft : Int32) : Prop := w.2 274 9 = nI tp.length ∧ (∀ k, k < tp.length → (w.1 282).getD k 0 = tp.getD k 0) ∧ w.2 274 10 = ft
def clsR (w : Wd) (rf : Nat → Int32) (ss : Int32) : Prop := (∀ k, k < 6 → (w.1 243).getD k 0 = rf k) ∧ w.2 0 13 = ss
def refR (w : Wd) (rf : Nat → Int32) (ss : Int32) : Prop := (∀ k, k < 6 → (w.1 275).getD (k + 1) 0 = rf k) ∧ w.2 274 0 = ss
def clsS (w : Wd) (st : ST) : Prop := stOk w 1 ∧ stW w 1 = st ∧ bkOk w st.1 ∧ (w.2 33 0 = 1 ∨ (w.2 33 0 = 0 ∧ bdA w st.1 st.2.1)) ∧ w.2 235 0 = nI 99
def clsI (w : Wd) (st : ST) (tm : List Int32) (x : Nat) (hi : List (ST × Int32)) (im : Nat → Option (ST × List Int32)) (rf : Nat → Int32) (ss : Int32) (tp : List Int32) (ft : Int32) : Prop := WL w ∧ clsS w st ∧ w.1 16 = tm ∧ clsH w x hi ∧ clsM w im ∧ clsR w rf ss ∧ clsT w tp ft
def refI (w : Wd) (st : ST) (tm : List Int32) (x : Nat) (hi : List (ST × Int32)) (im : Nat → Option (ST × List Int32)) (rf : Nat → Int32) (ss : Int32) (tp : List Int32) (ft : Int32) : Prop := WL w ∧ rowX (w.1 279) st ∧ w.1 276 = tm ∧ (w.1 277 = [0, 0, 0, 4] ∧ w.1 278 = [1, 9, 1000, 40]) ∧ refH w x hi ∧ refM w im ∧ refR w rf ss ∧ refT w tp ft
def vA (st : ST) (tm : List Int32) (x : Nat) (hi : List (ST × Int32)) (im : Nat → Option (ST × List Int32)) : Prop := stV st ∧ tmV tm ∧ x < 12 ∧ hi.length ≤ 12 ∧ (∀ s ∈ hi, stV s.1 ∧ s.2 ≠ -1) ∧ ∀ k s, k < 2 → im k = some s → stV s.1 ∧ tmV s.2
theorem hB_rng {j : Nat} (h : j < 12) : 52 ≤ hB j ∧ hB j + 15 ≤ 232 := by unfold hB; omega
theorem clsH_fr {w w' : Wd} {x : Nat} {hi : List (ST × Int32)} (h : clsH w x hi) (hF : ∀ i, 49 ≤ i → i < 232 → w'.1 i = w.1 i ∧ w'.2 i = w.2 i) : clsH w' x hi := by
  obtain ⟨⟨h1, h2, h3, h4, h5⟩, h6⟩ := h
  have hF2 : ∀ j, j < 12 → ∃ V : Wd, True := fun _ _ => ⟨w, trivial⟩
  refine ⟨⟨by rw [(hF 49 (by omega) (by omega)).2]; exact h1, h2, by rw [(hF 49 (by omega) (by omega)).2]; exact h3, h4, fun j hj => by have := hB_rng hj; rw [(hF (hB j + 8) (by omega) (by omega)).2]; exact h5 j hj⟩, fun t s ht => ?_⟩
  obtain ⟨k1, k2, k3⟩ := h6 t s ht
  have hb := hB_rng (show (x + 11 - t) % 12 < 12 by omega)
  generalize hB ((x + 11 - t) % 12) = b at k1 k2 hb ⊢
  have hFr : ∀ i, b ≤ i → i < b + 15 → w'.1 i = w.1 i ∧ w'.2 i = w.2 i := fun i h1 h2 => hF i (by omega) (by omega)
  have e1 : stW w' b = stW w b := by
    unfold stW pdW cutsW srW
    have ec : cN w' (b + 8) = cN w (b + 8) := by unfold cN; rw [(hFr (b + 8) (by omega) (by omega)).2]
    rw [ec, (hFr (b + 1) (by omega) (by omega)).2, (hFr (b + 14) (by omega) (by omega)).2, (hFr (b + 1 + 1) (by omega) (by omega)).1, (hFr (b + 1 + 2) (by omega) (by omega)).1, (hFr (b + 1 + 3) (by omega) (by omega)).1, (hFr (b + 1 + 4) (by omega) (by omega)).1, (hFr (b + 1 + 5) (by omega) (by omega)).1, (hFr (b + 1 + 6) (by omega) (by omega)).1]
    have e : (List.range (cN w (b + 8))).map (ctW w' (b + 8)) = (List.range (cN w (b + 8))).map (ctW w (b + 8)) := by
      apply List.map_congr_left
      intro i _
      exact ct_ext (by rw [(hFr (b + 8 + 1) (by omega) (by omega)).1]) (by rw [(hFr (b + 8 + 2) (by omega) (by omega)).1]) (by rw [(hFr (b + 8 + 3) (by omega) (by omega)).1]) (fun _ _ => by rw [(hFr (b + 8 + 4) (by omega) (by omega)).1]) (fun _ _ => by rw [(hFr (b + 8 + 5) (by omega) (by omega)).1])
    rw [e]
  refine ⟨by rw [e1]; exact k1, ?_, by rw [(hF 51 (by omega) (by omega)).1]; exact k3⟩
  unfold stOk cSz cN at k2 ⊢
  rw [(hFr (b + 8) (by omega) (by omega)).2]
  exact k2
theorem st_same {w w' : Wd} {b : Nat} (hFr : ∀ i, b ≤ i → i < b + 15 → w'.1 i = w.1 i ∧ w'.2 i = w.2 i) : stW w' b = stW w b ∧ (stOk w b → stOk w' b) := by
  refine ⟨?_, fun k2 => ?_⟩
  · unfold stW pdW cutsW srW
    have ec : cN w' (b + 8) = cN w (b + 8) := by unfold cN; rw [(hFr (b + 8) (by omega) (by omega)).2]
    rw [ec, (hFr (b + 1) (by omega) (by omega)).2, (hFr (b + 14) (by omega) (by omega)).2, (hFr (b + 1 + 1) (by omega) (by omega)).1, (hFr (b + 1 + 2) (by omega) (by omega)).1, (hFr (b + 1 + 3) (by omega) (by omega)).1, (hFr (b + 1 + 4) (by omega) (by omega)).1, (hFr (b + 1 + 5) (by omega) (by omega)).1, (hFr (b + 1 + 6) (by omega) (by omega)).1]
    have e : (List.range (cN w (b + 8))).map (ctW w' (b + 8)) = (List.range (cN w (b + 8))).map (ctW w (b + 8)) := by
      apply List.map_congr_left
      intro i _
      exact ct_ext (by rw [(hFr (b + 8 + 1) (by omega) (by omega)).1]) (by rw [(hFr (b + 8 + 2) (by omega) (by omega)).1]) (by rw [(hFr (b + 8 + 3) (by omega) (by omega)).1]) (fun _ _ => by rw [(hFr (b + 8 + 4) (by omega) (by omega)).1]) (fun _ _ => by rw [(hFr (b + 8 + 5) (by omega) (by omega)).1])
    rw [e]
  · unfold stOk cSz cN at k2 ⊢
    rw [(hFr (b + 8) (by omega) (by omega)).2]
    exact k2
theorem clsM_fr {w w' : Wd} {im : Nat → Option (ST × List Int32)} (h : clsM w im) (hF : ∀ i, (i = 233 ∨ i = 234 ∨ (244 ≤ i ∧ i < 274)) → w'.1 i = w.1 i ∧ w'.2 i = w.2 i) : clsM w' im := by
  intro k hk
  obtain ⟨h1, h2, h3⟩ := h k hk
  have hb : 244 ≤ imB k ∧ imB k + 15 ≤ 274 := by unfold imB; omega
  refine ⟨by rw [(hF (imB k + 8) (by omega)).2]; exact h1, by rw [(hF 234 (by omega)).1]; exact h2, fun s hs => ?_⟩
  obtain ⟨k1, k2, k3⟩ := h3 s hs
  have hs' := st_same (w := w) (w' := w') (b := imB k) (fun i h1 h2 => hF i (by omega))
  exact ⟨by rw [hs'.1]; exact k1, hs'.2 k2, by rw [(hF 233 (by omega)).1]; exact k3⟩
theorem clsI_fr {w w' : Wd} {st : ST} {tm : List Int32} {x : Nat} {hi : List (ST × Int32)} {im : Nat → Option (ST × List Int32)} {rf : Nat → Int32} {ss : Int32} {tp : List Int32} {ft : Int32} (h : clsI w st tm x hi im rf ss tp ft) (hw' : WL w') (hF : Fr w w' 274 292) : clsI w' st tm x hi im rf ss tp ft := by
  obtain ⟨h0, ⟨h1, h2, h3, h4, h5⟩, h6, h7, h8, h9, h10⟩ := h
  have f : ∀ i, i < 274 → w'.1 i = w.1 i ∧ w'.2 i = w.2 i := fun i hi => hF i (Or.inl hi)
  have hs := st_same (w := w) (w' := w') (b := 1) (fun i _ h2 => f i (by omega))
  refine ⟨hw', ⟨hs.2 h1, by rw [hs.1]; exact h2, bkOk_fr h3 (f 22 (by omega)).1 (f 23 (by omega)).1 (f 32 (by omega)).1, ?_, by rw [(f 235 (by omega)).2]; exact h5⟩, by rw [(f 16 (by omega)).1]; exact h6, clsH_fr h7 (fun i _ h => f i (by omega)), clsM_fr h8 (fun i h => f i (by omega)), ?_, ?_⟩
  · rw [(f 33 (by omega)).2]
    rcases h4 with h | ⟨h, h'⟩
    · exact Or.inl h
    · exact Or.inr ⟨h, bdA_fr h' (f 34 (by omega)).1 (f 35 (by omega)).1⟩
  · unfold clsR at h9 ⊢
    rw [(f 243 (by omega)).1, (f 0 (by omega)).2]; exact h9
  · unfold clsT at h10 ⊢
    rw [(f 41 (by omega)).1, (f 40 (by omega)).2]; exact h10
theorem refI_fr {w w' : Wd} {st : ST} {tm : List Int32} {x : Nat} {hi : List (ST × Int32)} {im : Nat → Option (ST × List Int32)} {rf : Nat → Int32} {ss : Int32} {tp : List Int32} {ft : Int32} (h : refI w st tm x hi im rf ss tp ft) (hw' : WL w') (hF : Fr w w' 0 274) : refI w' st tm x hi im rf ss tp ft := by
  have f : ∀ i, 274 ≤ i → w'.1 i = w.1 i ∧ w'.2 i = w.2 i := fun i hi => hF i (Or.inr hi)
  unfold refI refH refM refR refT at h ⊢
  rw [(f 279 (by omega)).1, (f 276 (by omega)).1, (f 277 (by omega)).1, (f 278 (by omega)).1, (f 274 (by omega)).2, (f 283 (by omega)).1, (f 284 (by omega)).1, (f 286 (by omega)).1, (f 285 (by omega)).1, (f 275 (by omega)).1, (f 282 (by omega)).1]
  exact ⟨hw', h.2⟩
/-- reference's cells but its scratch are as they were -/
def frM (w w' : Wd) : Prop := (∀ i, i ≠ 274 → i ≠ 280 → i ≠ 281 → (i < 287 ∨ 292 ≤ i) → w'.1 i = w.1 i ∧ w'.2 i = w.2 i) ∧ (∀ k, k ≠ 17 → k ≠ 18 → k ≠ 19 → k ≠ 20 → k ≠ 21 → k ≠ 22 → k ≠ 27 → w'.2 274 k = w.2 274 k)
theorem refI_M {w w' : Wd} {st : ST} {tm : List Int32} {x : Nat} {hi : List (ST × Int32)} {im : Nat → Option (ST × List Int32)} {rf : Nat → Int32} {ss : Int32} {tp : List Int32} {ft : Int32} (h : refI w st tm x hi im rf ss tp ft) (hw' : WL w') (hF : frM w w') : refI w' st tm x hi im rf ss tp ft := by
  have f : ∀ i, i ≠ 274 → i ≠ 280 → i ≠ 281 → (i < 287 ∨ 292 ≤ i) → w'.1 i = w.1 i := fun i a b c d => (hF.1 i a b c d).1
  unfold refI refH refM refR refT at h ⊢
  rw [f 279 (by omega) (by omega) (by omega) (by omega), f 276 (by omega) (by omega) (by omega) (by omega), f 277 (by omega) (by omega) (by omega) (by omega), f 278 (by omega) (by omega) (by omega) (by omega), f 283 (by omega) (by omega) (by omega) (by omega), f 284 (by omega) (by omega) (by omega) (by omega), f 286 (by omega) (by omega) (by omega) (by omega), f 285 (by omega) (by omega) (by omega) (by omega), f 275 (by omega) (by omega) (by omega) (by omega), f 282 (by omega) (by omega) (by omega) (by omega), hF.2 0 (by omega) (by omega) (by omega) (by omega) (by omega) (by omega) (by omega), hF.2 9 (by omega) (by omega) (by omega) (by omega) (by omega) (by omega) (by omega), hF.2 10 (by omega) (by omega) (by omega) (by omega) (by omega) (by omega) (by omega), hF.2 13 (by omega) (by omega) (by omega) (by omega) (by omega) (by omega) (by omega), hF.2 14 (by omega) (by omega) (by omega) (by omega) (by omega) (by omega) (by omega)]
  exact ⟨hw', h.2⟩
theorem frS.M {w w' : Wd} (h : frS w w') : frM w w' := ⟨fun i a _ _ d => h.1 i a (by omega), fun k _ _ _ _ e f _ => h.2.2 k e f⟩
/-- class's cells but the engine's are as they were -/
theorem clsI_E {w w' : Wd} {st : ST} {tm : List Int32} {x : Nat} {hi : List (ST × Int32)} {im : Nat → Option (ST × List Int32)} {rf : Nat → Int32} {ss : Int32} {tp : List Int32} {ft : Int32} (h : clsI w st tm x hi im rf ss tp ft) (hw' : WL w') (hF : Fr w w' 17 40) (hk : bkOk w' st.1) (hb : w'.2 33 0 = 1 ∨ (w'.2 33 0 = 0 ∧ bdA w' st.1 st.2.1)) : clsI w' st tm x hi im rf ss tp ft := by
  obtain ⟨h0, ⟨h1, h2, h3, h4, h5⟩, h6, h7, h8, h9, h10⟩ := h
  have f : ∀ i, (i < 17 ∨ 40 ≤ i) → w'.1 i = w.1 i ∧ w'.2 i = w.2 i := hF
  have hs := st_same (w := w) (w' := w') (b := 1) (fun i _ h2 => f i (by omega))
  refine ⟨hw', ⟨hs.2 h1, by rw [hs.1]; exact h2, hk, hb, by rw [(f 235 (by omega)).2]; exact h5⟩, by rw [(f 16 (by omega)).1]; exact h6, clsH_fr h7 (fun i a b => f i (by omega)), clsM_fr h8 (fun i h => f i (by omega)), ?_, ?_⟩
  · unfold clsR at h9 ⊢
    rw [(f 243 (by omega)).1, (f 0 (by omega)).2]; exact h9
  · unfold clsT at h10 ⊢
    rw [(f 41 (by omega)).1, (f 40 (by omega)).2]; exact h10
def updR (rf : Nat → Int32) (m : Nat) : Nat → Int32 := fun k => if k = m then rf k + 1 else rf k
theorem cls_refuse {w : Wd} {st : ST} {tm : List Int32} {x : Nat} {hi : List (ST × Int32)} {im : Nat → Option (ST × List Int32)} {rf : Nat → Int32} {ss : Int32} {tp : List Int32} {ft : Int32} (h : clsI w st tm x hi im rf ss tp ft) {m : Nat} (hm : m < 6) {b : Int32} (hb : (-1) - b = nI m) : ∃ w', Sp_refuse 0 b (hp w) = some (b, hp w') ∧ clsI w' st tm x hi im (updR rf m) b tp ft ∧ Fr w w' 0 274 := by
  obtain ⟨h0, ⟨h1, h2, h3, h4, h5⟩, h6, h7, h8, h9, h10⟩ := h
  have L := l243 h0
  have c1 : ¬ nI m < 0 := nI_pos (by omega)
  have c2 : ¬ (6 : Int32) ≤ nI m := nI_ge (b := 6) hm (by omega)
  have a : ald 0 (hp w) 243 (nI m) = some (rf m) := by rw [ald_w (j := m) s243 rfl (by omega) (by omega), h9.1 m hm]
  refine ⟨wF (wA w 243 ((w.1 243).set m (rf m + 1))) 0 13 b, ?_, ?_, Fr.cF (Fr.A (by omega) (by omega)) (by omega) (by omega)⟩
  · simp only [Sp_refuse, hb, if_neg c1, if_neg c2, c0_12, a, Option.bind_some]
    rw [ast_w (j := m) s243 rfl (by omega) (by omega)]
    simp only [Option.bind_some, Sp_refuse_j24, p0_13]
    rfl
  · have f : ∀ i, i ≠ 0 → i ≠ 243 → (wF (wA w 243 ((w.1 243).set m (rf m + 1))) 0 13 b).1 i = w.1 i ∧ (wF (wA w 243 ((w.1 243).set m (rf m + 1))) 0 13 b).2 i = w.2 i := fun i a b => ⟨by rw [wF_A, wA_n b], by funext j; rw [wF_n (by omega), wA_F]⟩
    have hs := st_same (w := w) (w' := wF (wA w 243 ((w.1 243).set m (rf m + 1))) 0 13 b) (b := 1) (fun i _ h2 => f i (by omega) (by omega))
    refine ⟨WL.F (WL.S h0), ⟨hs.2 h1, by rw [hs.1]; exact h2, bkOk_fr h3 (f 22 (by omega) (by omega)).1 (f 23 (by omega) (by omega)).1 (f 32 (by omega) (by omega)).1, ?_, by rw [(f 235 (by omega) (by omega)).2]; exact h5⟩, by rw [(f 16 (by omega) (by omega)).1]; exact h6, clsH_fr h7 (fun i _ h => f i (by omega) (by omega)), clsM_fr h8 (fun i h => f i (by omega) (by omega)), ⟨fun k hk => ?_, wF_s⟩, ?_⟩
    · rw [(f 33 (by omega) (by omega)).2]
      rcases h4 with h | ⟨h, h'⟩
      · exact Or.inl h
      · exact Or.inr ⟨h, bdA_fr h' (f 34 (by omega) (by omega)).1 (f 35 (by omega) (by omega)).1⟩
    · rw [wF_A, wA_s, gD_set]
      unfold updR
      by_cases hkm : m = k
      · subst hkm; rw [if_pos ⟨rfl, by omega⟩, if_pos rfl]
      · rw [if_neg (fun h => hkm h.1), if_neg (fun h => hkm h.symm)]; exact h9.1 k hk
    · unfold clsT at h10 ⊢
      rw [(f 41 (by omega) (by omega)).1, (f 40 (by omega) (by omega)).2]; exact h10
theorem cls_accept {w : Wd} {st : ST} {tm : List Int32} {x : Nat} {hi : List (ST × Int32)} {im : Nat → Option (ST × List Int32)} {rf : Nat → Int32} {ss : Int32} {tp : List Int32} {ft : Int32} (h : clsI w st tm x hi im rf ss tp ft) (y : Int32) : ∃ w', Sp_accept 0 y (hp w) = some (y, hp w') ∧ clsI w' st tm x hi im rf 0 tp ft ∧ Fr w w' 0 274 := by
  obtain ⟨h0, ⟨h1, h2, h3, h4, h5⟩, h6, h7, h8, h9, h10⟩ := h
  refine ⟨wF w 0 13 0, by simp only [Sp_accept, p0_13, Option.bind_some], ?_, Fr.F (by omega) (by omega)⟩
  have f : ∀ i, i ≠ 0 → (wF w 0 13 0).1 i = w.1 i ∧ (wF w 0 13 0).2 i = w.2 i := fun i a => ⟨rfl, by funext j; rw [wF_n (by omega)]⟩
  have hs := st_same (w := w) (w' := wF w 0 13 0) (b := 1) (fun i _ h2 => f i (by omega))
  refine ⟨WL.F h0, ⟨hs.2 h1, by rw [hs.1]; exact h2, h3, ?_, by rw [(f 235 (by omega)).2]; exact h5⟩, h6, clsH_fr h7 (fun i _ h => f i (by omega)), clsM_fr h8 (fun i h => f i (by omega)), ⟨h9.1, wF_s⟩, ?_⟩
  · rw [(f 33 (by omega)).2]; exact h4
  · unfold clsT at h10 ⊢
    rw [(f 40 (by omega)).2]; exact h10
theorem ref_refuse {w : Wd} {st : ST} {tm : List Int32} {x : Nat} {hi : List (ST × Int32)} {im : Nat → Option (ST × List Int32)} {rf : Nat → Int32} {ss : Int32} {tp : List Int32} {ft : Int32} (h : refI w st tm x hi im rf ss tp ft) {m : Nat} (hm : m < 6) {b : Int32} (hb : (-1) - b = nI m) : ∃ w', Mod_refuses 274 b (hp w) = some (b, hp w') ∧ refI w' st tm x hi im (updR rf m) b tp ft ∧ Fr w w' 274 292 := by
  obtain ⟨h0, h1, h2, h3, h4, h5, h6, h7⟩ := h
  have L := l275 h0
  have eb : -b = nI (m + 1) := by rw [← nI_1, ← hb]; grind
  have a : ald 0 (hp (wF w 274 0 b)) 275 (nI (m + 1)) = some (rf m) := by rw [ald_w (j := m + 1) s275 rfl (by rw [wF_A]; omega) (by omega), wF_A, h6.1 m hm]
  refine ⟨wA (wF w 274 0 b) 275 ((w.1 275).set (m + 1) (rf m + 1)), ?_, ?_, Fr.cA (Fr.F (by omega) (by omega)) (by omega) (by omega)⟩
  · simp only [Mod_refuses, p274_0, Option.bind_some, c274_1, eb, a]
    rw [ast_w (j := m + 1) s275 rfl (by rw [wF_A]; omega) (by omega)]
    rfl
  · have f1 : ∀ i, i ≠ 275 → (wA (wF w 274 0 b) 275 ((w.1 275).set (m + 1) (rf m + 1))).1 i = w.1 i := fun i a => by rw [wA_n a, wF_A]
    have f2 : ∀ k, k ≠ 0 → (wA (wF w 274 0 b) 275 ((w.1 275).set (m + 1) (rf m + 1))).2 274 k = w.2 274 k := fun k a => by rw [wA_F, wF_n (by omega)]
    unfold refI refH refM refR refT at *
    rw [f1 279 (by omega), f1 276 (by omega), f1 277 (by omega), f1 278 (by omega), f1 283 (by omega), f1 284 (by omega), f1 286 (by omega), f1 285 (by omega), f1 282 (by omega), f2 9 (by omega), f2 10 (by omega), f2 13 (by omega), f2 14 (by omega)]
    refine ⟨WL.A (WL.F h0) (by rw [List.length_set]; exact h0 275), h1, h2, h3, h4, h5, ⟨fun k hk => ?_, by rw [wA_F, wF_s]⟩, h7⟩
    rw [wA_s, gD_set]
    unfold updR
    by_cases hkm : m = k
    · subst hkm; rw [if_pos ⟨rfl, by omega⟩, if_pos rfl]
    · rw [if_neg (by omega), if_neg (fun h => hkm h.symm)]; exact h6.1 k hk
theorem ref_accept {w : Wd} {st : ST} {tm : List Int32} {x : Nat} {hi : List (ST × Int32)} {im : Nat → Option (ST × List Int32)} {rf : Nat → Int32} {ss : Int32} {tp : List Int32} {ft : Int32} (h : refI w st tm x hi im rf ss tp ft) (y : Int32) : ∃ w', Mod_tells 274 y (hp w) = some (y, hp w') ∧ refI w' st tm x hi im rf 0 tp ft ∧ Fr w w' 274 292 := by
  obtain ⟨h0, h1, h2, h3, h4, h5, h6, h7⟩ := h
  refine ⟨wF w 274 0 0, by simp only [Mod_tells, p274_0, Option.bind_some], ?_, Fr.F (by omega) (by omega)⟩
  have f2 : ∀ k, k ≠ 0 → (wF w 274 0 0).2 274 k = w.2 274 k := fun k a => by rw [wF_n (by omega)]
  unfold refI refH refM refR refT at *
  rw [f2 9 (by omega), f2 10 (by omega), f2 13 (by omega), f2 14 (by omega)]
  exact ⟨WL.F h0, h1, h2, h3, h4, h5, ⟨h6.1, wF_s⟩, h7⟩
