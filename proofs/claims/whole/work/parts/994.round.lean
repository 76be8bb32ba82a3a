/-! round -/
theorem dec_move {w W w1 W1 : Wd} (h : decR w W 9 15 16 true) (hw : ∀ i, i < 49 → w1.1 i = w.1 i ∧ w1.2 i = w.2 i) (hW : ∀ i, i < 49 → W1.1 i = W.1 i ∧ W1.2 i = W.2 i) (hWL : WL W1) (hF : Fr w1 W1 17 40) : decR w1 W1 9 15 16 true := by
  have p : pdW w1 2 = pdW w 2 := by
    unfold pdW
    rw [(hw 2 (by omega)).2, (hw (2 + 1) (by omega)).1, (hw (2 + 2) (by omega)).1, (hw (2 + 3) (by omega)).1, (hw (2 + 4) (by omega)).1, (hw (2 + 5) (by omega)).1, (hw (2 + 6) (by omega)).1]
  have cn : cN w1 9 = cN w 9 := by unfold cN; rw [(hw 9 (by omega)).2]
  have ct : ∀ i, ctW w1 9 i = ctW w 9 i := fun i => ct_ext (by rw [(hw (9 + 1) (by omega)).1]) (by rw [(hw (9 + 2) (by omega)).1]) (by rw [(hw (9 + 3) (by omega)).1]) (fun _ _ => by rw [(hw (9 + 4) (by omega)).1]) (fun _ _ => by rw [(hw (9 + 5) (by omega)).1])
  have ct' : ctW w1 9 = ctW w 9 := funext ct
  have cs : cutsW w1 9 = cutsW w 9 := by unfold cutsW; rw [cn, ct']
  obtain ⟨h1, h2, h3, h4, h5, h6⟩ := h
  refine ⟨hWL, hF, by rw [p]; exact bkOk_fr h3 (hW 22 (by omega)).1 (hW 23 (by omega)).1 (hW 32 (by omega)).1, by rw [(hW 33 (by omega)).2]; exact h4, by rw [p, cs]; exact bdA_fr h5 (hW 34 (by omega)).1 (hW 35 (by omega)).1, ?_⟩
  unfold decM at h6 ⊢
  rw [p, cs, cn, ct', (hw 15 (by omega)).2, (hw 16 (by omega)).1, (hW 17 (by omega)).2, (hW 38 (by omega)).1, (hW 39 (by omega)).1]
  exact h6
section Rd
variable {w : Wd} {st : ST} {tm : List Int32} {x : Nat} {hi : List (ST × Int32)} {im : Nat → Option (ST × List Int32)} {rf : Nat → Int32} {ss : Int32} {tp : List Int32} {ft : Int32}
theorem J_eg (h : lawJ w st tm x hi im rf ss tp ft) : egOk w 9 40 15 16 ∧ w.1 16 = tm := by
  obtain ⟨hg, hc, hs⟩ := J_pd h.2.1
  obtain ⟨hgv, hkv, _, _, _⟩ := J_wf h
  obtain ⟨t0, t1, t2, t3, t4⟩ := h.1.2.1
  have ht : w.1 16 = tm := h.2.1.2.2.1
  refine ⟨⟨h.2.1.1, hgv, hkv, h.2.1.2.1.1.2, h.2.1.2.1.1.1, by rw [hg, hc]; exact h.1.1.2.1, by rw [hg, hs]; exact h.1.1.2.2.1, by rw [hg, hc]; exact h.2.1.2.1.2.2.2.1, by rw [ht]; exact t3, by rw [ht]; exact t4.2, by rw [ht]; exact t0⟩, ht⟩
/-- decided, kept and done: the class's round from the decision on -/
theorem cls_done (h : lawJ w st tm x hi im rf ss tp ft) {W : Wd} (hd : decR w W 9 15 16 true) (act : Int32) : ∃ W1 W2 came, Hist_keep 49 1 act (hp W) = some ((), hp W1) ∧ W1.1 16 = tm ∧ Eng_apply 17 2 9 15 (tm.getD 1 0) (hp W1) = some (came, hp W2) ∧ Fr w W2 0 274 ∧ ∃ cs' sr', rndP st.1 st.2.1 st.2.2 tm = some (came, cs', sr') ∧ clsI W2 (st.1, cs', sr') tm (nxt x) (push (st, act) hi) im rf ss tp ft ∧ cs'.length ≤ 40 ∧ egOk W2 9 40 15 16 := by
  obtain ⟨hg, hc, hs⟩ := J_pd h.2.1
  obtain ⟨he, ht⟩ := J_eg h
  have hd' := hd
  obtain ⟨h1, h2, h3, h4, h5, h6⟩ := hd
  rw [hg] at h3 h5
  rw [hc] at h5
  have cW := clsI_E h.2.1 h1 h2 h3 (.inr ⟨h4, h5⟩)
  obtain ⟨W1, a1, b1, e1⟩ := cls_keep cW act
  obtain ⟨w1, hw1⟩ : ∃ w1 : Wd, w1 = (fun i => if i < 49 then w.1 i else W1.1 i, fun i => if i < 49 then w.2 i else W1.2 i) := ⟨_, rfl⟩
  have lo : ∀ i, i < 49 → w1.1 i = w.1 i ∧ w1.2 i = w.2 i := by
    intro i hi
    rw [hw1]
    exact ⟨if_pos hi, if_pos hi⟩
  have up : ∀ i, 49 ≤ i → w1.1 i = W1.1 i ∧ w1.2 i = W1.2 i := by
    intro i hi
    rw [hw1]
    exact ⟨if_neg (by omega), if_neg (by omega)⟩
  have wl1 : WL w1 := by
    intro i
    by_cases hi : i < 49
    · rw [(lo i hi).1]; exact h.2.1.1 i
    · rw [(up i (by omega)).1]; exact b1.1 i
  have f1 : Fr w1 W1 17 40 := by
    intro i hi
    by_cases h49 : i < 49
    · have q1 := e1 i (by omega)
      have q2 := h2 i (by omega)
      have q3 := lo i h49
      exact ⟨(q1.1.trans q2.1).trans q3.1.symm, (q1.2.trans q2.2).trans q3.2.symm⟩
    · have q3 := up i (by omega)
      exact ⟨q3.1.symm, q3.2.symm⟩
  have dm := dec_move hd' lo (fun i hi => e1 i (by omega)) b1.1 f1
  have p1 : pdW w1 2 = st.1 := by
    rw [← hg]
    unfold pdW
    rw [(lo 2 (by omega)).2, (lo (2 + 1) (by omega)).1, (lo (2 + 2) (by omega)).1, (lo (2 + 3) (by omega)).1, (lo (2 + 4) (by omega)).1, (lo (2 + 5) (by omega)).1, (lo (2 + 6) (by omega)).1]
  have cn1 : cN w1 9 = cN w 9 := by unfold cN; rw [(lo 9 (by omega)).2]
  have cs1 : cutsW w1 9 = st.2.1 := by
    rw [← hc]
    unfold cutsW
    rw [cn1]
    apply List.map_congr_left
    intro i _
    exact ct_ext (by rw [(lo (9 + 1) (by omega)).1]) (by rw [(lo (9 + 2) (by omega)).1]) (by rw [(lo (9 + 3) (by omega)).1]) (fun _ _ => by rw [(lo (9 + 4) (by omega)).1]) (fun _ _ => by rw [(lo (9 + 5) (by omega)).1])
  have sr1 : srW w1 15 = st.2.2 := by
    rw [← hs]
    unfold srW
    rw [(lo 15 (by omega)).2]
  have tm1 : w1.1 16 = tm := by rw [(lo 16 (by omega)).1, ht]
  obtain ⟨g1, g2, g3, g4, g5, g6, g7, g8, g9, g10, g11⟩ := he
  have eg1 : egOk w1 9 40 15 16 := by
    refine ⟨wl1, by rw [p1]; exact h.1.1.1, ?_, ?_, by rw [(lo 9 (by omega)).2]; exact g5, by rw [p1, cs1]; exact h.1.1.2.1, by rw [p1, sr1]; exact h.1.1.2.2.1, ?_, by rw [tm1, ← ht]; exact g9, by rw [tm1, ← ht]; exact g10, by rw [tm1, ← ht]; exact g11⟩
    · rw [p1, ← hg]; exact bkOk_fr g3 (lo 22 (by omega)).1 (lo 23 (by omega)).1 (lo 32 (by omega)).1
    · unfold cSz; rw [cn1, (lo 9 (by omega)).2]; exact g4
    · rw [p1, cs1, ← hg, ← hc, (lo 33 (by omega)).2]
      rcases g8 with g8 | ⟨g8, g8'⟩
      · exact .inl g8
      · exact .inr ⟨g8, bdA_fr g8' (lo 34 (by omega)).1 (lo 35 (by omega)).1⟩
  obtain ⟨W2, came, a2, a3⟩ := Eng_do plOk_1 eg1 dm
  have eg2 := a3.eg plOk_1 eg1
  rw [tm1] at a2
  obtain ⟨r1, r2, r3, r4, r5, r6, r7⟩ := a3
  rw [p1, cs1, sr1, tm1] at r1
  rw [p1] at r5 r6
  have f2 : ∀ i, (i < 9 ∨ (16 ≤ i ∧ i < 17) ∨ 40 ≤ i) → W2.1 i = W1.1 i ∧ W2.2 i = W1.2 i := by
    intro i hi
    have q1 := r7 i (by omega) (by omega) (by omega)
    have q2 := f1 i (by omega)
    exact ⟨q1.1.trans q2.1.symm, q1.2.trans q2.2.symm⟩
  have p2 : pdW W2 2 = st.1 := by
    rw [← p1]
    unfold pdW
    rw [(r7 2 (by omega) (by omega) (by omega)).2, (r7 (2 + 1) (by omega) (by omega) (by omega)).1, (r7 (2 + 2) (by omega) (by omega) (by omega)).1, (r7 (2 + 3) (by omega) (by omega) (by omega)).1, (r7 (2 + 4) (by omega) (by omega) (by omega)).1, (r7 (2 + 5) (by omega) (by omega) (by omega)).1, (r7 (2 + 6) (by omega) (by omega) (by omega)).1]
  obtain ⟨k0', ⟨k1, k2, k3, k4, k5⟩, k6, k7, k8, k9, k10⟩ := b1
  refine ⟨W1, W2, came, a1, k6, a2, ?_, cutsW W2 9, srW W2 15, r1, ⟨r2, ⟨⟨r4, r3⟩, ?_, r5, r6, by rw [(f2 235 (by omega)).2]; exact k5⟩, by rw [(f2 16 (by omega)).1]; exact k6, clsH_fr k7 (fun i a b => f2 i (by omega)), clsM_fr k8 (fun i h => f2 i (by omega)), ?_, ?_⟩, by rw [cutsW_len]; exact r3.2, eg2⟩
  · intro i hi
    have q1 := r7 i (by omega) (by omega) (by omega)
    have q2 := up i (by omega)
    have q3 := e1 i (by omega)
    have q4 := h2 i (by omega)
    exact ⟨q1.1.trans (q2.1.trans (q3.1.trans q4.1)), q1.2.trans (q2.2.trans (q3.2.trans q4.2))⟩
  · show (pdW W2 2, cutsW W2 9, srW W2 15) = _
    rw [p2]
  · unfold clsR at k9 ⊢
    rw [(f2 243 (by omega)).1, (f2 0 (by omega)).2]; exact k9
  · unfold clsT at k10 ⊢
    rw [(f2 41 (by omega)).1, (f2 40 (by omega)).2]; exact k10
end Rd
