/-! rounds keep what stands; rounds in a row -/
def srOk (g : PD) (sr : List Int32) : Prop := (sr.getD 1 0 = -1 ∨ (0 ≤ (sr.getD 1 0).toInt ∧ (sr.getD 1 0).toInt ≤ 1722708 ∧ ∀ n, n < 256 → isPlanP g (nI n) = true → totalP g (nI n) ≠ -1 → (sr.getD 1 0).toInt ≤ (totalP g (nI n)).toInt)) ∧ (sr.getD 2 0 = -1 ∨ (sr.getD 1 0 ≠ -1 ∧ ∃ n, n < 256 ∧ isPlanP g (nI n) = true ∧ totalP g (nI n) ≠ -1 ∧ sr.getD 2 0 = totalP g (nI n)))
theorem sr0_ok (g : PD) : srOk g sr0 := ⟨Or.inl rfl, Or.inl rfl⟩
theorem srOk.up {g : PD} (hg : wfP g) {sr : List Int32} (h : srOk g sr) : (sr.getD 2 0).toInt < 16777216 ∧ (sr.getD 1 0 = -1 ∨ 0 ≤ (sr.getD 1 0).toInt) := by
  refine ⟨?_, ?_⟩
  · rcases h.2 with h | ⟨_, n, hn, _, hne, h⟩
    · rw [h, ti_m1]; omega
    · rw [h]
      rcases total_cases hg hn with ⟨h, _⟩ | ⟨_, _, h⟩
      · exact absurd h hne
      · omega
  · rcases h.1 with h | h
    · exact Or.inl h
    · exact Or.inr h.1
theorem age_rng {g : PD} {cs : List (List Int32)} {plan : Int32} {c : List Int32} (h : 0 ≤ (cK c 2).toInt ∧ (cK c 2).toInt ≤ 99) : 0 ≤ (ageP g cs plan c).toInt ∧ (ageP g cs plan c).toInt ≤ 99 := by
  have e1 : (1 : Int32).toInt = 1 := rfl
  have e99 : (99 : Int32).toInt = 99 := rfl
  have e : (cK c 2 + 1).toInt = (cK c 2).toInt + 1 := by rw [ti_add (by omega) (by omega), e1]
  unfold ageP
  split
  · rw [ti_0]; omega
  · split
    · rw [e99]; omega
    · rename_i h1
      rw [ti_lt, e, e99] at h1
      rw [e]; omega
theorem setAge_V {g : PD} (hg : wfP g) {x : Int32} {c : List Int32} (h : cutV g c) (hx : 0 ≤ x.toInt ∧ x.toInt ≤ 99) : cutV g (setAge x c) := by
  have e : ∀ k, k < 13 → k ≠ 2 → cK (setAge x c) k = cK c k := fun k h1 h2 => by rw [setAge_k h1, if_neg h2]
  obtain ⟨⟨n, h1, h0⟩, h2, h3, h4, h5, h6⟩ := id h
  refine ⟨⟨n, h1, by rw [e 0 (by omega) (by omega)]; exact h0⟩, by rw [e 1 (by omega) (by omega)]; exact h2, by rw [setAge_k (by omega), if_pos rfl]; exact hx, fun p hp' => by rw [e (3 + p) (by omega) (by omega)]; exact h4 p hp', fun s hs => by rw [e (7 + s) (by omega) (by omega)]; exact h5 s hs, ?_⟩
  refine holds_of hg (fun p hp' => by rw [e (3 + p) (by omega) (by omega)]; exact h4 p hp') (fun p s hp' hs hT => ?_)
  rw [e (7 + s) (by omega) (by omega), e (3 + p) (by omega) (by omega), e 1 (by omega) (by omega)]
  exact holds_Z hg h hp' hs hT
theorem aged_ok {g : PD} (hg : wfP g) {cs : List (List Int32)} (hc : csOk g cs) (plan : Int32) : csOk g (agedP g cs plan) := by
  intro c hcm
  unfold agedP at hcm
  obtain ⟨d, hd, rfl⟩ := List.mem_map.mp hcm
  exact setAge_V hg (hc d hd) (age_rng (hc d hd).2.2.1)
theorem left_ok {g : PD} {cs : List (List Int32)} (hc : csOk g cs) (ris : Bool) (keep : Int32) : csOk g (leftP ris keep cs) := by
  unfold leftP
  split
  · exact hc
  · intro c h
    unfold dropP at h
    exact hc c (List.mem_filter.mp h).1
theorem news_ok {g : PD} (hg : wfP g) {cs : List (List Int32)} {plan way : Int32} : csOk g (newsP g cs plan way) := by
  intro c h
  unfold newsP at h
  obtain ⟨d, hd, rfl⟩ := List.mem_map.mp h
  exact rate_ok hg (List.mem_range.mp (List.mem_filter.mp hd).1) plan
theorem sr_move {g : PD} (hg : wfP g) {cs : List (List Int32)} (hc : csOk g cs) {sr : List Int32} (hs : srOk g sr) {n : Nat} (hn : n < 256) (hpl : isPlanP g (nI n) = true) (hfl : floorP g cs (nI n) ≠ -1) (hmin : ∀ i, i < 256 → flrT g cs i ≠ -1 → floorP g cs (nI n) ≤ flrT g cs i) (o b m r e : Int32) : srOk g [o, lowP (sr.getD 1 0) (floorP g cs (nI n)), uppP (sr.getD 2 0) (totalP g (nI n)), b, m, r, e] := by
  have hf : 0 ≤ (floorP g cs (nI n)).toInt ∧ (floorP g cs (nI n)).toInt ≤ 1722708 := by
    rcases floor_cases hg hc (nI n) with h | h
    · exact absurd h hfl
    · exact h
  have hlow : 0 ≤ (lowP (sr.getD 1 0) (floorP g cs (nI n))).toInt ∧ (lowP (sr.getD 1 0) (floorP g cs (nI n))).toInt ≤ 1722708 ∧ ∀ k, k < 256 → isPlanP g (nI k) = true → totalP g (nI k) ≠ -1 → (lowP (sr.getD 1 0) (floorP g cs (nI n))).toInt ≤ (totalP g (nI k)).toInt := by
    unfold lowP
    by_cases hr : risP (sr.getD 1 0) (floorP g cs (nI n)) = true
    · rw [if_pos hr]
      refine ⟨hf.1, hf.2, fun k hk hkp hkt => ?_⟩
      have h1 := floor_le hg hc hk hkt
      have e1 : flrT g cs k = floorP g cs (nI k) := by unfold flrT; rw [if_pos hkp]
      have h2 := hmin k hk (by rw [e1]; exact h1.1)
      rw [e1, ti_le] at h2
      omega
    · rw [if_neg hr]
      rcases hs.1 with h | h
      · exact absurd (by unfold risP; rw [h]; rfl) hr
      · exact h
  have hne : lowP (sr.getD 1 0) (floorP g cs (nI n)) ≠ -1 := by
    intro h
    rw [h, ti_m1] at hlow
    omega
  refine ⟨Or.inr hlow, ?_⟩
  show uppP (sr.getD 2 0) (totalP g (nI n)) = -1 ∨ (lowP (sr.getD 1 0) (floorP g cs (nI n)) ≠ -1 ∧ ∃ k, k < 256 ∧ isPlanP g (nI k) = true ∧ totalP g (nI k) ≠ -1 ∧ uppP (sr.getD 2 0) (totalP g (nI n)) = totalP g (nI k))
  unfold uppP
  by_cases hb : betP (sr.getD 2 0) (totalP g (nI n)) = true
  · rw [if_pos hb]
    refine Or.inr ⟨hne, n, hn, hpl, ?_, rfl⟩
    intro h
    unfold betP at hb
    rw [h] at hb
    exact absurd hb (by simp)
  · rw [if_neg hb]
    rcases hs.2 with h | ⟨_, h⟩
    · exact Or.inl h
    · exact Or.inr ⟨hne, h⟩
theorem rnd_ok {g : PD} (hg : wfP g) {cs cs' : List (List Int32)} {sr sr' tm : List Int32} {came : Int32} (hc : csOk g cs) (hs : srOk g sr) (h : rndP g cs sr tm = some (came, cs', sr')) : csOk g cs' ∧ srOk g sr' := by
  unfold rndP at h
  rcases loP_spec (g := g) (cs := cs) 256 (Nat.le_refl _) with ⟨hlo, _⟩ | ⟨n, hn, hlo, hpl, hfl, _, hmin⟩
  · rw [if_pos hlo] at h
    simp only [Option.some.injEq, Prod.mk.injEq] at h
    obtain ⟨_, rfl, rfl⟩ := h
    exact ⟨hc, hs⟩
  · rw [hlo, if_neg (nI_m1 (by omega))] at h
    unfold rndM at h
    by_cases hj : judP (lowP (sr.getD 1 0) (floorP g cs (nI n))) (uppP (sr.getD 2 0) (totalP g (nI n))) (tm.getD 2 0) = 0
    · rw [if_pos hj] at h
      split at h
      · exact absurd h (by simp)
      · simp only [Option.some.injEq, Prod.mk.injEq] at h
        obtain ⟨_, rfl, rfl⟩ := h
        refine ⟨fun c hcm => ?_, sr_move hg hc hs hn hpl hfl hmin _ _ _ _ _⟩
        rcases List.mem_append.mp hcm with h1 | h1
        · exact left_ok (aged_ok hg hc (nI n)) _ _ c h1
        · exact news_ok hg c h1
    · rw [if_neg hj] at h
      simp only [Option.some.injEq, Prod.mk.injEq] at h
      obtain ⟨_, rfl, rfl⟩ := h
      exact ⟨aged_ok hg hc (nI n), sr_move hg hc hs hn hpl hfl hmin _ _ _ _ _⟩
/-- rounds till it is over, one is refused, or so many are done -/
noncomputable def runP (g : PD) (tm : List Int32) : Nat → List (List Int32) → List Int32 → Nat × List (List Int32) × List Int32
  | 0, cs, sr => (0, cs, sr)
  | k + 1, cs, sr => if sr.getD 0 0 = 0 then (match rndP g cs sr tm with
    | none => (0, cs, sr)
    | some r => ((runP g tm k r.2.1 r.2.2).1 + 1, (runP g tm k r.2.1 r.2.2).2)) else (0, cs, sr)
/-- what rounds need of the class's world -/
def egOk (w : Wd) (a m sa ta : Nat) : Prop := WL w ∧ wfP (pdW w 2) ∧ bkOk w (pdW w 2) ∧ cSz w a m ∧ w.2 a 0 = nI m ∧ csOk (pdW w 2) (cutsW w a) ∧ srOk (pdW w 2) (srW w sa) ∧ (w.2 33 0 = 1 ∨ (w.2 33 0 = 0 ∧ bdA w (pdW w 2) (cutsW w a))) ∧ tmOk (w.1 ta) ∧ ((w.1 ta).getD 3 0).toInt ≤ m ∧ (w.1 ta).length = 4
def plOk (a m sa ta : Nat) : Prop := isCt a m ∧ 9 ≤ a ∧ (a + 6 ≤ 17 ∨ 40 ≤ a) ∧ isSr sa ∧ 9 ≤ sa ∧ (sa < 17 ∨ 40 ≤ sa) ∧ (sa < a ∨ a + 6 ≤ sa) ∧ shp[ta]? = some (.inr (.inl 0)) ∧ 9 ≤ ta ∧ (ta < 17 ∨ 40 ≤ ta) ∧ (ta < a ∨ a + 6 ≤ ta) ∧ ta ≠ sa
theorem plOk_1 : plOk 9 40 15 16 := ⟨isCt_9, by omega, by omega, isSt_1.2.2.2, by omega, by omega, by omega, s16, by omega, by omega, by omega, by omega⟩
theorem plOk_2 : plOk 235 99 241 242 := ⟨isCt_235, by omega, by omega, by unfold isSr; decide +kernel, by omega, by omega, by omega, by decide +kernel, by omega, by omega, by omega, by omega⟩
theorem ct_mem {w : Wd} {a i : Nat} (hi : i < cN w a) : ctW w a i ∈ cutsW w a := List.mem_map.mpr ⟨i, List.mem_range.mpr hi, rfl⟩
/-- decide, then do it -/
theorem Eng_one {w : Wd} {a m sa ta : Nat} (hpl : plOk a m sa ta) (h : egOk w a m sa ta) : ∃ W ok, Eng_decide 17 2 a sa ta (hp w) = some (b2i ok, hp W) ∧ WL W ∧ Fr w W 17 40 ∧ bkOk W (pdW w 2) ∧ (W.2 33 0 = 0 ∧ bdA W (pdW w 2) (cutsW w a)) ∧ ((ok = false ∧ rndP (pdW w 2) (cutsW w a) (srW w sa) (w.1 ta) = none) ∨ (ok = true ∧ decR w W a sa ta true)) := by
  obtain ⟨p1, p2, p3, p4, p5, p6, p7, p8, p9, p10, p11, p12⟩ := hpl
  obtain ⟨h1, h2, h3, h4, h5, h6, h7, h8, h9, h10, h11⟩ := h
  have hup := h7.up h2
  rw [sr_get (by omega), sr_get (by omega)] at hup
  obtain ⟨W, ok, d1, d2⟩ := Eng_decide_w p1 p3 p4 p6 p8 h11 p10 h1 h2 h3 h4 (fun i hi => (h6 _ (ct_mem hi)).1) h8 (rgOk_of h2 h6) h9 hup.2 hup.1
  refine ⟨W, ok, d1, d2.1, d2.2.1, d2.2.2.1, ⟨d2.2.2.2.1, d2.2.2.2.2.1⟩, ?_⟩
  cases ok
  · exact Or.inl ⟨rfl, dec_none d2⟩
  · exact Or.inr ⟨rfl, d2⟩
theorem Eng_do {w W : Wd} {a m sa ta : Nat} (hpl : plOk a m sa ta) (h : egOk w a m sa ta) (hd : decR w W a sa ta true) : ∃ w' came, Eng_apply 17 2 a sa ((w.1 ta).getD 1 0) (hp W) = some (came, hp w') ∧ rndW w w' a m sa ta came := by
  obtain ⟨p1, p2, p3, p4, p5, p6, p7, p8, p9, p10, p11, p12⟩ := hpl
  obtain ⟨h1, h2, h3, h4, h5, h6, h7, h8, h9, h10, h11⟩ := h
  exact Eng_apply_w p1 p2 p3 p4 p5 p6 p7 h2 h4 h5 h10 hd
theorem rndW.pd {w w' : Wd} {a m sa ta : Nat} {came : Int32} (hpl : plOk a m sa ta) (h : rndW w w' a m sa ta came) : pdW w' 2 = pdW w 2 := by
  obtain ⟨p1, p2, p3, p4, p5, p6, p7, p8, p9, p10, p11, p12⟩ := hpl
  have hF := h.2.2.2.2.2.2
  unfold pdW
  rw [(hF 2 (by omega) (by omega) (by omega)).2, (hF (2 + 1) (by omega) (by omega) (by omega)).1, (hF (2 + 2) (by omega) (by omega) (by omega)).1, (hF (2 + 3) (by omega) (by omega) (by omega)).1, (hF (2 + 4) (by omega) (by omega) (by omega)).1, (hF (2 + 5) (by omega) (by omega) (by omega)).1, (hF (2 + 6) (by omega) (by omega) (by omega)).1]
theorem rndW.eg {w w' : Wd} {a m sa ta : Nat} {came : Int32} (hpl : plOk a m sa ta) (he : egOk w a m sa ta) (h : rndW w w' a m sa ta came) : egOk w' a m sa ta := by
  have epd := h.pd hpl
  obtain ⟨p1, p2, p3, p4, p5, p6, p7, p8, p9, p10, p11, p12⟩ := hpl
  obtain ⟨h1, h2, h3, h4, h5, h6, h7, h8, h9, h10, h11⟩ := he
  obtain ⟨r1, r2, r3, r4, r5, r6, r7⟩ := h
  have hok := rnd_ok h2 h6 h7 r1
  have et : w'.1 ta = w.1 ta := (r7 ta p10 p11 p12).1
  exact ⟨r2, by rw [epd]; exact h2, by rw [epd]; exact r5, r3, r4, by rw [epd]; exact hok.1, by rw [epd]; exact hok.2, by rw [epd]; exact r6, by rw [et]; exact h9, by rw [et]; exact h10, by rw [et]; exact h11⟩
