/-! the reference: nearest plants by their prices -/
def rcZ (g : PD) (U : Nat → Int) (s p : Nat) : Int := if zT g p s = -1 then 1000000000 else U p + zT g p s
def uOk (w : Wd) : Prop := ∀ p, p < 4 → 0 ≤ zA w 287 p ∧ zA w 287 p ≤ 1000000
theorem ti_far : (1000000000 : Int32).toInt = 1000000000 := rfl
theorem Mod_reachOf_w {w : Wd} {s p : Nat} (hw : WL w) (hg : wfP (mdG (w.1 279))) (hu : uOk w) (hs : s < 6) (hp' : p < 4) : ∃ x, Mod_reachOf 274 (nI s) (nI p) (hp w) = some (x, hp w) ∧ x.toInt = rcZ (mdG (w.1 279)) (zA w 287) s p := by
  have L := l287 hw
  have a : ald 0 (hp w) 287 (nI p) = some ((w.1 287).getD p 0) := ald_w (j := p) s287 rfl (by omega) (by omega)
  simp only [Mod_reachOf, k274, Option.bind_some, Mod_toll_w hw hp' hs, bnd2_some, c274_23, a, Mod_reachOf_j28]
  unfold rcZ
  by_cases hT : pToll (mdG (w.1 279)) p s = -1
  · rw [if_neg (fun h => h hT), if_pos (toll_m1.mp hT)]
    exact ⟨_, rfl, rfl⟩
  · rw [if_pos hT, if_neg (fun h => hT (toll_m1.mpr h))]
    refine ⟨_, rfl, ?_⟩
    have r1 := hu p hp'
    have r2 := zT_rng hg hp' hs
    unfold zA at r1 ⊢
    unfold zT at r2 ⊢
    exact ti_add (by omega) (by omega)
def nrB (g : PD) (U : Nat → Int) (s p : Nat) : Bool := decide (zT g p s ≠ -1 ∧ U p + zT g p s = vZ g U s)
def nrA (g : PD) (U : Nat → Int) (s : Nat) : Nat → Nat
  | 0 => 0
  | n + 1 => nrA g U s n ||| (if nrB g U s n = true then 2 ^ n else 0)
theorem nrA_bit {g : PD} {U : Nat → Int} {s p : Nat} : ∀ n, (nrA g U s n).testBit p = (decide (p < n) && nrB g U s p) := by
  intro n
  induction n with
  | zero => simp [nrA]
  | succ n ih =>
    rw [nrA, Nat.testBit_or, ih]
    by_cases hpn : p = n
    · subst hpn
      by_cases hb : nrB g U s p = true
      · rw [if_pos hb, Nat.testBit_two_pow_self, hb]; simp
      · have hb' : nrB g U s p = false := by simpa using hb
        rw [if_neg hb, hb']; simp
    · have e : (if nrB g U s n = true then 2 ^ n else 0).testBit p = false := by
        split
        · rw [Nat.testBit_two_pow]; simp; omega
        · simp
      rw [e, Bool.or_false]
      by_cases h : p < n
      · rw [decide_eq_true h, decide_eq_true (show p < n + 1 by omega)]
      · rw [decide_eq_false h, decide_eq_false (show ¬ p < n + 1 by omega)]
theorem nrA_lt (g : PD) (U : Nat → Int) (s : Nat) : nrA g U s 4 < 16 := by
  apply Nat.lt_pow_two_of_testBit (n := 4)
  intro i hi
  rw [nrA_bit, decide_eq_false (by omega)]; rfl
theorem vAcc_fin {g : PD} (hg : wfP g) {U : Nat → Int} {s n : Nat} {m : Int} (hu : ∀ p, p < 4 → 0 ≤ U p ∧ U p ≤ 1000000) (hs : s < 6) (hn : n ≤ 4) (h : vAcc g U s n = some m) : 0 ≤ m ∧ m ≤ 1000099 := by
  have := vAcc_spec (g := g) (u := U) (s := s) n
  rw [h] at this
  obtain ⟨⟨p, h1, h2, h3⟩, _⟩ := this
  have r1 := hu p (by omega)
  have r2 := zT_rng hg (show p < 4 by omega) hs
  omega
theorem lay_min {w : Wd} {s : Nat} (hw : WL w) (hg : wfP (mdG (w.1 279))) (hu : uOk w) (hs : s < 6) : ∃ W y, iter (Mod_laysNearest_b18 274 (nI s)) Lmax (0, hp (wA w 288 ((w.1 288).set s 1000000000))) = some (nI 4, hp W) ∧ WL W ∧ Fr w W 288 289 ∧ (W.1 288).getD s 0 = y ∧ y.toInt = (vAcc (mdG (w.1 279)) (zA w 287) s 4).getD 1000000000 ∧ (∀ t, t ≠ s → (W.1 288).getD t 0 = (w.1 288).getD t 0) := by
  have L := l288 hw
  obtain ⟨q, i1, W, y, rfl, h⟩ := iter_I (body := Mod_laysNearest_b18 274 (nI s)) (fun j st => ∃ W y, st = (nI j, hp W) ∧ WL W ∧ Fr w W 288 289 ∧ (W.1 288).getD s 0 = y ∧ y.toInt = (vAcc (mdG (w.1 279)) (zA w 287) s j).getD 1000000000 ∧ (∀ t, t ≠ s → (W.1 288).getD t 0 = (w.1 288).getD t 0)) (fun q => ∃ W y, q = (nI 4, hp W) ∧ WL W ∧ Fr w W 288 289 ∧ (W.1 288).getD s 0 = y ∧ y.toInt = (vAcc (mdG (w.1 279)) (zA w 287) s 4).getD 1000000000 ∧ (∀ t, t ≠ s → (W.1 288).getD t 0 = (w.1 288).getD t 0)) 4 (s0 := (0, hp (wA w 288 ((w.1 288).set s 1000000000)))) (by omega) ⟨_, 1000000000, rfl, WL.S hw, Fr.A (by omega) (by omega), by rw [wA_s, gD_set, if_pos ⟨rfl, by omega⟩], rfl, fun t ht => by rw [wA_s, gD_set, if_neg (fun h => ht h.1.symm)]⟩ (by
    rintro j st hj ⟨W, y, rfl, hW, hF, hy, hyv, ho⟩
    left
    have hcn : ¬ (4 : Int32) ≤ nI j := nI_ge (b := 4) hj (by omega)
    have LW := l288 hW
    have e279 : W.1 279 = w.1 279 := (hF 279 (by omega)).1
    have e287 : zA W 287 = zA w 287 := by funext p; exact zA_fr hF (by omega)
    obtain ⟨x, x1, x2⟩ := Mod_reachOf_w (s := s) (p := j) hW (by rw [e279]; exact hg) (fun p hp' => by rw [e287]; exact hu p hp') hs hj
    rw [e279, e287] at x2
    have a : ald 0 (hp W) 288 (nI s) = some y := by rw [ald_w (j := s) s288 rfl (by omega) (by omega), hy]
    simp only [Mod_laysNearest_b18, if_neg hcn, c274_24, k274, Option.bind_some, x1, bnd2_some, a, Mod_laysNearest_j58]
    have fin : ∀ z : Int32, z.toInt = (vAcc (mdG (w.1 279)) (zA w 287) s (j + 1)).getD 1000000000 → ∃ s', (ast 0 (hp W) 288 (nI s) z).bind (fun h10 => some (Sum.inl (nI j + 1, h10))) = some (Sum.inl s' : (Int32 × AHeap) ⊕ (Int32 × AHeap)) ∧ ∃ W y, s' = (nI (j + 1), hp W) ∧ WL W ∧ Fr w W 288 289 ∧ (W.1 288).getD s 0 = y ∧ y.toInt = (vAcc (mdG (w.1 279)) (zA w 287) s (j + 1)).getD 1000000000 ∧ (∀ t, t ≠ s → (W.1 288).getD t 0 = (w.1 288).getD t 0) := by
      intro z hz
      rw [ast_w (j := s) s288 rfl (by omega) (by omega)]
      simp only [Option.bind_some, nI_1]
      exact ⟨_, rfl, _, z, rfl, WL.S hW, Fr.cA hF (by omega) (by omega), by rw [wA_s, gD_set, if_pos ⟨rfl, by omega⟩]; rfl, hz, fun t ht => by rw [wA_s, gD_set, if_neg (fun h => ht h.1.symm)]; exact ho t ht⟩
    have ev : vAcc (mdG (w.1 279)) (zA w 287) s (j + 1) = if zT (mdG (w.1 279)) j s = -1 then vAcc (mdG (w.1 279)) (zA w 287) s j else match vAcc (mdG (w.1 279)) (zA w 287) s j with
      | none => some (zA w 287 j + zT (mdG (w.1 279)) j s)
      | some m => some (if zA w 287 j + zT (mdG (w.1 279)) j s < m then zA w 287 j + zT (mdG (w.1 279)) j s else m) := rfl
    have hj2 := hu j hj
    have hT2 := zT_rng hg hj hs
    by_cases hxy : y ≤ x
    · rw [if_pos hxy]
      refine fin y ?_
      rw [ti_le, x2, hyv] at hxy
      rw [hyv, ev]
      unfold rcZ at hxy
      by_cases hT : zT (mdG (w.1 279)) j s = -1
      · rw [if_pos hT]
      · rw [if_neg hT] at hxy ⊢
        cases hv : vAcc (mdG (w.1 279)) (zA w 287) s j with
        | none => rw [hv] at hxy; simp only [Option.getD_none] at hxy; omega
        | some m =>
          rw [hv] at hxy
          simp only [Option.getD_some] at hxy ⊢
          rw [if_neg (by omega)]
    · rw [if_neg hxy]
      refine fin x ?_
      rw [ti_le, x2, hyv] at hxy
      rw [x2, ev]
      unfold rcZ at hxy ⊢
      by_cases hT : zT (mdG (w.1 279)) j s = -1
      · rw [if_pos hT] at hxy
        exfalso
        cases hv : vAcc (mdG (w.1 279)) (zA w 287) s j with
        | none => rw [hv] at hxy; simp only [Option.getD_none] at hxy; omega
        | some m =>
          rw [hv] at hxy
          simp only [Option.getD_some] at hxy
          have := vAcc_fin hg hu hs (by omega) hv
          omega
      · rw [if_neg hT] at hxy
        rw [if_neg hT, if_neg hT]
        cases hv : vAcc (mdG (w.1 279)) (zA w 287) s j with
        | none => rfl
        | some m =>
          rw [hv] at hxy
          simp only [Option.getD_some] at hxy ⊢
          rw [if_pos (by omega)]) (by
    rintro st ⟨W, y, rfl, h⟩
    exact ⟨(nI 4, hp W), by simp only [Mod_laysNearest_b18, if_pos (show (4 : Int32) ≤ nI 4 by decide)], W, y, rfl, h⟩)
  exact ⟨W, y, i1, h⟩
/-- of one site -/
theorem lay_site {w : Wd} {s : Nat} (hw : WL w) (hg : wfP (mdG (w.1 279))) (hu : uOk w) (hs : s < 6) : ∃ W, Mod_laysNearest_b2 274 (nI s, hp w) = some (.inl (nI (s + 1), hp W)) ∧ WL W ∧ Fr w W 288 290 ∧ zA W 288 s = vZ (mdG (w.1 279)) (zA w 287) s ∧ (W.1 289).getD s 0 = nI (nrA (mdG (w.1 279)) (zA w 287) s 4) ∧ (∀ t, t ≠ s → (W.1 288).getD t 0 = (w.1 288).getD t 0 ∧ (W.1 289).getD t 0 = (w.1 289).getD t 0) := by
  have L := l288 hw
  have hcn : ¬ (6 : Int32) ≤ nI s := nI_ge (b := 6) hs (by omega)
  obtain ⟨V, y, v1, v2, v3, v4, v5, v6⟩ := lay_min hw hg hu hs
  have LV := l288 v2
  have LV9 := l289 v2
  have e279 : V.1 279 = w.1 279 := (v3 279 (by omega)).1
  have e287 : zA V 287 = zA w 287 := by funext p; exact zA_fr v3 (by omega)
  obtain ⟨q, i1, W, rfl, hW, hF, h9, ho⟩ := iter_I (body := Mod_laysNearest_b74 274 (nI s)) (fun j st => ∃ W, st = (nI j, hp W) ∧ WL W ∧ Fr V W 289 290 ∧ (W.1 289).getD s 0 = nI (nrA (mdG (w.1 279)) (zA w 287) s j) ∧ ∀ t, t ≠ s → (W.1 289).getD t 0 = (w.1 289).getD t 0) (fun q => ∃ W, q = (nI 4, hp W) ∧ WL W ∧ Fr V W 289 290 ∧ (W.1 289).getD s 0 = nI (nrA (mdG (w.1 279)) (zA w 287) s 4) ∧ ∀ t, t ≠ s → (W.1 289).getD t 0 = (w.1 289).getD t 0) 4 (s0 := (0, hp (wA V 289 ((V.1 289).set s 0)))) (by omega) ⟨_, rfl, WL.S v2, Fr.A (by omega) (by omega), by rw [wA_s, gD_set, if_pos ⟨rfl, by omega⟩]; rfl, fun t ht => by rw [wA_s, gD_set, if_neg (fun h => ht h.1.symm), (v3 289 (by omega)).1]⟩ (by
    rintro j st hj ⟨W, rfl, hW, hF, h9, ho⟩
    left
    have hcn : ¬ (4 : Int32) ≤ nI j := nI_ge (b := 4) hj (by omega)
    have LW := l288 hW
    have LW9 := l289 hW
    have f279 : W.1 279 = w.1 279 := by rw [(hF 279 (by omega)).1, e279]
    have f287 : zA W 287 = zA w 287 := by rw [← e287]; funext p; exact zA_fr hF (by omega)
    obtain ⟨x, x1, x2⟩ := Mod_reachOf_w (s := s) (p := j) hW (by rw [f279]; exact hg) (fun p hp' => by rw [f287]; exact hu p hp') hs hj
    rw [f279, f287] at x2
    have a8 : ald 0 (hp W) 288 (nI s) = some y := by rw [ald_w (j := s) s288 rfl (by omega) (by omega), (hF 288 (by omega)).1, v4]
    have a9 : ald 0 (hp W) 289 (nI s) = some (nI (nrA (mdG (w.1 279)) (zA w 287) s j)) := by rw [ald_w (j := s) s289 rfl (by omega) (by omega), h9]
    simp only [Mod_laysNearest_b74, if_neg hcn, c274_25, c274_24, k274, Option.bind_some, x1, bnd2_some, a8, a9, Mod_laysNearest_j118, Mod_laysNearest_j119, bit_nI hj]
    have fin : ∀ b : Nat, b = (if nrB (mdG (w.1 279)) (zA w 287) s j = true then 2 ^ j else 0) → ∃ s', (ast 0 (hp W) 289 (nI s) (nI (nrA (mdG (w.1 279)) (zA w 287) s j) ||| nI b)).bind (fun h19 => some (Sum.inl (nI j + 1, h19))) = some (Sum.inl s' : (Int32 × AHeap) ⊕ (Int32 × AHeap)) ∧ ∃ W, s' = (nI (j + 1), hp W) ∧ WL W ∧ Fr V W 289 290 ∧ (W.1 289).getD s 0 = nI (nrA (mdG (w.1 279)) (zA w 287) s (j + 1)) ∧ ∀ t, t ≠ s → (W.1 289).getD t 0 = (w.1 289).getD t 0 := by
      intro b hb
      rw [ast_w (j := s) s289 rfl (by omega) (by omega)]
      simp only [Option.bind_some, nI_1]
      refine ⟨_, rfl, _, rfl, WL.S hW, Fr.cA hF (by omega) (by omega), ?_, fun t ht => by rw [wA_s, gD_set, if_neg (fun h => ht h.1.symm)]; exact ho t ht⟩
      rw [wA_s, gD_set, if_pos ⟨rfl, by omega⟩, nI_or, nrA, hb]
      rfl
    have hj2 := hu j hj
    have hT2 := zT_rng hg hj hs
    by_cases hy : 1000000000 ≤ y
    · rw [if_pos hy]
      refine fin 0 ?_
      rw [ti_le, v5, ti_far] at hy
      cases hv : vAcc (mdG (w.1 279)) (zA w 287) s 4 with
      | none =>
        have h := vAcc_spec (g := mdG (w.1 279)) (u := zA w 287) (s := s) 4
        rw [hv] at h
        rw [if_neg]
        unfold nrB
        rw [decide_eq_true_iff]
        exact fun h' => h'.1 (h j hj)
      | some m =>
        rw [hv] at hy
        have := vAcc_fin hg hu hs (by omega) hv
        simp only [Option.getD_some] at hy
        omega
    · rw [if_neg hy]
      rw [ti_le, v5, ti_far] at hy
      cases hv : vAcc (mdG (w.1 279)) (zA w 287) s 4 with
      | none => rw [hv] at hy; simp only [Option.getD_none] at hy; omega
      | some m =>
        have hm := vAcc_fin hg hu hs (by omega) hv
        have ez : vZ (mdG (w.1 279)) (zA w 287) s = m := by unfold vZ; rw [hv]; rfl
        rw [hv] at v5
        simp only [Option.getD_some] at v5
        by_cases hxy : x = y
        · rw [if_neg (fun h => h hxy)]
          refine fin (2 ^ j) ?_
          rw [if_pos]
          unfold nrB
          rw [decide_eq_true_iff, ez]
          rw [ti_eq, x2, v5] at hxy
          unfold rcZ at hxy
          by_cases hT : zT (mdG (w.1 279)) j s = -1
          · rw [if_pos hT] at hxy; omega
          · rw [if_neg hT] at hxy; exact ⟨hT, hxy⟩
        · rw [if_pos hxy]
          refine fin 0 ?_
          rw [if_neg]
          unfold nrB
          rw [decide_eq_true_iff, ez]
          rintro ⟨hT, he⟩
          apply hxy
          rw [ti_eq, x2, v5]
          unfold rcZ
          rw [if_neg hT]
          exact he) (by
    rintro st ⟨W, rfl, h⟩
    exact ⟨(nI 4, hp W), by simp only [Mod_laysNearest_b74, if_pos (show (4 : Int32) ≤ nI 4 by decide)], W, rfl, h⟩)
  have LW := l288 hW
  have a8 : ald 0 (hp W) 288 (nI s) = some y := by rw [ald_w (j := s) s288 rfl (by omega) (by omega), (hF 288 (by omega)).1, v4]
  have fin : ∀ z : Int32, z.toInt = vZ (mdG (w.1 279)) (zA w 287) s → ∃ W', (ast 0 (hp W) 288 (nI s) z).bind (fun h27 => some (Sum.inl (nI s + 1, h27))) = some (Sum.inl (nI (s + 1), hp W') : (Int32 × AHeap) ⊕ (Int32 × AHeap)) ∧ WL W' ∧ Fr w W' 288 290 ∧ zA W' 288 s = vZ (mdG (w.1 279)) (zA w 287) s ∧ (W'.1 289).getD s 0 = nI (nrA (mdG (w.1 279)) (zA w 287) s 4) ∧ (∀ t, t ≠ s → (W'.1 288).getD t 0 = (w.1 288).getD t 0 ∧ (W'.1 289).getD t 0 = (w.1 289).getD t 0) := by
    intro z hz
    rw [ast_w (j := s) s288 rfl (by omega) (by omega)]
    simp only [Option.bind_some, nI_1]
    refine ⟨_, rfl, WL.S hW, Fr.cA ((v3.mono (by omega) (by omega)).tr (hF.mono (by omega) (by omega))) (by omega) (by omega), ?_, by rw [wA_n (by omega)]; exact h9, fun t ht => ⟨?_, by rw [wA_n (by omega)]; exact ho t ht⟩⟩
    · unfold zA
      rw [wA_s, gD_set, if_pos ⟨rfl, by omega⟩]
      exact hz
    · rw [wA_s, gD_set, if_neg (fun h => ht h.1.symm), (hF 288 (by omega)).1]; exact v6 t ht
  have main : Mod_laysNearest_b2 274 (nI s, hp w) = Mod_laysNearest_j127 274 (nI s) (nI 4) (hp W) := by
    simp only [Mod_laysNearest_b2, if_neg hcn, c274_24, Option.bind_some]
    rw [ast_w (j := s) s288 rfl (by omega) (by omega)]
    have v1' : iter (Mod_laysNearest_b18 274 (nI s)) Lmax (0, hp (wA w 288 ((w.1 288).set s (nar 0 1000000000)))) = some (nI 4, hp V) := v1
    simp only [Option.bind_some, v1', Mod_laysNearest_j65, c274_25]
    rw [ast_w (j := s) s289 rfl (by omega) (by omega)]
    have i1' : iter (Mod_laysNearest_b74 274 (nI s)) Lmax (0, hp (wA V 289 ((V.1 289).set s (nar 0 0)))) = some (nI 4, hp W) := i1
    simp only [Option.bind_some, i1']
  rw [main]
  simp only [Mod_laysNearest_j127, c274_24, Option.bind_some, a8, Mod_laysNearest_j153]
  by_cases hy : 1000000000 ≤ y
  · rw [if_pos hy]
    refine fin 0 ?_
    rw [ti_le, v5, ti_far] at hy
    rw [ti_0]
    unfold vZ
    cases hv : vAcc (mdG (w.1 279)) (zA w 287) s 4 with
    | none => rfl
    | some m =>
      rw [hv] at hy
      have := vAcc_fin hg hu hs (by omega) hv
      simp only [Option.getD_some] at hy
      omega
  · rw [if_neg hy]
    refine fin y ?_
    rw [ti_le, v5, ti_far] at hy
    rw [v5]
    unfold vZ
    cases hv : vAcc (mdG (w.1 279)) (zA w 287) s 4 with
    | none => rw [hv] at hy; simp only [Option.getD_none] at hy; omega
    | some m => rfl
theorem Mod_laysNearest_w {w : Wd} (hw : WL w) (hg : wfP (mdG (w.1 279))) (hu : uOk w) : ∃ W, Mod_laysNearest 274 (hp w) = some ((), hp W) ∧ WL W ∧ Fr w W 288 290 ∧ (∀ s, s < 6 → zA W 288 s = vZ (mdG (w.1 279)) (zA w 287) s ∧ (W.1 289).getD s 0 = nI (nrA (mdG (w.1 279)) (zA w 287) s 4)) := by
  obtain ⟨q, i1, W, rfl, hW⟩ := iter_I (body := Mod_laysNearest_b2 274) (fun j st => ∃ W, st = (nI j, hp W) ∧ WL W ∧ Fr w W 288 290 ∧ (∀ s, s < j → zA W 288 s = vZ (mdG (w.1 279)) (zA w 287) s ∧ (W.1 289).getD s 0 = nI (nrA (mdG (w.1 279)) (zA w 287) s 4))) (fun q => ∃ W, q = (nI 6, hp W) ∧ WL W ∧ Fr w W 288 290 ∧ (∀ s, s < 6 → zA W 288 s = vZ (mdG (w.1 279)) (zA w 287) s ∧ (W.1 289).getD s 0 = nI (nrA (mdG (w.1 279)) (zA w 287) s 4))) 6 (s0 := (0, hp w)) (by omega) ⟨w, rfl, hw, Fr.rfl', fun _ h => absurd h (by omega)⟩ (by
    rintro j st hj ⟨W, rfl, hW, hF, hv⟩
    left
    have f279 : W.1 279 = w.1 279 := (hF 279 (by omega)).1
    have f287 : zA W 287 = zA w 287 := by funext p; exact zA_fr hF (by omega)
    obtain ⟨V, v1, v2, v3, v4, v5, v6⟩ := lay_site (s := j) hW (by rw [f279]; exact hg) (fun p hp' => by rw [f287]; exact hu p hp') hj
    rw [f279, f287] at v4 v5
    refine ⟨_, v1, V, rfl, v2, hF.tr v3, fun s hs => ?_⟩
    by_cases hsj : s = j
    · subst hsj; exact ⟨v4, v5⟩
    · have := v6 s hsj
      have h2 := hv s (by omega)
      unfold zA at h2 ⊢
      rw [this.1, this.2]
      exact h2) (by
    rintro st ⟨W, rfl, h⟩
    exact ⟨(nI 6, hp W), by simp only [Mod_laysNearest_b2, if_pos (show (6 : Int32) ≤ nI 6 by decide)], W, rfl, h⟩)
  exact ⟨W, by simp only [Mod_laysNearest, i1, Option.bind_some, Mod_laysNearest_j160], hW⟩
