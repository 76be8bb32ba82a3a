/-! numbers in the reference -/
def frL (w w' : Wd) : Prop := (∀ i, i ≠ 279 → w'.1 i = w.1 i) ∧ (∀ k, k ≠ 10 → k ≠ 18 → k ≠ 19 → k ≠ 20 → w'.2 274 k = w.2 274 k) ∧ ∀ i, i ≠ 274 → i ≠ 279 → w'.2 i = w.2 i
theorem frL.rfl' {w : Wd} : frL w w := ⟨fun _ _ => rfl, fun _ _ _ _ _ => rfl, fun _ _ _ => rfl⟩
theorem frL.tr {w w' w'' : Wd} (h : frL w w') (h' : frL w' w'') : frL w w'' := ⟨fun i hi => (h'.1 i hi).trans (h.1 i hi), fun k a b c d => (h'.2.1 k a b c d).trans (h.2.1 k a b c d), fun i hi hj => (h'.2.2 i hi hj).trans (h.2.2 i hi hj)⟩
theorem frU.L {w w' : Wd} (h : frU w w') : frL w w' := ⟨fun i _ => by rw [h.1], fun k _ b c _ => h.2.1 k b c, fun i hi _ => h.2.2 i hi⟩
theorem frL.tpR {w w' : Wd} {tp : List Int32} (h : frL w w') (hT : tpR w tp) : tpR w' tp := by
  obtain ⟨h1, h2, h3⟩ := hT
  exact ⟨by rw [h.2.1 17 (by omega) (by omega) (by omega) (by omega)]; exact h1, h2, by rw [h.1 282 (by omega)]; exact h3⟩
theorem wrong_w {w : Wd} {x : Int32} (hw : WL w) (h20 : w.2 274 20 = 0) (h18 : w.2 274 18 = x) : ∃ w', Mod_wrong 274 (hp w) = some ((), hp w') ∧ WL w' ∧ w'.2 274 20 = 1 ∧ w'.2 274 10 = x ∧ w'.1 = w.1 ∧ (∀ k, k ≠ 10 → k ≠ 20 → w'.2 274 k = w.2 274 k) ∧ frL w w' := by
  obtain ⟨w1, a1, b1, c1, d1, d1', e1⟩ := pf_eq (x := x) hw p274_10
  obtain ⟨w2, a2, b2, c2, d2, d2', e2⟩ := pf_eq (x := 1) b1 p274_20
  have hk : ∀ k, k ≠ 10 → k ≠ 20 → w2.2 274 k = w.2 274 k := fun k k1 k2 => by rw [d2' k k2, d1' k k1]
  refine ⟨w2, ?_, b2, d2, by rw [d2' 10 (by omega), d1], by rw [c2, c1], hk, fun i _ => by rw [c2, c1], fun k k1 _ _ k2 => hk k k1 k2, fun i hi _ => by rw [(e2 i (by omega)).2, (e1 i (by omega)).2]⟩
  unfold Mod_wrong
  rw [c274_20, Option.bind_some, h20, if_neg (fun hh => hh rfl), c274_18, Option.bind_some, h18, a1, Option.bind_some]
  unfold Mod_wrong_j15
  rw [bz1, Option.bind_some, a2, Option.bind_some]
theorem isNum_w {w : Wd} {tp : List Int32} {s : Nat} (hw : WL w) (hT : tpR w tp) (hs : tkR w tp s) : Mod_isNumber 274 (hp w) = some (b2i (decide (kdA tp s = 2)), hp w) := by
  have hn := hT.2.1.1
  have hsl := hs.1
  unfold Mod_isNumber
  rw [c274_18, Option.bind_some, c274_17, Option.bind_some, hs.2.1, hT.1]
  unfold kdA
  by_cases h1 : s < tp.length
  · rw [if_neg (nI_ge h1 (by omega)), if_pos h1, c274_8, Option.bind_some, Option.bind_some, ld282 hw hT h1, Option.bind_some, isDigit_w, bnd2_some]
    unfold knB
    by_cases hk : kdB (tp.getD s 0) = 2
    · rw [bd_t hk, if_neg (by decide)]; rfl
    · rw [bd_f hk, if_pos rfl]; rfl
  · rw [if_pos (nI_le (by omega) (by omega)), if_neg h1]
    rfl
theorem num_loop {w : Wd} {tp : List Int32} {s : Nat} {lo hi : Int32} (hw : WL w) (hT : tpR w tp) (hs : tkR w tp s) (hk : kdA tp s = 2) : ∃ r, iter (Mod_number_b24 274 lo hi (hp w)) Lmax (0, nI s) = some (nI r) ∧ r ≤ 1000009 ∧ (r = valT tp s ∨ (100000 < r ∧ 100000 < valT tp s)) := by
  have hn := hT.2.1.1
  have hE := tkE_rng hs.1
  obtain ⟨hs1, hdig⟩ := tk_dig hk
  obtain ⟨q, i1, r, rfl, h1, h2⟩ := iter_I (body := Mod_number_b24 274 lo hi (hp w)) (fun j t => ∃ r, t = (nI r, nI (s + j)) ∧ r ≤ 1000009 ∧ (r = numV tp s j ∨ (100000 < r ∧ 100000 < numV tp s j))) (fun q => ∃ r, q = nI r ∧ r ≤ 1000009 ∧ (r = valT tp s ∨ (100000 < r ∧ 100000 < valT tp s))) (tkE tp s - s) (s0 := (0, nI s)) (by omega) ⟨0, rfl, by omega, .inl rfl⟩ (by
    rintro j t hj ⟨r, rfl, hr, hrel⟩
    left
    have hc : ¬ nI (tkE tp s) ≤ nI (s + j) := nI_ge (by omega) (by omega)
    have l1 := ld282 hw hT (k := s + j) (by omega)
    have hd := hdig (s + j) (by omega) (by omega)
    obtain ⟨e1, e2, e3⟩ := dig_c (btR_self hd) hd
    obtain ⟨dg, hdg⟩ : ∃ dg, dg = ((tp.getD (s + j) 0).toInt - 48).toNat := ⟨_, rfl⟩
    rw [e2] at l1
    rw [← hdg] at l1 e3
    have hv : numV tp s (j + 1) = 10 * numV tp s j + dg := by rw [hdg]; rfl
    have pre : Mod_number_b24 274 lo hi (hp w) (nI r, nI (s + j)) = (if nI r ≤ 100000 then some (Sum.inl (((10 * nI r) + nI (48 + dg)) - 48, nI (s + j) + 1)) else some (Sum.inl (nI r, nI (s + j) + 1))) := by
      unfold Mod_number_b24 Mod_number_j58
      dsimp only
      rw [c274_19, Option.bind_some, hs.2.2, if_neg hc, c274_8, Option.bind_some, l1, Option.bind_some]
    by_cases hle : r ≤ 100000
    · have hrv : r = numV tp s j := by omega
      have ev : (10 * nI r) + nI (48 + dg) - 48 = nI (10 * r + dg) := by
        rw [show (10 : Int32) = nI 10 from rfl, nI_mul, nI_add, show (48 : Int32) = nI 48 from rfl, nI_sb (by omega) (by omega)]
        exact nIc (by omega)
      refine ⟨(nI (10 * r + dg), nI (s + (j + 1))), ?_, 10 * r + dg, rfl, by omega, .inl (by rw [hv, hrv])⟩
      rw [pre, if_pos (show nI r ≤ 100000 from nI_le (b := 100000) hle (by omega)), ev, nI_1]
      rfl
    · refine ⟨(nI r, nI (s + (j + 1))), ?_, r, rfl, hr, .inr ⟨by omega, by rw [hv]; omega⟩⟩
      rw [pre, if_neg (show ¬ nI r ≤ 100000 from nI_ge (a := 100000) (by omega) (by omega)), nI_1]
      rfl) (by
    rintro t ⟨r, rfl, hr, hrel⟩
    have ee : s + (tkE tp s - s) = tkE tp s := by omega
    refine ⟨nI r, ?_, r, rfl, hr, hrel⟩
    unfold Mod_number_b24
    dsimp only
    rw [c274_19, Option.bind_some, hs.2.2, ee, if_pos (nI_le (Nat.le_refl _) (by omega))])
  exact ⟨r, i1, h1, h2⟩
theorem num_pre {w : Wd} {tp : List Int32} {s : Nat} {lo hi : Int32} (hw : WL w) (hT : tpR w tp) (hs : tkR w tp s) (h20 : w.2 274 20 = 0) (hl : 0 ≤ lo.toInt) (hh : hi.toInt ≤ 999) : ∃ v, Mod_number 274 lo hi (hp w) = (match nmP tp s lo.toInt hi.toInt with | some v => bnd2 (Mod_reads 274 (hp w)) (fun _ h9 => some (nI v, h9)) | none => Mod_number_j81 274 lo hi v (hp w)) := by
  have hi' := isNum_w hw hT hs
  by_cases hk : kdA tp s = 2
  · rw [bd_t hk] at hi'
    obtain ⟨r, i1, h1, h2⟩ := num_loop (lo := lo) (hi := hi) hw hT hs hk
    refine ⟨nI r, ?_⟩
    have hin : isInP (nI r) lo hi = true ↔ lo.toInt ≤ (r : Int) ∧ (r : Int) ≤ hi.toInt := by rw [isIn_iff, nI_toInt (by omega)]
    unfold Mod_number
    rw [c274_20, Option.bind_some, h20, if_pos rfl, k274, Option.bind_some, hi', bnd2_some, if_neg (by decide), c274_18, Option.bind_some, hs.2.1, i1, Option.bind_some]
    unfold Mod_number_j65
    rw [k274, Option.bind_some, hi', bnd2_some, if_neg (by decide), Mod_isIn_w, bnd2_some]
    by_cases hc : lo.toInt ≤ (r : Int) ∧ (r : Int) ≤ hi.toInt
    · have hrv : r = valT tp s := by omega
      have e : nmP tp s lo.toInt hi.toInt = some r := by unfold nmP; rw [← hrv, if_pos ⟨hk, hc.1, hc.2⟩]
      rw [b2i_t (hin.mpr hc), if_pos (by decide), k274, Option.bind_some, e]
    · have e : nmP tp s lo.toInt hi.toInt = none := by
        unfold nmP
        exact if_neg (by omega)
      rw [b2i_f (fun hh => hc (hin.mp hh)), if_neg (fun hh => hh rfl), e]
  · rw [bd_f hk] at hi'
    refine ⟨0, ?_⟩
    have e : nmP tp s lo.toInt hi.toInt = none := by unfold nmP; exact if_neg (fun hh => hk hh.1)
    unfold Mod_number
    rw [c274_20, Option.bind_some, h20, if_pos rfl, k274, Option.bind_some, hi', bnd2_some, if_pos rfl]
    unfold Mod_number_j65
    rw [k274, Option.bind_some, hi', bnd2_some, if_pos rfl, e]
/-! where both stand while they read -/
def liveR (w : Wd) (tp : List Int32) (g : PD) (s : Nat) : Prop := WL w ∧ tpR w tp ∧ tkR w tp s ∧ w.2 274 20 = 0 ∧ w.2 274 10 = -1 ∧ rowIs (w.1 279) g [] sr0
def deadR (w : Wd) (tp : List Int32) (q : Nat) : Prop := WL w ∧ tpR w tp ∧ (∃ s, tkR w tp s) ∧ w.2 274 20 = 1 ∧ w.2 274 10 = nI q
def resR (w : Wd) (tp : List Int32) (r : Nat × Option PD) : Prop := match r.2 with
  | some g => liveR w tp g r.1
  | none => deadR w tp r.1
section LR
variable {w : Wd} {tp : List Int32} {g : PD} {s : Nat}
theorem liveR.next (h : liveR w tp g s) : ∃ w', Mod_reads 274 (hp w) = some ((), hp w') ∧ liveR w' tp g (nxT tp s) ∧ frL w w' := by
  obtain ⟨h1, h2, h3, h4, h5, h6⟩ := h
  obtain ⟨w', a, b, c, d⟩ := Mod_next h1 h2 h3
  exact ⟨w', a, ⟨b, d.tpR h2, c, by rw [d.2.1 20 (by omega) (by omega)]; exact h4, by rw [d.2.1 10 (by omega) (by omega)]; exact h5, by rw [d.1]; exact h6⟩, d.L⟩
theorem deadR.next {q : Nat} (h : deadR w tp q) : ∃ w', Mod_reads 274 (hp w) = some ((), hp w') ∧ deadR w' tp q ∧ frL w w' := by
  obtain ⟨h1, h2, ⟨s, h3⟩, h4, h5⟩ := h
  obtain ⟨w', a, b, c, d⟩ := Mod_next h1 h2 h3
  exact ⟨w', a, ⟨b, d.tpR h2, ⟨_, c⟩, by rw [d.2.1 20 (by omega) (by omega)]; exact h4, by rw [d.2.1 10 (by omega) (by omega)]; exact h5⟩, d.L⟩
theorem liveR.wrong (h : liveR w tp g s) : ∃ w', Mod_wrong 274 (hp w) = some ((), hp w') ∧ deadR w' tp s ∧ frL w w' ∧ w'.1 = w.1 := by
  obtain ⟨h1, h2, h3, h4, h5, h6⟩ := h
  obtain ⟨w', a, b, c, d, e, f, k⟩ := wrong_w h1 h4 h3.2.1
  exact ⟨w', a, ⟨b, k.tpR h2, ⟨s, h3.1, by rw [f 18 (by omega) (by omega)]; exact h3.2.1, by rw [f 19 (by omega) (by omega)]; exact h3.2.2⟩, c, d⟩, k, e⟩
theorem liveR.num_some {v : Nat} {lo hi : Int32} (h : liveR w tp g s) (hl : 0 ≤ lo.toInt) (hh : hi.toInt ≤ 999) (hv : nmP tp s lo.toInt hi.toInt = some v) : ∃ w', Mod_number 274 lo hi (hp w) = some (nI v, hp w') ∧ liveR w' tp g (nxT tp s) ∧ frL w w' := by
  obtain ⟨w', a, b, c⟩ := h.next
  obtain ⟨x, hx⟩ := num_pre h.1 h.2.1 h.2.2.1 h.2.2.2.1 hl hh
  rw [hv] at hx
  exact ⟨w', by rw [hx]; show bnd2 (Mod_reads 274 (hp w)) _ = _; rw [a, bnd2_some], b, c⟩
theorem liveR.num_none {lo hi : Int32} (h : liveR w tp g s) (hl : 0 ≤ lo.toInt) (hh : hi.toInt ≤ 999) (hv : nmP tp s lo.toInt hi.toInt = none) : ∃ w', Mod_number 274 lo hi (hp w) = some (0, hp w') ∧ deadR w' tp s ∧ frL w w' := by
  obtain ⟨w', a, b, c, _⟩ := h.wrong
  obtain ⟨x, hx⟩ := num_pre h.1 h.2.1 h.2.2.1 h.2.2.2.1 hl hh
  rw [hv] at hx
  refine ⟨w', ?_, b, c⟩
  rw [hx]
  show Mod_number_j81 274 lo hi x (hp w) = _
  unfold Mod_number_j81
  rw [k274, Option.bind_some, a, bnd2_some]
theorem deadR.num {q : Nat} {lo hi : Int32} (h : deadR w tp q) : Mod_number 274 lo hi (hp w) = some (0, hp w) := by
  unfold Mod_number
  rw [c274_20, Option.bind_some, h.2.2.2.1, if_neg (by decide)]
theorem liveR.upd {w' : Wd} {g' : PD} (h : liveR w tp g s) (hw' : WL w') (hF : Fr w w' 279 280) (hr : rowIs (w'.1 279) g' [] sr0) : liveR w' tp g' s ∧ frL w w' := by
  obtain ⟨h1, h2, h3, h4, h5, h6⟩ := h
  have f : frL w w' := ⟨fun i hi => (hF i (by omega)).1, fun k _ _ _ _ => by rw [(hF 274 (by omega)).2], fun i hi hj => (hF i (by omega)).2⟩
  have g4 : w'.2 274 = w.2 274 := (hF 274 (by omega)).2
  exact ⟨⟨hw', f.tpR h2, ⟨h3.1, by rw [g4]; exact h3.2.1, by rw [g4]; exact h3.2.2⟩, by rw [g4]; exact h4, by rw [g4]; exact h5, hr⟩, f⟩
theorem deadR.upd {w' : Wd} {q : Nat} (h : deadR w tp q) (hw' : WL w') (hF : Fr w w' 279 280) : deadR w' tp q ∧ frL w w' := by
  obtain ⟨h1, h2, ⟨s, h3⟩, h4, h5⟩ := h
  have f : frL w w' := ⟨fun i hi => (hF i (by omega)).1, fun k _ _ _ _ => by rw [(hF 274 (by omega)).2], fun i hi hj => (hF i (by omega)).2⟩
  have g4 : w'.2 274 = w.2 274 := (hF 274 (by omega)).2
  exact ⟨⟨hw', f.tpR h2, ⟨s, h3.1, by rw [g4]; exact h3.2.1, by rw [g4]; exact h3.2.2⟩, by rw [g4]; exact h4, by rw [g4]; exact h5⟩, f⟩
end LR

/-! the class while it reads -/
def frC (w w' : Wd) : Prop := Fr w w' 40 49 ∧ w'.1 41 = w.1 41 ∧ ∀ k, k ≠ 3 → k ≠ 4 → k ≠ 5 → w'.2 40 k = w.2 40 k
theorem frC.rfl' {w : Wd} : frC w w := ⟨Fr.rfl', rfl, fun _ _ _ _ => rfl⟩
theorem frC.tr {w w' w'' : Wd} (h : frC w w') (h' : frC w' w'') : frC w w'' := ⟨h.1.tr h'.1, h'.2.1.trans h.2.1, fun k a b c => (h'.2.2 k a b c).trans (h.2.2 k a b c)⟩
theorem frT.C {w w' : Wd} (h : frT w w') : frC w w' := ⟨fun i hi => ⟨by rw [h.1], h.2.2 i (by omega)⟩, by rw [h.1], h.2.1⟩
theorem frC.tpC {w w' : Wd} {tp : List Int32} (h : frC w w') (hT : tpC w tp) : tpC w' tp := by
  obtain ⟨h1, h2, h3⟩ := hT
  exact ⟨by rw [h.2.2 1 (by omega) (by omega) (by omega)]; exact h1, h2, by rw [h.2.1]; exact h3⟩
def liveC (w : Wd) (tp : List Int32) (g : PD) (s : Nat) : Prop := WL w ∧ tpC w tp ∧ tkC w tp s ∧ pdW w 42 = g
def resC (w : Wd) (tp : List Int32) (r : Nat × Option PD) : Prop := match r.2 with
  | some g => liveC w tp g r.1
  | none => WL w ∧ w.2 40 3 = nI r.1
section LC
variable {w : Wd} {tp : List Int32} {g : PD} {s : Nat}
theorem frT.pd {w w' : Wd} (h : frT w w') : pdW w' 42 = pdW w 42 := by
  unfold pdW
  rw [h.1, h.2.2 42 (by omega)]
theorem liveC.next (h : liveC w tp g s) : ∃ w', Tape_step 40 (hp w) = some ((), hp w') ∧ liveC w' tp g (nxT tp s) ∧ frC w w' := by
  obtain ⟨h1, h2, h3, h4⟩ := h
  obtain ⟨w', a, b, c, d⟩ := Tape_next h1 h2 h3
  exact ⟨w', a, ⟨b, d.tpC h2, c, by rw [d.pd]; exact h4⟩, d.C⟩
theorem liveC.num_some {v : Nat} {lo hi : Int32} (h : liveC w tp g s) (hl : 0 ≤ lo.toInt) (hh : hi.toInt ≤ 999) (hv : nmP tp s lo.toInt hi.toInt = some v) : ∃ w', Tape_takeNumber 40 lo hi (hp w) = some (nI v, hp w') ∧ liveC w' tp g (nxT tp s) ∧ frC w w' := by
  obtain ⟨h1, h2, h3, h4⟩ := h
  obtain ⟨w', a, b, c, d⟩ := take_some h1 h2 h3 hl hh hv
  exact ⟨w', a, ⟨b, d.tpC h2, c, by rw [d.pd]; exact h4⟩, d.C⟩
theorem liveC.num_none {lo hi : Int32} (h : liveC w tp g s) (hl : 0 ≤ lo.toInt) (hh : hi.toInt ≤ 999) (hv : nmP tp s lo.toInt hi.toInt = none) : Tape_takeNumber 40 lo hi (hp w) = some (-1, hp w) := take_none h.1 h.2.1 h.2.2.1 hl hh hv
theorem liveC.fail (h : liveC w tp g s) : resC w tp (s, none) := ⟨h.1, h.2.2.1.2.1⟩
theorem liveC.upd {w' : Wd} {g' : PD} (h : liveC w tp g s) (hw' : WL w') (hF : Fr w w' 42 49) (hg : pdW w' 42 = g') : liveC w' tp g' s ∧ frC w w' := by
  obtain ⟨h1, h2, h3, h4⟩ := h
  have f : frC w w' := ⟨hF.mono (by omega) (by omega), (hF 41 (by omega)).1, fun k _ _ _ => by rw [(hF 40 (by omega)).2]⟩
  have g4 : w'.2 40 = w.2 40 := (hF 40 (by omega)).2
  exact ⟨⟨hw', f.tpC h2, ⟨h3.1, by rw [g4]; exact h3.2.1, by rw [g4]; exact h3.2.2.1, by rw [g4]; exact h3.2.2.2⟩, hg⟩, f⟩
theorem ne_m1 {v : Nat} (h : v < 2 ^ 31) : ¬ nI v = -1 := by
  rw [ti_eq, nI_toInt h, show (-1 : Int32).toInt = -1 from rfl]; omega
end LC
