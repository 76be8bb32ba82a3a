theorem fl_upd {W : Wd} {a t : Nat} {y : Int32} {d : Int} (hW : WL W) (ha : a < 4) (ht : t < 6) (hy : y.toInt = fl W a t + d) : ∀ x s, s < 6 → fl (wA W 25 ((W.1 25).set (a * 6 + t) y)) x s = updZ (fl W) a t d x s := by
  intro x s hs
  have L := l25 hW
  unfold fl updZ zA
  rw [wA_s, gD_set]
  by_cases h : x = a ∧ s = t
  · obtain ⟨rfl, rfl⟩ := h
    rw [if_pos ⟨rfl, by omega⟩, if_pos ⟨rfl, rfl⟩]
    exact hy
  · rw [if_neg (by omega), if_neg h]
theorem row_congr {f g : Nat → Nat → Int} {p : Nat} (h : ∀ s, s < 6 → f p s = g p s) : rowZ f p = rowZ g p := by
  unfold rowZ
  rw [h 0 (by omega), h 1 (by omega), h 2 (by omega), h 3 (by omega), h 4 (by omega), h 5 (by omega)]
theorem col_congr {f g : Nat → Nat → Int} {s : Nat} (h : ∀ p, p < 4 → f p s = g p s) : colZ f s = colZ g s := by
  unfold colZ
  rw [h 0 (by omega), h 1 (by omega), h 2 (by omega), h 3 (by omega)]
/-- in the middle of bringing: flows moved on up to plant b -/
def brI (w W : Wd) (π : Nat → Int) (rk : Nat → Nat) (a b : Nat) (amt : Int) : Prop := WL W ∧ Fr w W 25 26 ∧ (∀ x s, x < 4 → s < 6 → 0 ≤ fl W x s ∧ (0 < fl W x s → tight (pdW w 2) π x s)) ∧ (∀ s, s < 6 → colZ (fl W) s = colZ (fl w) s) ∧ (∀ x, x < 4 → rowZ (fl W) x = rowZ (fl w) x + (if x = b then amt else 0) - (if x = a then amt else 0)) ∧ (∀ x s, x < 4 → s < 6 → rk x ≤ rk b → fl w x s ≤ fl W x s)
theorem br_step {w W : Wd} {π : Nat → Int} {rk : Nat → Nat} {a b q t : Nat} {amt v4 v1 v2 v3 : Int32} {j : Nat} (hj : j < 4) (hb : b < 4) (hq : q < 4) (ht : t < 6) (h29 : (w.1 29).getD b 0 = nI q) (h27 : (w.1 27).getD (q * 4 + b) 0 = nI t) (hf : v4.toInt ≤ fl w b t) (hp0 : 0 < v4.toInt) (hqt : zT (pdW w 2) q t ≠ -1) (hπ : π b + zT (pdW w 2) b t = π q + zT (pdW w 2) q t) (hr : rk q < rk b) (hc : ∀ s, s < 6 → colZ (fl w) s ≤ 1000) (hI : brI w W π rk a b v4.toInt) : ∃ W', Frt_bring_b107 19 v1 v2 v3 v4 (nI b, nI j, hp W) = some (.inl (nI q, nI (j + 1), hp W')) ∧ brI w W' π rk a q v4.toInt := by
  obtain ⟨hW, hF, h1, h2, h3, h4⟩ := hI
  have e29 : W.1 29 = w.1 29 := (hF 29 (by omega)).1
  have e27 : W.1 27 = w.1 27 := (hF 27 (by omega)).1
  have L29 := l29 hW
  have L27 := l27 hW
  have L25 := l25 hW
  have hcj : ¬ (4 : Int32) ≤ nI j := nI_ge (b := 4) hj (by omega)
  have hbq : b ≠ q := by
    intro h
    subst h
    omega
  have fb := h4 b t hb ht (Nat.le_refl _)
  have cb : fl W b t ≤ colZ (fl W) t := col_ge hb (fun x hx => (h1 x t hx ht).1)
  have cq : fl W q t ≤ colZ (fl W) t := col_ge hq (fun x hx => (h1 x t hx ht).1)
  have c1 := h2 t ht
  have c2 := hc t ht
  have nq := (h1 q t hq ht).1
  simp only [Frt_bring_b107, if_neg hcj, c19_9, Option.bind_some]
  rw [ald_w (j := b) s29 rfl (by omega) (by omega)]
  simp only [Option.bind_some]
  rw [e29, h29, if_neg (nI_ne_m1 hq)]
  simp only [c19_7, Option.bind_some, nI_m4]
  rw [ald_w (j := q * 4 + b) s27 rfl (by omega) (by omega)]
  simp only [Option.bind_some]
  rw [e27, h27]
  simp only [c19_5, Option.bind_some, nI_m6]
  rw [ald_w (j := b * 6 + t) s25 rfl (by omega) (by omega)]
  simp only [Option.bind_some]
  rw [ast_w (j := b * 6 + t) s25 rfl (by omega) (by omega)]
  simp only [c19_5, Option.bind_some]
  have y1 : (nar 0 ((W.1 25).getD (b * 6 + t) 0 - v4)).toInt = fl W b t + -v4.toInt := by
    show ((W.1 25).getD (b * 6 + t) 0 - v4).toInt = _
    unfold fl zA at *
    rw [ti_sub (by omega) (by omega)]
    omega
  have u1 := fl_upd hW hb ht y1
  have hW1 : WL (wA W 25 ((W.1 25).set (b * 6 + t) (nar 0 ((W.1 25).getD (b * 6 + t) 0 - v4)))) := hW.S
  have hF1 : Fr w (wA W 25 ((W.1 25).set (b * 6 + t) (nar 0 ((W.1 25).getD (b * 6 + t) 0 - v4)))) 25 26 := Fr.cA hF (by omega) (by omega)
  generalize wA W 25 ((W.1 25).set (b * 6 + t) (nar 0 ((W.1 25).getD (b * 6 + t) 0 - v4))) = W1 at *
  have L25' := l25 hW1
  rw [ald_w (j := q * 6 + t) s25 rfl (by omega) (by omega)]
  simp only [Option.bind_some]
  rw [ast_w (j := q * 6 + t) s25 rfl (by omega) (by omega)]
  simp only [Option.bind_some, nI_1]
  have fq1 : fl W1 q t = fl W q t := by
    rw [u1 q t ht]; unfold updZ; rw [if_neg (fun h => hbq h.1.symm)]
  have y2 : (nar 0 ((W1.1 25).getD (q * 6 + t) 0 + v4)).toInt = fl W1 q t + v4.toInt := by
    show ((W1.1 25).getD (q * 6 + t) 0 + v4).toInt = _
    unfold fl zA at *
    rw [ti_add (by omega) (by omega)]
  have u2 := fl_upd hW1 hq ht y2
  have u : ∀ x s, s < 6 → fl (wA W1 25 ((W1.1 25).set (q * 6 + t) (nar 0 ((W1.1 25).getD (q * 6 + t) 0 + v4)))) x s = updZ (updZ (fl W) b t (-v4.toInt)) q t v4.toInt x s := by
    intro x s hs
    rw [u2 x s hs]
    unfold updZ
    have := u1 x s hs
    unfold updZ at this
    rw [this]
  refine ⟨_, rfl, hW1.S, Fr.cA hF1 (by omega) (by omega), ?_, ?_, ?_, ?_⟩
  · intro x s hx hs
    rw [u x s hs]
    have hxs := h1 x s hx hs
    unfold updZ
    by_cases k1 : x = q ∧ s = t
    · obtain ⟨rfl, rfl⟩ := k1
      rw [if_pos ⟨rfl, rfl⟩, if_neg (fun h => hbq h.1.symm)]
      refine ⟨by omega, fun _ => ⟨hqt, fun r hr' hT => ?_⟩⟩
      have tb := ((h1 b s hb ht).2 (by omega)).2 r hr' hT
      omega
    · rw [if_neg k1]
      by_cases k2 : x = b ∧ s = t
      · obtain ⟨rfl, rfl⟩ := k2
        rw [if_pos ⟨rfl, rfl⟩]
        exact ⟨by omega, fun _ => hxs.2 (by omega)⟩
      · rw [if_neg k2]; exact hxs
  · intro s hs
    rw [col_congr (fun p _ => u p s hs), col_upd hq, col_upd hb, ← h2 s hs]
    split <;> omega
  · intro x hx
    rw [row_congr (fun s hs => u x s hs), row_upd ht, row_upd ht, h3 x hx]
    by_cases k1 : x = q
    · subst k1
      rw [if_neg (fun h => hbq h.symm), if_pos rfl]
      omega
    · by_cases k2 : x = b
      · subst k2
        rw [if_pos rfl, if_neg hbq]
        omega
      · rw [if_neg k2, if_neg k1]; omega
  · intro x s hx hs hrk
    rw [u x s hs]
    have hxb : x ≠ b := by
      intro h
      subst h
      omega
    have hd := h4 x s hx hs (by omega)
    unfold updZ
    rw [if_neg (fun h : x = b ∧ s = t => hxb h.1)]
    split <;> omega
theorem Frt_bring_w {w : Wd} {δ π : Nat → Int} {rk : Nat → Nat} {a s : Nat} {most : Int32} (hw : WL w) (hh : helpR w δ rk) (ha : a < 4) (hs : s < 6) (hda : δ a < 1000000) (hπ : ∀ p, p < 4 → δ p < 1000000 → π p = δ p) (hts : tight (pdW w 2) π a s) (hf : ∀ x s, x < 4 → s < 6 → 0 ≤ fl w x s ∧ (0 < fl w x s → tight (pdW w 2) π x s)) (hc : ∀ s, s < 6 → colZ (fl w) s ≤ 1000) (hl : ∀ p, p < 4 → 0 ≤ zA w 24 p) (hm : 0 < most.toInt) (hm2 : most.toInt ≤ 1000) : ∃ w' amt, Frt_bring 19 (nI a) (nI s) most (hp w) = some (amt, hp w') ∧ 0 < amt.toInt ∧ amt.toInt ≤ most.toInt ∧ WL w' ∧ Fr w w' 24 26 ∧ (∀ x s, x < 4 → s < 6 → 0 ≤ fl w' x s ∧ (0 < fl w' x s → tight (pdW w 2) π x s)) ∧ (∀ s', s' < 6 → colZ (fl w') s' = colZ (fl w) s' + if s' = s then amt.toInt else 0) ∧ (∀ p, p < 4 → 0 ≤ zA w' 24 p ∧ zA w' 24 p ≤ zA w 24 p ∧ zA w' 24 p + rowZ (fl w') p = zA w 24 p + rowZ (fl w) p) := by
  obtain ⟨k, k1, k2, k3, k4, k5⟩ := chain hh ha hda
  have L29 := l29 hw
  have L27 := l27 hw
  have L25 := l25 hw
  have L24 := l24 hw
  obtain ⟨r1, i1, amt1, rfl, m1, m2, m3⟩ := iter_I (body := Frt_bring_b9 19 (nI a) (nI s) most (hp w)) (fun j st => j ≤ k ∧ ∃ amt : Int32, st = (amt, nI (nxs w a j), nI j) ∧ 0 < amt.toInt ∧ amt.toInt ≤ most.toInt ∧ ∀ i, i < j → ∀ t, t < 6 → (w.1 27).getD (nxs w a (i + 1) * 4 + nxs w a i) 0 = nI t → amt.toInt ≤ fl w (nxs w a i) t) (fun r => ∃ amt : Int32, r = (amt, nI (nxs w a k), nI k) ∧ 0 < amt.toInt ∧ amt.toInt ≤ most.toInt ∧ ∀ i, i < k → ∀ t, t < 6 → (w.1 27).getD (nxs w a (i + 1) * 4 + nxs w a i) 0 = nI t → amt.toInt ≤ fl w (nxs w a i) t) k (s0 := (most, nI a, 0)) (by omega) ⟨Nat.zero_le _, most, rfl, hm, Int.le_refl _, fun _ h => absurd h (by omega)⟩ (by
    rintro j st hj ⟨hjk, amt, rfl, g1, g2, g3⟩
    left
    obtain ⟨t, t1, t2, t3, t4, t5, t6, t7⟩ := k5 j hj
    have b1 := (k2 j (by omega)).1
    have b2 := (k2 (j + 1) (by omega)).1
    have hcj : ¬ (4 : Int32) ≤ nI j := nI_ge (b := 4) (by omega) (by omega)
    simp only [Frt_bring_b9, if_neg hcj, c19_9, Option.bind_some]
    rw [ald_w (j := nxs w a j) s29 rfl (by omega) (by omega)]
    simp only [Option.bind_some]
    rw [t2, if_neg (nI_ne_m1 b2)]
    simp only [c19_5, c19_7, Option.bind_some, nI_m4]
    rw [ald_w (j := nxs w a (j + 1) * 4 + nxs w a j) s27 rfl (by omega) (by omega)]
    simp only [Option.bind_some]
    rw [t3, nI_m6, ald_w (j := nxs w a j * 6 + t) s25 rfl (by omega) (by omega)]
    simp only [Option.bind_some, nI_1]
    have hlt : ((if (w.1 25).getD (nxs w a j * 6 + t) 0 < amt then (w.1 25).getD (nxs w a j * 6 + t) 0 else amt) : Int32).toInt = if fl w (nxs w a j) t < amt.toInt then fl w (nxs w a j) t else amt.toInt := by
      by_cases h : (w.1 25).getD (nxs w a j * 6 + t) 0 < amt
      · rw [if_pos h]
        rw [ti_lt] at h
        rw [if_pos (show fl w (nxs w a j) t < amt.toInt from h)]
        rfl
      · rw [if_neg h]
        rw [ti_lt] at h
        rw [if_neg (show ¬ fl w (nxs w a j) t < amt.toInt from h)]
    refine ⟨_, rfl, by omega, _, rfl, ?_, ?_, ?_⟩
    · rw [hlt]; split <;> omega
    · rw [hlt]; split <;> omega
    · intro i hi t' ht' he
      rw [hlt]
      by_cases hij : i = j
      · subst hij
        rw [t3] at he
        have : t = t' := (nI_eq (by omega) (by omega)).mp he
        subst this
        split <;> omega
      · have := g3 i (by omega) t' ht' he
        split <;> omega) (by
    rintro st ⟨hjk, amt, rfl, g1, g2, g3⟩
    have b1 := (k2 k (Nat.le_refl _)).1
    have hcj : ¬ (4 : Int32) ≤ nI k := nI_ge (b := 4) (by omega) (by omega)
    refine ⟨(amt, nI (nxs w a k), nI k), ?_, amt, rfl, g1, g2, g3⟩
    simp only [Frt_bring_b9, if_neg hcj, c19_9, Option.bind_some]
    rw [ald_w (j := nxs w a k) s29 rfl (by omega) (by omega)]
    simp only [Option.bind_some]
    rw [k3]
    simp only [↓reduceIte])
  have be := (k2 k (Nat.le_refl _)).1
  have hle := hl _ be
  have eamt : ((if (w.1 24).getD (nxs w a k) 0 < amt1 then (w.1 24).getD (nxs w a k) 0 else amt1) : Int32).toInt = if zA w 24 (nxs w a k) < amt1.toInt then zA w 24 (nxs w a k) else amt1.toInt := by
    by_cases h : (w.1 24).getD (nxs w a k) 0 < amt1
    · rw [if_pos h]
      rw [ti_lt] at h
      rw [if_pos (show zA w 24 (nxs w a k) < amt1.toInt from h)]
      rfl
    · rw [if_neg h]
      rw [ti_lt] at h
      rw [if_neg (show ¬ zA w 24 (nxs w a k) < amt1.toInt from h)]
  simp only [Frt_bring, i1, Option.bind_some, Frt_bring_j75, c19_4]
  rw [ald_w (j := nxs w a k) s24 rfl (by omega) (by omega)]
  simp only [Option.bind_some]
  generalize hA : (if (w.1 24).getD (nxs w a k) 0 < amt1 then (w.1 24).getD (nxs w a k) 0 else amt1) = A at *
  have A1 : 0 < A.toInt ∧ A.toInt ≤ amt1.toInt ∧ A.toInt ≤ zA w 24 (nxs w a k) := by
    rw [eamt]; split <;> omega
  clear eamt hA
  rw [ast_w (j := nxs w a k) s24 rfl (by omega) (by omega)]
  simp only [Option.bind_some]
  have y24 : ((w.1 24).getD (nxs w a k) 0 - A).toInt = zA w 24 (nxs w a k) - A.toInt := by
    have b := Int32.toInt_lt ((w.1 24).getD (nxs w a k) 0)
    unfold zA at *
    rw [ti_sub (by omega) (by omega)]
  have z24 : ∀ p, zA (wA w 24 ((w.1 24).set (nxs w a k) (nar 0 ((w.1 24).getD (nxs w a k) 0 - A)))) 24 p = if p = nxs w a k then zA w 24 p - A.toInt else zA w 24 p := by
    intro p
    unfold zA
    rw [wA_s, gD_set]
    by_cases h : nxs w a k = p
    · subst h
      rw [if_pos ⟨rfl, by omega⟩, if_pos rfl]
      exact y24
    · rw [if_neg (fun h' => h h'.1), if_neg (fun h' => h h'.symm)]
  have f0 : ∀ x t, fl (wA w 24 ((w.1 24).set (nxs w a k) (nar 0 ((w.1 24).getD (nxs w a k) 0 - A)))) x t = fl w x t := by
    intro x t
    unfold fl zA
    rw [wA_n (by omega)]
  have hW0 : WL (wA w 24 ((w.1 24).set (nxs w a k) (nar 0 ((w.1 24).getD (nxs w a k) 0 - A)))) := hw.S
  have hF0 : Fr w (wA w 24 ((w.1 24).set (nxs w a k) (nar 0 ((w.1 24).getD (nxs w a k) 0 - A)))) 24 25 := Fr.A (by omega) (by omega)
  generalize wA w 24 ((w.1 24).set (nxs w a k) (nar 0 ((w.1 24).getD (nxs w a k) 0 - A))) = w1 at *
  have eg : pdW w1 2 = pdW w 2 := pd_fr hF0 (by omega)
  have e29 : w1.1 29 = w.1 29 := (hF0 29 (by omega)).1
  have e27 : w1.1 27 = w.1 27 := (hF0 27 (by omega)).1
  have efl : fl w1 = fl w := by funext x t; exact f0 x t
  obtain ⟨r2, i2, W2, rfl, hB⟩ := iter_I (body := Frt_bring_b107 19 (nI a) (nI s) most A) (fun j st => j ≤ k ∧ ∃ W, st = (nI (nxs w a j), nI j, hp W) ∧ brI w1 W π rk a (nxs w a j) A.toInt) (fun r => ∃ W, r = (nI (nxs w a k), nI k, hp W) ∧ brI w1 W π rk a (nxs w a k) A.toInt) k (s0 := (nI a, 0, hp w1)) (by omega) ⟨Nat.zero_le _, w1, rfl, hW0, Fr.rfl', fun x t hx ht => by rw [efl, eg]; exact hf x t hx ht, fun _ _ => rfl, fun x hx => by show rowZ (fl w1) x = rowZ (fl w1) x + (if x = a then A.toInt else 0) - (if x = a then A.toInt else 0); omega, fun _ _ _ _ _ => Int.le_refl _⟩ (by
    rintro j st hj ⟨hjk, W, rfl, hB⟩
    left
    obtain ⟨t, t1, t2, t3, t4, t5, t6, t7⟩ := k5 j hj
    have b1 := k2 j (by omega)
    have b2 := k2 (j + 1) (by omega)
    obtain ⟨W', g1, g2⟩ := br_step (w := w1) (W := W) (π := π) (rk := rk) (a := a) (b := nxs w a j) (q := nxs w a (j + 1)) (t := t) (amt := A) (v4 := A) (v1 := nI a) (v2 := nI s) (v3 := most) (j := j) (by omega) b1.1 b2.1 t1 (by rw [e29]; exact t2) (by rw [e27]; exact t3) (by rw [efl]; exact Int.le_trans A1.2.1 (m3 j hj t t1 t3)) A1.1 (by rw [eg]; exact t5) (by rw [eg, hπ _ b1.1 b1.2, hπ _ b2.1 b2.2]; exact t6) t7 (by rw [efl]; exact hc) hB
    exact ⟨_, g1, by omega, W', rfl, g2⟩) (by
    rintro st ⟨hjk, W, rfl, hB⟩
    have b1 := (k2 k (Nat.le_refl _)).1
    have hcj : ¬ (4 : Int32) ≤ nI k := nI_ge (b := 4) (by omega) (by omega)
    have L29W := l29 hB.1
    refine ⟨(nI (nxs w a k), nI k, hp W), ?_, W, rfl, hB⟩
    simp only [Frt_bring_b107, if_neg hcj, c19_9, Option.bind_some]
    rw [ald_w (j := nxs w a k) s29 rfl (by omega) (by omega)]
    simp only [Option.bind_some]
    rw [(hB.2.1 29 (by omega)).1, e29, k3]
    simp only [↓reduceIte])
  simp only [i2, Option.bind_some, Frt_bring_j193, c19_5, nI_m6]
  obtain ⟨q1, q2, q3, q4, q5, q6⟩ := hB
  have L25' := l25 q1
  rw [ald_w (j := a * 6 + s) s25 rfl (by omega) (by omega)]
  simp only [Option.bind_some]
  rw [ast_w (j := a * 6 + s) s25 rfl (by omega) (by omega)]
  simp only [Option.bind_some]
  have ca : fl W2 a s ≤ colZ (fl W2) s := col_ge ha (fun x hx => (q3 x s hx hs).1)
  have c1 := q4 s hs
  rw [efl] at c1
  have c2 := hc s hs
  have na := (q3 a s ha hs).1
  have y3 : (nar 0 ((W2.1 25).getD (a * 6 + s) 0 + A)).toInt = fl W2 a s + A.toInt := by
    show ((W2.1 25).getD (a * 6 + s) 0 + A).toInt = _
    unfold fl zA at *
    rw [ti_add (by omega) (by omega)]
  have u := fl_upd q1 ha hs y3
  have e24 : ∀ p, zA (wA W2 25 ((W2.1 25).set (a * 6 + s) (nar 0 ((W2.1 25).getD (a * 6 + s) 0 + A)))) 24 p = zA w1 24 p := by
    intro p
    unfold zA
    rw [wA_n (by omega), (q2 24 (by omega)).1]
  refine ⟨_, A, rfl, A1.1, by omega, q1.S, ?_, ?_, ?_, ?_⟩
  · exact Fr.cA ((hF0.mono (by omega) (by omega)).tr (q2.mono (by omega) (by omega))) (by omega) (by omega)
  · intro x t hx ht
    rw [u x t ht]
    have hxt := q3 x t hx ht
    rw [eg] at hxt
    unfold updZ
    by_cases h : x = a ∧ t = s
    · obtain ⟨rfl, rfl⟩ := h
      rw [if_pos ⟨rfl, rfl⟩]
      exact ⟨by omega, fun _ => hts⟩
    · rw [if_neg h]; exact hxt
  · intro t ht
    rw [col_congr (fun p _ => u p t ht), col_upd ha, q4 t ht, efl]
  · intro p hp'
    rw [e24 p, z24 p, row_congr (fun t ht => u p t ht), row_upd hs, q5 p hp', efl]
    have := hl p hp'
    by_cases h1 : p = nxs w a k
    · have h1' := h1
      rw [if_pos h1, if_pos h1]
      rw [← h1] at A1
      split <;> omega
    · rw [if_neg h1, if_neg h1]
      split <;> omega
