/-! the reference: by how much prices rise -/
theorem and16 : ∀ a : Fin 16, ∀ b : Fin 16, decide (nI a.1 &&& nI b.1 = 0) = ((!a.1.testBit 0 || !b.1.testBit 0) && (!a.1.testBit 1 || !b.1.testBit 1) && (!a.1.testBit 2 || !b.1.testBit 2) && (!a.1.testBit 3 || !b.1.testBit 3)) := by decide +kernel
theorem near_meet {g : PD} {U : Nat → Int} {s Q : Nat} (hQ : Q < 16) : (¬ nI (nrA g U s 4) &&& nI Q = 0) ↔ ∃ p, p < 4 ∧ nrB g U s p = true ∧ Q.testBit p = true := by
  have h := and16 ⟨nrA g U s 4, nrA_lt g U s⟩ ⟨Q, hQ⟩
  simp only [nrA_bit, show (0 : Nat) < 4 by omega, show (1 : Nat) < 4 by omega, show (2 : Nat) < 4 by omega, show (3 : Nat) < 4 by omega, decide_true, Bool.true_and] at h
  rw [← decide_eq_false_iff_not, h]
  constructor
  · intro h'
    simp only [Bool.and_eq_false_iff, Bool.or_eq_false_iff, Bool.not_eq_false'] at h'
    rcases h' with ((h' | h') | h') | h'
    · exact ⟨0, by omega, h'⟩
    · exact ⟨1, by omega, h'⟩
    · exact ⟨2, by omega, h'⟩
    · exact ⟨3, by omega, h'⟩
  · rintro ⟨p, hp', h1, h2⟩
    have : p = 0 ∨ p = 1 ∨ p = 2 ∨ p = 3 := by omega
    rcases this with rfl | rfl | rfl | rfl <;> simp [h1, h2]
theorem need0 {g : PD} {c s : Nat} : pNeed g c s = 0 ↔ zN g c s = 0 := by
  unfold zN
  rw [ti_eq, ti_0]
/-- rises that are allowed by sites below n -/
def okR (g : PD) (N u : Nat → Int) (X : Nat → Bool) (n : Nat) (r : Int) : Prop := 1 ≤ r ∧ r ≤ 1000000000 ∧ ∀ s, s < n → N s ≠ 0 → (∃ p, p < 4 ∧ nrB g u s p = true ∧ X p = true) → nrIn g u s X = true ∧ ∀ p, p < 4 → X p = false → r ≤ rcZ g u s p - vZ g u s
theorem okR_ok {g : PD} {N u : Nat → Int} {X : Nat → Bool} {r : Int} (h : okR g N u X 6 r) : okRise g N u X r := by
  intro s hs h0 hX
  obtain ⟨h1, h2⟩ := h.2.2 s hs h0 hX
  refine Or.inr ⟨h1, fun p hp' hXp hT => ?_⟩
  have := h2 p hp' hXp
  unfold rcZ at this
  rw [if_neg hT] at this
  exact this
theorem Mod_riseOf_w {w : Wd} {c Q : Nat} (hw : WL w) (hg : wfP (mdG (w.1 279))) (hu : uOk w) (hl : layd w) (hc : c < 4) (hQ : Q < 16) : ∃ r, Mod_riseOf 274 (nI c) (nI Q) (hp w) = some (r, hp w) ∧ 1 ≤ r.toInt ∧ r.toInt ≤ 1000000000 ∧ okRise (mdG (w.1 279)) (zN (mdG (w.1 279)) c) (zA w 287) (fun p => Q.testBit p) r.toInt := by
  have L9 := l289 hw
  have L8 := l288 hw
  have vr : ∀ s, s < 6 → 0 ≤ vZ (mdG (w.1 279)) (zA w 287) s ∧ vZ (mdG (w.1 279)) (zA w 287) s ≤ 1000099 := fun s hs => by
    rcases vZ_spec (mdG (w.1 279)) (zA w 287) s with ⟨_, h⟩ | ⟨⟨p, hp', hT, h⟩, _⟩
    · rw [h]; omega
    · rw [h]
      have := hu p hp'
      have := zT_rng hg hp' hs
      omega
  obtain ⟨q, i1, hq⟩ := iter_I (body := Mod_riseOf_b6 274 (nI c) (nI Q)) (fun j st => ∃ r, st = (r, nI j, hp w) ∧ okR (mdG (w.1 279)) (zN (mdG (w.1 279)) c) (zA w 287) (fun p => Q.testBit p) j r.toInt) (fun q => (∃ a b, q = Sum.inl (a, b, hp w)) ∨ ∃ r, q = Sum.inr (r, nI 6, hp w) ∧ okR (mdG (w.1 279)) (zN (mdG (w.1 279)) c) (zA w 287) (fun p => Q.testBit p) 6 r.toInt) 6 (s0 := (1000000000, 0, hp w)) (by omega) ⟨1000000000, rfl, by rw [ti_far]; omega, by rw [ti_far]; omega, fun s hs => absurd hs (by omega)⟩ (by
    rintro j st hj ⟨r, rfl, h1, h2, h3⟩
    have hcn : ¬ (6 : Int32) ≤ nI j := nI_ge (b := 6) hj (by omega)
    have a9 : ald 0 (hp w) 289 (nI j) = some (nI (nrA (mdG (w.1 279)) (zA w 287) j 4)) := by rw [ald_w (j := j) s289 rfl (by omega) (by omega), (hl j hj).2]
    have a8 : ald 0 (hp w) 288 (nI j) = some ((w.1 288).getD j 0) := ald_w (j := j) s288 rfl (by omega) (by omega)
    have v8 : ((w.1 288).getD j 0).toInt = vZ (mdG (w.1 279)) (zA w 287) j := (hl j hj).1
    have rv := vr j hj
    simp only [Mod_riseOf_b6, if_neg hcn, k274, Option.bind_some, Mod_needOf_w hw hc hj, bnd2_some, c274_25, a9]
    have skip : ((zN (mdG (w.1 279)) c j = 0) ∨ ¬ ∃ p, p < 4 ∧ nrB (mdG (w.1 279)) (zA w 287) j p = true ∧ Q.testBit p = true) → ∃ s', Mod_riseOf_j115 274 (nI c) (nI Q) r (nI j) (hp w) = some (.inl s') ∧ ∃ r, s' = (r, nI (j + 1), hp w) ∧ okR (mdG (w.1 279)) (zN (mdG (w.1 279)) c) (zA w 287) (fun p => Q.testBit p) (j + 1) r.toInt := by
      intro hsk
      simp only [Mod_riseOf_j115, nI_1]
      refine ⟨_, rfl, r, rfl, h1, h2, fun s hs h0 hX => ?_⟩
      by_cases hsj : s = j
      · subst hsj
        rcases hsk with h | h
        · exact absurd h h0
        · exact absurd hX h
      · exact h3 s (by omega) h0 hX
    by_cases hn : pNeed (mdG (w.1 279)) c j = 0
    · left
      rw [if_pos hn]
      exact skip (Or.inl (need0.mp hn))
    · rw [if_neg hn]
      by_cases hm : nI (nrA (mdG (w.1 279)) (zA w 287) j 4) &&& nI Q = 0
      · left
        rw [if_neg (fun h => h hm)]
        exact skip (Or.inr (fun h => (near_meet hQ).mpr h hm))
      · rw [if_pos hm]
        by_cases hin : nrIn (mdG (w.1 279)) (zA w 287) j (fun p => Q.testBit p) = true
        · left
          rw [if_pos ((near_sub hQ).mpr hin)]
          obtain ⟨q, i2, r', rfl, t1, t2, t3⟩ := iter_I (body := Mod_riseOf_b57 274 (nI c) (nI Q) (nI j)) (fun p st => ∃ r', st = (r', nI p, hp w) ∧ 1 ≤ r'.toInt ∧ r'.toInt ≤ r.toInt ∧ ∀ q, q < p → Q.testBit q = false → r'.toInt ≤ rcZ (mdG (w.1 279)) (zA w 287) j q - vZ (mdG (w.1 279)) (zA w 287) j) (fun q => ∃ r', q = (r', hp w) ∧ 1 ≤ r'.toInt ∧ r'.toInt ≤ r.toInt ∧ ∀ q, q < 4 → Q.testBit q = false → r'.toInt ≤ rcZ (mdG (w.1 279)) (zA w 287) j q - vZ (mdG (w.1 279)) (zA w 287) j) 4 (s0 := (r, 0, hp w)) (by omega) ⟨r, rfl, h1, Int.le_refl _, fun q hq => absurd hq (by omega)⟩ (by
            rintro p st hp' ⟨r', rfl, t1, t2, t3⟩
            left
            have hcn : ¬ (4 : Int32) ≤ nI p := nI_ge (b := 4) hp' (by omega)
            obtain ⟨x, x1, x2⟩ := Mod_reachOf_w (s := j) (p := p) hw hg hu hj hp'
            have hxr : 0 ≤ x.toInt ∧ x.toInt ≤ 1000000000 := by
              rw [x2]
              unfold rcZ
              have := hu p hp'
              have := zT_rng hg hp' hj
              split <;> omega
            have ex : (x - (w.1 288).getD j 0).toInt = rcZ (mdG (w.1 279)) (zA w 287) j p - vZ (mdG (w.1 279)) (zA w 287) j := by
              rw [ti_sub (by rw [v8]; omega) (by rw [v8]; omega), x2, v8]
            simp only [Mod_riseOf_b57, if_neg hcn, bit_at (show Q < 64 by omega) (show p < 6 by omega), k274, Option.bind_some, x1, bnd2_some, c274_24, a8, Mod_riseOf_j109, nI_1]
            by_cases hb : Q.testBit p = true
            · rw [if_pos (by rw [hb]; decide)]
              refine ⟨_, rfl, r', rfl, t1, t2, fun q hq hqb => ?_⟩
              by_cases hqp : q = p
              · subst hqp; rw [hb] at hqb; exact absurd hqb (by decide)
              · exact t3 q (by omega) hqb
            · have hb' : Q.testBit p = false := by simpa using hb
              rw [if_neg (by rw [hb']; decide)]
              have hpos : 1 ≤ rcZ (mdG (w.1 279)) (zA w 287) j p - vZ (mdG (w.1 279)) (zA w 287) j := by
                unfold rcZ
                by_cases hT : zT (mdG (w.1 279)) p j = -1
                · rw [if_pos hT]; omega
                · rw [if_neg hT]
                  have h4 := vZ_le (u := zA w 287) hp' hT
                  have h5 : zA w 287 p + zT (mdG (w.1 279)) p j ≠ vZ (mdG (w.1 279)) (zA w 287) j := fun h => by
                    have := nrIn_iff.mp hin p hp' (nrB_iff.mpr ⟨hT, h⟩)
                    exact hb this
                  omega
              by_cases hr : r' ≤ x - (w.1 288).getD j 0
              · rw [if_pos hr]
                rw [ti_le, ex] at hr
                refine ⟨_, rfl, r', rfl, t1, t2, fun q hq hqb => ?_⟩
                by_cases hqp : q = p
                · subst hqp; exact hr
                · exact t3 q (by omega) hqb
              · rw [if_neg hr]
                rw [ti_le, ex] at hr
                refine ⟨_, rfl, _, rfl, by rw [ex]; exact hpos, by rw [ex]; omega, fun q hq hqb => ?_⟩
                rw [ex]
                by_cases hqp : q = p
                · subst hqp; exact Int.le_refl _
                · have := t3 q (by omega) hqb; omega) (by
            rintro st ⟨r', rfl, h⟩
            exact ⟨(r', hp w), by simp only [Mod_riseOf_b57, if_pos (show (4 : Int32) ≤ nI 4 by decide)], r', rfl, h⟩)
          simp only [i2, Option.bind_some, Mod_riseOf_j115, nI_1]
          refine ⟨_, rfl, r', rfl, t1, by omega, fun s hs h0 hX => ?_⟩
          by_cases hsj : s = j
          · subst hsj
            exact ⟨hin, fun p hp' hXp => t3 p hp' hXp⟩
          · obtain ⟨k1, k2⟩ := h3 s (by omega) h0 hX
            exact ⟨k1, fun p hp' hXp => by have := k2 p hp' hXp; omega⟩
        · right
          rw [if_neg (fun h => hin ((near_sub hQ).mp h))]
          exact ⟨_, rfl, Or.inl ⟨_, _, rfl⟩⟩) (by
    rintro st ⟨r, rfl, h⟩
    exact ⟨Sum.inr (r, nI 6, hp w), by simp only [Mod_riseOf_b6, if_pos (show (6 : Int32) ≤ nI 6 by decide)], Or.inr ⟨r, rfl, h⟩⟩)
  rcases hq with ⟨a, b, rfl⟩ | ⟨r, rfl, h⟩
  · refine ⟨1, by simp only [Mod_riseOf, i1, Option.bind_some, Sum.elim_inl, Mod_riseOf_j52], by decide, by decide, fun s hs h0 hX => Or.inl rfl⟩
  · exact ⟨r, by simp only [Mod_riseOf, i1, Option.bind_some, Sum.elim_inr, Mod_riseOf_j121], h.1, h.2.1, okR_ok h⟩
