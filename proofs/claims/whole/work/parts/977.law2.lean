/-! calls that only ask, the plain ones -/
def lawJ (w : Wd) (st : ST) (tm : List Int32) (x : Nat) (hi : List (ST × Int32)) (im : Nat → Option (ST × List Int32)) (rf : Nat → Int32) (ss : Int32) (tp : List Int32) (ft : Int32) : Prop := vA st tm x hi im ∧ clsI w st tm x hi im rf ss tp ft ∧ refI w st tm x hi im rf ss tp ft
def lawI (w : Wd) : Prop := ∃ st tm x hi im rf ss tp ft, lawJ w st tm x hi im rf ss tp ft
def callOk {α : Type} (w : Wd) (C R : AHeap → Option (α × AHeap)) : Prop := ∃ y w1 w2, C (hp w) = some (y, hp w1) ∧ R (hp w1) = some (y, hp w2) ∧ lawI w2
theorem law_step {α : Type} {w : Wd} {st st' : ST} {tm tm' : List Int32} {x x' : Nat} {hi hi' : List (ST × Int32)} {im im' : Nat → Option (ST × List Int32)} {rf rf' : Nat → Int32} {ss ss' : Int32} {tp tp' : List Int32} {ft ft' : Int32} {y : α} {C R : AHeap → Option (α × AHeap)} (h : lawJ w st tm x hi im rf ss tp ft) (hC : ∃ w1, C (hp w) = some (y, hp w1) ∧ clsI w1 st' tm' x' hi' im' rf' ss' tp' ft' ∧ Fr w w1 0 274) (hR : ∀ w1, refI w1 st tm x hi im rf ss tp ft → ∃ w2, R (hp w1) = some (y, hp w2) ∧ refI w2 st' tm' x' hi' im' rf' ss' tp' ft' ∧ Fr w1 w2 274 292) (hv : vA st' tm' x' hi' im') : callOk w C R := by
  obtain ⟨w1, c1, c2, c3⟩ := hC
  obtain ⟨w2, r1, r2, r3⟩ := hR w1 (refI_fr h.2.2 c2.1 c3)
  exact ⟨y, w1, w2, c1, r1, _, _, _, _, _, _, _, _, _, hv, clsI_fr c2 r2.1 r3, r2⟩
theorem law_ro {α : Type} {w : Wd} {st : ST} {tm : List Int32} {x : Nat} {hi : List (ST × Int32)} {im : Nat → Option (ST × List Int32)} {rf : Nat → Int32} {ss : Int32} {tp : List Int32} {ft : Int32} {y : α} {C R : AHeap → Option (α × AHeap)} (h : lawJ w st tm x hi im rf ss tp ft) (hC : ∃ w1, C (hp w) = some (y, hp w1) ∧ WL w1 ∧ Fr w w1 17 40 ∧ bkOk w1 st.1 ∧ (w1.2 33 0 = 1 ∨ (w1.2 33 0 = 0 ∧ bdA w1 st.1 st.2.1))) (hR : ∀ w1, refI w1 st tm x hi im rf ss tp ft → ∃ w2, R (hp w1) = some (y, hp w2) ∧ WL w2 ∧ frM w1 w2) : callOk w C R := by
  obtain ⟨w1, c1, c2, c3, c4, c5⟩ := hC
  refine law_step h ⟨w1, c1, clsI_E h.2.1 c2 c3 c4 c5, c3.mono (by omega) (by omega)⟩ (fun w1 hr => ?_) h.1
  obtain ⟨w2, r1, r2, r3⟩ := hR w1 hr
  exact ⟨w2, r1, refI_M hr r2 r3, fun i hi => r3.1 i (by omega) (by omega) (by omega) (by omega)⟩
theorem frM.rfl' {w : Wd} : frM w w := ⟨fun _ _ _ _ _ => ⟨rfl, rfl⟩, fun _ _ _ _ _ _ _ _ => rfl⟩
theorem law_pp {α : Type} {w : Wd} {st : ST} {tm : List Int32} {x : Nat} {hi : List (ST × Int32)} {im : Nat → Option (ST × List Int32)} {rf : Nat → Int32} {ss : Int32} {tp : List Int32} {ft : Int32} {y : α} {C R : AHeap → Option (α × AHeap)} (h : lawJ w st tm x hi im rf ss tp ft) (hC : C (hp w) = some (y, hp w)) (hR : ∀ w1, refI w1 st tm x hi im rf ss tp ft → R (hp w1) = some (y, hp w1)) : callOk w C R := law_ro h ⟨w, hC, h.2.1.1, Fr.rfl', h.2.1.2.1.2.2.1, h.2.1.2.1.2.2.2.1⟩ (fun w1 hr => ⟨w1, hR w1 hr, hr.1, frM.rfl'⟩)
theorem i32_nat {i : Int32} (h : 0 ≤ i.toInt) : ∃ k, k < 2 ^ 31 ∧ i = nI k ∧ i.toInt = k := by
  have hlt := Int32.toInt_lt i
  refine ⟨i.toInt.toNat, by omega, ?_, by omega⟩
  rw [ti_eq, nI_toInt (by omega)]
  omega
theorem has_iff {N : Nat} (hN : N ≤ 1000) {i : Int32} : hasN (nI N) i = true ↔ ∃ k, k < N ∧ i = nI k := by
  unfold hasN
  rw [decide_eq_true_iff, ti_lt, ti_le, ti_0, nI_toInt (by omega)]
  constructor
  · rintro ⟨h1, h2⟩
    obtain ⟨k, hk, h3, h4⟩ := i32_nat (i := i) (by omega)
    exact ⟨k, by omega, h3⟩
  · rintro ⟨k, hk, rfl⟩
    rw [nI_toInt (by omega)]
    omega
theorem isIn_iff {v lo hi : Int32} : isInP v lo hi = true ↔ lo.toInt ≤ v.toInt ∧ v.toInt ≤ hi.toInt := by
  unfold isInP
  rw [decide_eq_true_iff, ti_lt, ti_lt]
  omega
theorem b2i_t {b : Bool} (h : b = true) : b2i b = 1 := by rw [h]; rfl
theorem b2i_f {b : Bool} (h : ¬ b = true) : b2i b = 0 := by
  have : b = false := by simpa using h
  rw [this]; rfl
section Rd
variable {w : Wd} {st : ST} {tm : List Int32} {x : Nat} {hi : List (ST × Int32)} {im : Nat → Option (ST × List Int32)} {rf : Nat → Int32} {ss : Int32} {tp : List Int32} {ft : Int32}
theorem J_pd (h : clsI w st tm x hi im rf ss tp ft) : pdW w 2 = st.1 ∧ cutsW w 9 = st.2.1 ∧ srW w 15 = st.2.2 := by
  have := h.2.1.2.1
  rw [← this]
  exact ⟨rfl, rfl, rfl⟩
theorem J_md (h : refI w st tm x hi im rf ss tp ft) (hv : vA st tm x hi im) : mdG (w.1 279) = st.1 ∧ mdC (w.1 279) = st.2.1 ∧ mdS (w.1 279) = st.2.2 ∧ mdOk (w.1 279) := ⟨h.2.1.1, h.2.1.2.1, h.2.1.2.2.1, h.2.1.ok hv.1.1 hv.1.2.1⟩
theorem call_status (h : lawJ w st tm x hi im rf ss tp ft) : callOk w (Sp_status 0) (Mod_status 274) := law_pp (y := ss) h (by simp only [Sp_status, c0_13, Option.bind_some, h.2.1.2.2.2.2.2.1.2]) (fun w1 hr => by simp only [Mod_status, c274_0, Option.bind_some, hr.2.2.2.2.2.2.1.2])
theorem call_fault (h : lawJ w st tm x hi im rf ss tp ft) : callOk w (Sp_fault 0) (Mod_fault 274) := law_pp (y := ft) h (by simp only [Sp_fault, c0_3, c40_2, Option.bind_some, h.2.1.2.2.2.2.2.2.2.2.2]) (fun w1 hr => by simp only [Mod_fault, c274_10, Option.bind_some, hr.2.2.2.2.2.2.2.2.2])
def ofP (g : PD) (p what : Int32) : Int32 := if hasN g.1 p = true then (if isInP what 0 2 = true then plantVal g p.toNatClampNeg what else if isInP what 3 (2 + g.2.1) = true then pToll g p.toNatClampNeg (what - 3).toNatClampNeg else -1) else -1
theorem call_of (h : lawJ w st tm x hi im rf ss tp ft) (a b : Int32) : callOk w (Sp_of 0 a b) (Mod_of 274 a b) := by
  obtain ⟨hg, hc, hs⟩ := J_pd h.2.1
  have hgv : wfP (pdW w 2) := by rw [hg]; exact h.1.1.1
  have hw := h.2.1.1
  have e0 : st.1.1 = nI (pNp st.1) := h.1.1.1.1.1.1
  have e1 : st.1.2.1 = nI (pNs st.1) := h.1.1.1.1.2.1.1
  have n0 := h.1.1.1.1.1.2
  have n1 := h.1.1.1.1.2.1.2
  have c0 : w.2 2 0 = st.1.1 := by rw [← hg]; rfl
  have c1 : w.2 2 1 = st.1.2.1 := by rw [← hg]; rfl
  have t2 : (2 : Int32).toInt = 2 := rfl
  have t3 : (3 : Int32).toInt = 3 := rfl
  refine law_pp (y := ofP st.1 a b) h ?_ (fun w1 hr => ?_)
  · unfold ofP
    simp only [Sp_of, c0_0, c1_0, k2, Option.bind_some, Prog_hasPlant_w isPg_2, bnd2_some, c0]
    by_cases hp1 : hasN st.1.1 a = true
    · rw [b2i_t hp1, if_pos (by decide), if_pos hp1]
      rw [e0, has_iff (by omega)] at hp1
      obtain ⟨p, hp', rfl⟩ := hp1
      rw [nI_clamp (by omega)]
      have j34 : ¬ isInP b 0 2 = true → Sp_of_j34 0 (nI p) b 2 (hp w) = some (if isInP b 3 (2 + st.1.2.1) = true then pToll st.1 p (b - 3).toNatClampNeg else -1, hp w) := by
        intro hn
        simp only [Sp_of_j34, Sp_of_j49, k2, Option.bind_some, Prog_hasSite_w isPg_2, bnd2_some, c1, c2_6]
        by_cases hb3 : b < 3
        · rw [if_pos hb3, if_neg]
          rw [isIn_iff, t3]
          rw [ti_lt, t3] at hb3
          omega
        · rw [if_neg hb3]
          rw [ti_lt, t3] at hb3
          obtain ⟨k, hk, rfl, hk2⟩ := i32_nat (i := b) (by omega)
          have ek : nI k - 3 = nI (k - 3) := by
            rw [ti_eq, ti_sub (by rw [nI_toInt (by omega), t3]; omega) (by rw [nI_toInt (by omega), t3]; omega), nI_toInt (by omega), nI_toInt (by omega), t3]; omega
          rw [ek, nI_clamp (by omega)]
          have hiff : isInP (nI k) 3 (2 + st.1.2.1) = true ↔ k - 3 < pNs st.1 := by
            rw [isIn_iff, e1, show (2 : Int32) + nI (pNs st.1) = nI (2 + pNs st.1) from nI_add 2 _, nI_toInt (by omega), nI_toInt (by omega), t3]
            omega
          have hiff2 : hasN st.1.2.1 (nI (k - 3)) = true ↔ k - 3 < pNs st.1 := by
            rw [e1, has_iff (by omega)]
            constructor
            · rintro ⟨j, hj, he⟩
              have := (nI_eq (by omega) (by omega)).mp he
              omega
            · intro hj; exact ⟨k - 3, hj, rfl⟩
          by_cases hs1 : k - 3 < pNs st.1
          · rw [b2i_t (hiff2.mpr hs1), if_pos (by decide), if_pos (hiff.mpr hs1)]
            have ea : nI p * 6 + nI k - 3 = nI (p * 6 + (k - 3)) := by
              rw [nI_m6]
              rw [ti_eq, ti_sub (by rw [nI_toInt (by omega), t3]; omega) (by rw [nI_toInt (by omega), t3]; omega), nI_toInt (by omega), nI_toInt (by omega), t3]; omega
            rw [ea, ald_w (j := p * 6 + (k - 3)) s6 rfl (by rw [l6 hw]; omega) (by omega)]
            rw [← hg]
            rfl
          · rw [b2i_f (fun h => hs1 (hiff2.mp h)), if_neg (by decide), if_neg (fun h => hs1 (hiff.mp h))]
      by_cases hb : isInP b 0 2 = true
      · rw [if_pos hb]
        have hb' := isIn_iff.mp hb
        rw [ti_0, t2] at hb'
        rw [if_neg (by rw [ti_lt, ti_0]; omega), if_neg (by rw [ti_lt, t2]; omega), Prog_plantValue_w isPg_2 hgv (by omega), hg]
        simp only [bnd2_some]
      · rw [if_neg hb]
        by_cases h1 : b < 0
        · rw [if_pos h1]; exact j34 hb
        · rw [if_neg h1]
          by_cases h2 : 2 < b
          · rw [if_pos h2]; exact j34 hb
          · exfalso
            apply hb
            rw [isIn_iff, ti_0, t2]
            rw [ti_lt, ti_0] at h1
            rw [ti_lt, t2] at h2
            omega
    · rw [b2i_f hp1, if_neg (by decide), if_neg hp1]
  · obtain ⟨mg, mc, ms, mo⟩ := J_md hr h.1
    have hw1 := hr.1
    have d0 : (w1.1 279).getD 0 0 = st.1.1 := by rw [← mg]; rfl
    have d1 : (w1.1 279).getD 1 0 = st.1.2.1 := by rw [← mg]; rfl
    have a1 : ald 0 (hp w1) 279 1 = some st.1.2.1 := by rw [ldN hw1 (i := 1) (j := 1) rfl (by omega), d1]
    unfold ofP
    simp only [Mod_of, k274, Option.bind_some, Mod_isPlant_w hw1 mo.1, bnd2_some, d0, Mod_isIn_w, c274_5, a1, Mod_of_j61]
    by_cases hp1 : hasN st.1.1 a = true
    · rw [b2i_t hp1, if_pos (by decide), if_pos hp1]
      rw [e0, has_iff (by omega)] at hp1
      obtain ⟨p, hp', rfl⟩ := hp1
      rw [nI_clamp (by omega)]
      by_cases hb : isInP b 0 2 = true
      · rw [b2i_t hb, if_neg (by decide), if_pos hb]
        have hb' := isIn_iff.mp hb
        rw [ti_0, t2] at hb'
        obtain ⟨k, hk, rfl, hk2⟩ := i32_nat (i := b) (by omega)
        have a2 : ald 0 (hp w1) 279 (11 + 4 * nI k + nI p) = some ((w1.1 279).getD (11 + 4 * k + p) 0) := ldN hw1 (nI_abc 11 4 k p) (by omega)
        rw [a2]
        simp only [Option.bind_some]
        have : k = 0 ∨ k = 1 ∨ k = 2 := by omega
        rw [← mg]
        unfold plantVal
        rcases this with rfl | rfl | rfl
        · rw [if_pos (show nI 0 = 0 from rfl), m_fee (by omega)]
        · rw [if_neg (by decide), if_pos (show nI 1 = 1 from rfl), m_size (by omega)]
        · rw [if_neg (by decide), if_neg (by decide), m_most (by omega)]
      · rw [b2i_f hb, if_pos (by decide), if_neg hb]
        by_cases hb2 : isInP b 3 (2 + st.1.2.1) = true
        · rw [b2i_t hb2, if_neg (by decide), if_pos hb2]
          have hb' := isIn_iff.mp hb2
          rw [t3, e1, show (2 : Int32) + nI (pNs st.1) = nI (2 + pNs st.1) from nI_add 2 _, nI_toInt (by omega)] at hb'
          obtain ⟨k, hk, rfl, hk2⟩ := i32_nat (i := b) (by omega)
          have ek : nI k - 3 = nI (k - 3) := by
            rw [ti_eq, ti_sub (by rw [nI_toInt (by omega), t3]; omega) (by rw [nI_toInt (by omega), t3]; omega), nI_toInt (by omega), nI_toInt (by omega), t3]; omega
          rw [ek, nI_clamp (by omega), Mod_toll_w hw1 (by omega) (by omega), mg]
          simp only [bnd2_some]
        · rw [b2i_f hb2, if_pos (by decide), if_neg hb2]
    · rw [b2i_f hp1, if_neg (by decide), if_neg hp1]
def toldP (g : PD) (c what : Int32) : Int32 := if hasN g.2.2.1 c = true then (if what = 0 then pWt g c.toNatClampNeg else if isInP what 1 g.2.1 = true then pNeed g c.toNatClampNeg (what - 1).toNatClampNeg else -1) else -1
theorem call_told (h : lawJ w st tm x hi im rf ss tp ft) (a b : Int32) : callOk w (Sp_told 0 a b) (Mod_told 274 a b) := by
  obtain ⟨hg, hc, hs⟩ := J_pd h.2.1
  have hw := h.2.1.1
  have e2 : st.1.2.2.1 = nI (pNc st.1) := h.1.1.1.1.2.2.1
  have e1 : st.1.2.1 = nI (pNs st.1) := h.1.1.1.1.2.1.1
  have n2 := h.1.1.1.1.2.2.2
  have n1 := h.1.1.1.1.2.1.2
  have c2 : w.2 2 2 = st.1.2.2.1 := by rw [← hg]; rfl
  have c1 : w.2 2 1 = st.1.2.1 := by rw [← hg]; rfl
  have t1 : (1 : Int32).toInt = 1 := rfl
  refine law_pp (y := toldP st.1 a b) h ?_ (fun w1 hr => ?_)
  · unfold toldP
    simp only [Sp_told, c0_0, c1_0, k2, Option.bind_some, Prog_hasCase_w isPg_2, bnd2_some, c2, c1, Prog_hasSite_w isPg_2, Sp_told_j44, c2_8, c2_7]
    by_cases hp1 : hasN st.1.2.2.1 a = true
    · rw [b2i_t hp1, if_pos (by decide), if_pos hp1]
      rw [e2, has_iff (by omega)] at hp1
      obtain ⟨p, hp', rfl⟩ := hp1
      rw [nI_clamp (by omega)]
      by_cases hb0 : b = 0
      · rw [if_neg (fun h => h hb0), if_pos hb0, ald_w (j := p) s7 rfl (by rw [l7 hw]; omega) (by omega), ← hg]
        rfl
      · rw [if_pos hb0, if_neg hb0]
        by_cases hb3 : b < 1
        · rw [if_pos hb3, if_neg]
          rw [isIn_iff, t1]
          rw [ti_lt, t1] at hb3
          omega
        · rw [if_neg hb3]
          rw [ti_lt, t1] at hb3
          obtain ⟨k, hk, rfl, hk2⟩ := i32_nat (i := b) (by omega)
          have ek : nI k - 1 = nI (k - 1) := by
            rw [ti_eq, ti_sub (by rw [nI_toInt (by omega), t1]; omega) (by rw [nI_toInt (by omega), t1]; omega), nI_toInt (by omega), nI_toInt (by omega), t1]; omega
          rw [ek, nI_clamp (by omega)]
          have hiff : isInP (nI k) 1 st.1.2.1 = true ↔ k - 1 < pNs st.1 := by
            rw [isIn_iff, e1, nI_toInt (by omega), nI_toInt (by omega), t1]
            omega
          have hiff2 : hasN st.1.2.1 (nI (k - 1)) = true ↔ k - 1 < pNs st.1 := by
            rw [e1, has_iff (by omega)]
            constructor
            · rintro ⟨j, hj, he⟩
              have := (nI_eq (by omega) (by omega)).mp he
              omega
            · intro hj; exact ⟨k - 1, hj, rfl⟩
          by_cases hs1 : k - 1 < pNs st.1
          · rw [b2i_t (hiff2.mpr hs1), if_pos (by decide), if_pos (hiff.mpr hs1)]
            have ea : nI p * 6 + nI k - 1 = nI (p * 6 + (k - 1)) := by
              rw [nI_m6]
              rw [ti_eq, ti_sub (by rw [nI_toInt (by omega), t1]; omega) (by rw [nI_toInt (by omega), t1]; omega), nI_toInt (by omega), nI_toInt (by omega), t1]; omega
            rw [ea, ald_w (j := p * 6 + (k - 1)) s8 rfl (by rw [l8 hw]; omega) (by omega)]
            rw [← hg]
            rfl
          · rw [b2i_f (fun h => hs1 (hiff2.mp h)), if_neg (by decide), if_neg (fun h => hs1 (hiff.mp h))]
    · rw [b2i_f hp1, if_neg (by decide), if_neg hp1]
  · obtain ⟨mg, mc, ms, mo⟩ := J_md hr h.1
    have hw1 := hr.1
    have d2 : (w1.1 279).getD 2 0 = st.1.2.2.1 := by rw [← mg]; rfl
    have d1 : (w1.1 279).getD 1 0 = st.1.2.1 := by rw [← mg]; rfl
    have a1 : ald 0 (hp w1) 279 1 = some st.1.2.1 := by rw [ldN hw1 (i := 1) (j := 1) rfl (by omega), d1]
    unfold toldP
    simp only [Mod_told, k274, Option.bind_some, Mod_isCase_w hw1 mo.1, bnd2_some, d2, Mod_isIn_w, c274_5, a1, Mod_told_j50]
    by_cases hp1 : hasN st.1.2.2.1 a = true
    · rw [b2i_t hp1, if_pos (by decide), if_pos hp1]
      rw [e2, has_iff (by omega)] at hp1
      obtain ⟨p, hp', rfl⟩ := hp1
      rw [nI_clamp (by omega)]
      by_cases hb0 : b = 0
      · rw [if_neg (fun h => h hb0), if_pos hb0]
        have a2 : ald 0 (hp w1) 279 (47 + nI p) = some ((w1.1 279).getD (47 + p) 0) := ldN hw1 (nI_add 47 p) (by omega)
        rw [a2, ← mg, m_wt (by omega)]
        rfl
      · rw [if_pos hb0, if_neg hb0]
        by_cases hb2 : isInP b 1 st.1.2.1 = true
        · rw [b2i_t hb2, if_neg (by decide), if_pos hb2]
          have hb' := isIn_iff.mp hb2
          rw [t1, e1, nI_toInt (by omega)] at hb'
          obtain ⟨k, hk, rfl, hk2⟩ := i32_nat (i := b) (by omega)
          have ek : nI k - 1 = nI (k - 1) := by
            rw [ti_eq, ti_sub (by rw [nI_toInt (by omega), t1]; omega) (by rw [nI_toInt (by omega), t1]; omega), nI_toInt (by omega), nI_toInt (by omega), t1]; omega
          rw [ek, nI_clamp (by omega), Mod_needOf_w hw1 (by omega) (by omega), mg]
          simp only [bnd2_some]
        · rw [b2i_f hb2, if_pos (by decide), if_neg hb2]
    · rw [b2i_f hp1, if_neg (by decide), if_neg hp1]
end Rd
