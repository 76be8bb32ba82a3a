/-! the greatest rates of sites by prices of plants -/
def vAcc (g : PD) (u : Nat → Int) (s : Nat) : Nat → Option Int
  | 0 => none
  | n + 1 => if zT g n s = -1 then vAcc g u s n else match vAcc g u s n with
    | none => some (u n + zT g n s)
    | some m => some (if u n + zT g n s < m then u n + zT g n s else m)
def vZ (g : PD) (u : Nat → Int) (s : Nat) : Int := (vAcc g u s 4).getD 0
def isMin (g : PD) (u : Nat → Int) (s n : Nat) (m : Int) : Prop := (∃ p, p < n ∧ zT g p s ≠ -1 ∧ m = u p + zT g p s) ∧ ∀ q, q < n → zT g q s ≠ -1 → m ≤ u q + zT g q s
theorem vAcc_spec {g : PD} {u : Nat → Int} {s : Nat} : ∀ n, match vAcc g u s n with
    | none => ∀ p, p < n → zT g p s = -1
    | some m => isMin g u s n m := by
  intro n
  induction n with
  | zero => intro p hp'; omega
  | succ n ih =>
    unfold vAcc
    by_cases h : zT g n s = -1
    · rw [if_pos h]
      revert ih
      cases vAcc g u s n with
      | none =>
        intro ih p hp'
        by_cases hpn : p = n
        · subst hpn; exact h
        · exact ih p (by omega)
      | some m =>
        rintro ⟨⟨p, h1, h2, h3⟩, h4⟩
        refine ⟨⟨p, by omega, h2, h3⟩, fun q hq hT => ?_⟩
        by_cases hqn : q = n
        · subst hqn; exact absurd h hT
        · exact h4 q (by omega) hT
    · rw [if_neg h]
      revert ih
      cases vAcc g u s n with
      | none =>
        intro ih
        refine ⟨⟨n, by omega, h, rfl⟩, fun q hq hT => ?_⟩
        by_cases hqn : q = n
        · subst hqn; exact Int.le_refl _
        · exact absurd (ih q (by omega)) hT
      | some m =>
        rintro ⟨⟨p, h1, h2, h3⟩, h4⟩
        show isMin g u s (n + 1) (if u n + zT g n s < m then u n + zT g n s else m)
        by_cases hlt : u n + zT g n s < m
        · rw [if_pos hlt]
          refine ⟨⟨n, by omega, h, rfl⟩, fun q hq hT => ?_⟩
          by_cases hqn : q = n
          · subst hqn; exact Int.le_refl _
          · have := h4 q (by omega) hT; omega
        · rw [if_neg hlt]
          refine ⟨⟨p, by omega, h2, h3⟩, fun q hq hT => ?_⟩
          by_cases hqn : q = n
          · subst hqn; omega
          · exact h4 q (by omega) hT
theorem vZ_spec (g : PD) (u : Nat → Int) (s : Nat) : ((∀ p, p < 4 → zT g p s = -1) ∧ vZ g u s = 0) ∨ isMin g u s 4 (vZ g u s) := by
  have h := vAcc_spec (g := g) (u := u) (s := s) 4
  unfold vZ
  revert h
  cases vAcc g u s 4 with
  | none => intro h; exact Or.inl ⟨h, rfl⟩
  | some m => intro h; exact Or.inr h
theorem vZ_of {g : PD} {u : Nat → Int} {s : Nat} {m : Int} (h : isMin g u s 4 m) : vZ g u s = m := by
  obtain ⟨⟨p, h1, h2, h3⟩, h4⟩ := h
  rcases vZ_spec g u s with ⟨k, _⟩ | ⟨⟨q, k1, k2, k3⟩, k4⟩
  · exact absurd (k p h1) h2
  · have a := k4 p h1 h2
    have b := h4 q k1 k2
    omega
theorem vZ_no {g : PD} {u : Nat → Int} {s : Nat} (h : ∀ p, p < 4 → zT g p s = -1) : vZ g u s = 0 := by
  rcases vZ_spec g u s with ⟨_, k⟩ | ⟨⟨q, k1, k2, k3⟩, k4⟩
  · exact k
  · exact absurd (h q k1) k2
theorem Frt_greatestRate_w {w : Wd} {s : Nat} (hw : WL w) (hg : wfP (pdW w 2)) (hs : s < 6) (hu : ∀ p, p < 4 → 0 ≤ zA w 30 p ∧ zA w 30 p ≤ 10000) : ∃ y, Frt_greatestRate 19 2 (nI s) (hp w) = some (y, hp w) ∧ y.toInt = vZ (pdW w 2) (zA w 30) s := by
  have hnp := hg.1.1
  have e0 : w.2 2 0 = nI (pNp (pdW w 2)) := hnp.1
  have L6 : (w.1 6).length = 24 := hg.2.1.2.2.2.1
  have L30 := l30 hw
  have M : (1000000 : Int32).toInt = 1000000 := rfl
  obtain ⟨q, i1, l, rfl, h⟩ := iter_I (body := Frt_greatestRate_b6 19 2 (nI s) (hp w)) (fun j st => ∃ l : Int32, st = (l, nI j) ∧ ((l.toInt = 1000000 ∧ ∀ p, p < j → zT (pdW w 2) p s = -1) ∨ (isMin (pdW w 2) (zA w 30) s j l.toInt ∧ l.toInt < 1000000 ∧ 0 ≤ l.toInt))) (fun q => ∃ l : Int32, q = (l, nI (pNp (pdW w 2))) ∧ ((l.toInt = 1000000 ∧ ∀ p, p < pNp (pdW w 2) → zT (pdW w 2) p s = -1) ∨ (isMin (pdW w 2) (zA w 30) s (pNp (pdW w 2)) l.toInt ∧ l.toInt < 1000000 ∧ 0 ≤ l.toInt))) (pNp (pdW w 2)) (s0 := (1000000, 0)) (by omega) ⟨1000000, rfl, Or.inl ⟨rfl, fun _ h => absurd h (by omega)⟩⟩ (by
    rintro j st hj ⟨l, rfl, h⟩
    left
    have hcn : ¬ nI (pNp (pdW w 2)) ≤ nI j := nI_ge hj (by omega)
    have hj4 : j < 4 := by omega
    have hT := zT_rng hg hj4 hs
    have hU := hu j hj4
    simp only [Frt_greatestRate_b6, c2_0, Option.bind_some, e0, if_neg hcn, c2_6, nI_m6]
    rw [ald_w (j := j * 6 + s) s6 rfl (by omega) (by omega)]
    simp only [Option.bind_some]
    have et : (w.1 6).getD (j * 6 + s) 0 = pToll (pdW w 2) j s := rfl
    rw [et]
    by_cases h1 : pToll (pdW w 2) j s = -1
    · rw [if_pos h1]
      simp only [Frt_greatestRate_j50, nI_1]
      have h1' := toll_m1.mp h1
      refine ⟨_, rfl, l, rfl, ?_⟩
      rcases h with ⟨a1, a2⟩ | ⟨⟨⟨p, a1, a2, a3⟩, a4⟩, a5, a6⟩
      · left
        refine ⟨a1, fun p hp' => ?_⟩
        by_cases hpj : p = j
        · subst hpj; exact h1'
        · exact a2 p (by omega)
      · right
        refine ⟨⟨⟨p, by omega, a2, a3⟩, fun q hq ht => ?_⟩, a5, a6⟩
        by_cases hpj : q = j
        · subst hpj; exact absurd h1' ht
        · exact a4 q (by omega) ht
    · rw [if_neg h1]
      have h1' : zT (pdW w 2) j s ≠ -1 := fun h => h1 (toll_m1.mpr h)
      simp only [c19_10, Option.bind_some]
      rw [ald_w (j := j) s30 rfl (by omega) (by omega)]
      simp only [Option.bind_some, Frt_greatestRate_j50, nI_1]
      have ea : ((w.1 30).getD j 0 + pToll (pdW w 2) j s).toInt = zA w 30 j + zT (pdW w 2) j s := by
        unfold zA zT at *
        rw [ti_add (by omega) (by omega)]
      refine ⟨_, rfl, _, rfl, ?_⟩
      right
      by_cases h2 : (w.1 30).getD j 0 + pToll (pdW w 2) j s < l
      · rw [if_pos h2]
        rw [ti_lt, ea] at h2
        rw [ea]
        refine ⟨⟨⟨j, by omega, h1', rfl⟩, fun q hq ht => ?_⟩, by omega, by omega⟩
        by_cases hpj : q = j
        · subst hpj; exact Int.le_refl _
        · rcases h with ⟨a1, a2⟩ | ⟨⟨_, a4⟩, a5, a6⟩
          · exact absurd (a2 q (by omega)) ht
          · have := a4 q (by omega) ht; omega
      · rw [if_neg h2]
        rw [ti_lt, ea] at h2
        rcases h with ⟨a1, a2⟩ | ⟨⟨⟨p, a1, a2, a3⟩, a4⟩, a5, a6⟩
        · omega
        · refine ⟨⟨⟨p, by omega, a2, a3⟩, fun q hq ht => ?_⟩, a5, a6⟩
          by_cases hpj : q = j
          · subst hpj; omega
          · exact a4 q (by omega) ht) (by
    rintro st ⟨l, rfl, h⟩
    exact ⟨(l, nI (pNp (pdW w 2))), by simp only [Frt_greatestRate_b6, c2_0, Option.bind_some, e0, if_pos (nI_le (Nat.le_refl _) (show pNp (pdW w 2) < 2 ^ 31 by omega))], l, rfl, h⟩)
  simp only [Frt_greatestRate, i1, Option.bind_some, Frt_greatestRate_j56]
  rcases h with ⟨a1, a2⟩ | ⟨⟨⟨p, a1, a2, a3⟩, a4⟩, a5, a6⟩
  · have : l = 1000000 := ti_eq.mpr a1
    refine ⟨0, by rw [if_neg (fun h => h this)]; rfl, ?_⟩
    rw [vZ_no]
    · rfl
    · intro p hp'
      by_cases h : p < pNp (pdW w 2)
      · exact a2 p h
      · exact zT_out hg hp' hs (Or.inl (by omega))
  · have : ¬ l = 1000000 := fun h => by rw [h, M] at a5; omega
    refine ⟨l, by rw [if_pos this]; rfl, ?_⟩
    symm
    refine vZ_of ⟨⟨p, by omega, a2, a3⟩, fun q hq ht => a4 q ?_ ht⟩
    apply Decidable.byContradiction
    intro hn
    exact ht (zT_out hg hq hs (Or.inl (by omega)))
/-- what finding the point leaves: w is the world after a case was served -/
theorem Frt_findPoint_w {w : Wd} {π : Nat → Int} (hw : WL w) (hg : wfP (pdW w 2)) (hπ : ∀ x s, x < 4 → s < 6 → 0 < fl w x s → tight (pdW w 2) π x s) (h30 : ∀ p, p < 4 → zA w 30 p = 0) (h31 : ∀ s, s < 6 → zA w 31 s = 0) : ∃ w', Frt_findPoint 19 2 (hp w) = some ((), hp w') ∧ WL w' ∧ Fr w w' 26 32 ∧ (∀ p, p < 4 → 0 ≤ zA w' 30 p ∧ zA w' 30 p ≤ 297) ∧ (∀ x s, x < 4 → s < 6 → 0 < fl w x s → tight (pdW w 2) (zA w' 30) x s) ∧ (∀ π' : Nat → Int, (∀ p, p < 4 → 0 ≤ π' p) → (∀ x s, x < 4 → s < 6 → 0 < fl w x s → tight (pdW w 2) π' x s) → ∀ p, p < 4 → zA w' 30 p ≤ π' p) ∧ (∀ s, s < 6 → zA w' 31 s = vZ (pdW w 2) (zA w' 30) s) := by
  have hns := hg.1.2.1
  obtain ⟨V, s1, s3, s4, s5, s6⟩ := Frt_findSwaps_w hw hg
  have egV : pdW V 2 = pdW w 2 := pd_fr s4 (by omega)
  have hTe : ∀ x t, x < 4 → t < 6 → 0 < fl w x t → zT (pdW w 2) x t ≠ -1 := fun x t hx ht' h => (hπ x t hx ht' h).1
  have s5' : ∀ x t q, x < 4 → t < 6 → q < 4 → q ≠ x → 0 < fl w x t → zT (pdW w 2) q t ≠ -1 → cT V x q ≤ zT (pdW w 2) q t - zT (pdW w 2) x t := by
    intro x t q hx ht' hq hne hf hT
    have hTx := hTe x t hx ht' hf
    refine s5 x t q hx ht' hq ⟨?_, ?_⟩ hne hf hT
    · apply Decidable.byContradiction
      intro hn
      exact hTx (zT_out hg hx ht' (Or.inl (by omega)))
    · apply Decidable.byContradiction
      intro hn
      exact hTx (zT_out hg hx ht' (Or.inr (by omega)))
  have s6' : ∀ q x, q < 4 → x < 4 → cT V x q < 1000000 → ∃ t, t < 6 ∧ q ≠ x ∧ 0 < fl w x t ∧ zT (pdW w 2) q t ≠ -1 ∧ cT V x q = zT (pdW w 2) q t - zT (pdW w 2) x t := by
    intro q x hq hx hd
    rcases s6 q x hq hx with h | ⟨t, h1, h2, h3, h4, h5, h6⟩
    · exfalso
      unfold cT at hd
      omega
    · exact ⟨t, h1, h2, h3, h4, h5⟩
  have pot : ∀ π' : Nat → Int, (∀ x s, x < 4 → s < 6 → 0 < fl w x s → tight (pdW w 2) π' x s) → ptOk V (fun p => -π' p) := by
    intro π' ht x q hx hq hd
    obtain ⟨t, t1, t2, t3, t4, t5⟩ := s6' q x hq hx hd
    have a := (ht x t hx t1 t3).2 q hq t4
    have b := zT_rng hg hq t1
    have c := zT_rng hg hx t1
    have d := hTe x t hx t1 t3
    show -π' q ≤ -π' x + cT V x q ∧ _
    omega
  have hI : ptI V V := by
    refine ⟨s3, Fr.rfl', fun p hp' => ?_⟩
    have e : zA V 30 p = 0 := by rw [zA_fr s4 (by omega)]; exact h30 p hp'
    rw [e]
    exact ⟨Int.le_refl _, 0, trivial, by omega⟩
  obtain ⟨U, m, k, r1, r2, r3⟩ := pt_rounds (pot π hπ) hI (by
    rintro p x hp' ⟨_, rfl⟩
    have e : zA V 30 p = 0 := by rw [zA_fr s4 (by omega)]; exact h30 p hp'
    omega)
  have hbd : ∀ p, p < 4 → 0 ≤ zA U 30 p ∧ zA U 30 p ≤ 297 := fun p hp' => ⟨(r2.2.2 p hp').1, pt_bd (pot π hπ) r2 hp'⟩
  have egU : pdW U 2 = pdW w 2 := by rw [pd_fr r2.2.1 (by omega), egV]
  have eU31 : ∀ s, zA U 31 s = zA w 31 s := fun s => by rw [zA_fr r2.2.1 (by omega), zA_fr s4 (by omega)]
  obtain ⟨q, i1, W, rfl, hW, hF, hv⟩ := iter_I (body := Frt_findPoint_b118 19 2 m) (fun j st => ∃ W, st = (nI j, hp W) ∧ WL W ∧ Fr U W 31 32 ∧ ∀ s, s < 6 → zA W 31 s = if s < j then vZ (pdW w 2) (zA U 30) s else 0) (fun r => ∃ W, r = (nI (pNs (pdW w 2)), hp W) ∧ WL W ∧ Fr U W 31 32 ∧ ∀ s, s < 6 → zA W 31 s = if s < pNs (pdW w 2) then vZ (pdW w 2) (zA U 30) s else 0) (pNs (pdW w 2)) (s0 := (0, hp U)) (by omega) ⟨U, rfl, r2.1, Fr.rfl', fun s hs => by rw [if_neg (by omega), eU31]; exact h31 s hs⟩ (by
    rintro j st hj ⟨W, rfl, hW, hF, hv⟩
    left
    have hcn : ¬ nI (pNs (pdW w 2)) ≤ nI j := nI_ge hj (by omega)
    have egW : pdW W 2 = pdW w 2 := by rw [pd_fr hF (by omega), egU]
    have e1 : W.2 2 1 = nI (pNs (pdW w 2)) := by
      have : (pdW W 2).2.1 = (pdW w 2).2.1 := by rw [egW]
      exact this.trans hns.1
    have e30 : zA W 30 = zA U 30 := by funext p; exact zA_fr hF (by omega)
    have L31 := l31 hW
    obtain ⟨y, y1, y2⟩ := Frt_greatestRate_w hW (by rw [egW]; exact hg) (show j < 6 by omega) (fun p hp' => by rw [e30]; have := hbd p hp'; omega)
    rw [egW, e30] at y2
    simp only [Frt_findPoint_b118, c2_1, Option.bind_some, e1, if_neg hcn, c19_11, k19, y1, bnd2_some]
    rw [ast_w (j := j) s31 rfl (by omega) (by omega)]
    simp only [Option.bind_some, nI_1]
    refine ⟨_, rfl, _, rfl, hW.S, Fr.cA hF (by omega) (by omega), ?_⟩
    intro s hs
    unfold zA
    rw [wA_s, gD_set]
    by_cases h : j = s
    · subst h
      rw [if_pos ⟨rfl, by omega⟩, if_pos (by omega)]
      exact y2
    · rw [if_neg (fun h' => h h'.1)]
      have := hv s hs
      unfold zA at this
      rw [this]
      by_cases h2 : s < j
      · rw [if_pos h2, if_pos (by omega)]
      · rw [if_neg h2, if_neg (by omega)]) (by
    rintro st ⟨W, rfl, hW, hF, hv⟩
    have egW : pdW W 2 = pdW w 2 := by rw [pd_fr hF (by omega), egU]
    have e1 : W.2 2 1 = nI (pNs (pdW w 2)) := by
      have : (pdW W 2).2.1 = (pdW w 2).2.1 := by rw [egW]
      exact this.trans hns.1
    exact ⟨(nI (pNs (pdW w 2)), hp W), by simp only [Frt_findPoint_b118, c2_1, Option.bind_some, e1, if_pos (nI_le (Nat.le_refl _) (show pNs (pdW w 2) < 2 ^ 31 by omega))], W, rfl, hW, hF, hv⟩)
  have e30 : zA W 30 = zA U 30 := by funext p; exact zA_fr hF (by omega)
  refine ⟨W, ?_, hW, ?_, ?_, ?_, ?_, ?_⟩
  · simp only [Frt_findPoint, k19, Option.bind_some, s1, bnd2_some, r1, Frt_findPoint_j116, i1, Frt_findPoint_j144]
  · exact ((s4.mono (by omega) (by omega)).tr (r2.2.1.mono (by omega) (by omega))).tr (hF.mono (by omega) (by omega))
  · rw [e30]; exact hbd
  · intro x s hx hs hf
    rw [e30]
    refine ⟨hTe x s hx hs hf, fun q hq hT => ?_⟩
    by_cases hqx : q = x
    · subst hqx; exact Int.le_refl _
    · have a := s5' x s q hx hs hq hqx hf hT
      have b := zT_rng hg hq hs
      have c := zT_rng hg hx hs
      have e := r3 x q hx hq (by omega)
      omega
  · intro π' h0 ht p hp'
    rw [e30]
    obtain ⟨i, hi⟩ := (r2.2.2 p hp').2
    have := Wk_lb (π := fun p => -π' p) (fun p hp' _ => by have := h0 p hp'; show -π' p ≤ 0; omega) (fun q p h1 h2 h3 => (pot π' ht q p h1 h2 h3).1) i p _ hp' hi
    have h : -π' p ≤ -zA U 30 p := this
    omega
  · intro s hs
    rw [hv s hs, e30]
    by_cases h : s < pNs (pdW w 2)
    · rw [if_pos h]
    · rw [if_neg h, vZ_no]
      intro p hp'
      exact zT_out hg hp' hs (Or.inr (by omega))
