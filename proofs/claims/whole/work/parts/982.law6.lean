/-! calls that only ask: mean, regret -/
theorem fees_tot {g : PD} (hg : wfP g) {n : Nat} (hn : n < 256) : ∀ k, k ≤ pNc g → (∀ c, c < k → lackP g c (nI n) ≤ 0) → (feesP g (nI n)).toInt ≤ (totN g (nI n) k).toInt := by
  have hnc := hg.1.2.2.2
  intro k
  induction k with
  | zero => intro _ _; exact Int.le_refl _
  | succ k ih =>
    intro hk hl
    have h0 := ih (by omega) (fun c hc => hl c (by omega))
    have h1 := tot_rng hg hn k (by omega) (fun c hc => hl c (by omega))
    have hp' := priceR_ex hg (show k < 4 by omega) hn
    have h2 := priceR_rng hp' (hl k (by omega))
    have h3 := wt_rng hg (show k < pNc g by omega)
    have h4 := mul_rng (show 0 ≤ (pWt g k).toInt by omega) h3.2 h2.1 h2.2
    have e : (pWt g k * priceP g k (nI n)).toInt = (pWt g k).toInt * (priceP g k (nI n)).toInt := ti_mul (by omega) (by omega)
    have e2 : (totN g (nI n) (k + 1)).toInt = (totN g (nI n) k).toInt + (pWt g k).toInt * (priceP g k (nI n)).toInt := by
      show (totN g (nI n) k + pWt g k * priceP g k (nI n)).toInt = _
      rw [ti_add (by rw [e]; omega) (by rw [e]; omega), e]
    omega
theorem sumW_rng {g : PD} (hg : wfP g) : ∀ k, k ≤ pNc g → (k : Int) ≤ (sumN (pWt g) k).toInt ∧ (sumN (pWt g) k).toInt ≤ 9 * k := by
  have hnc := hg.1.2.2.2
  intro k
  induction k with
  | zero => intro _; exact ⟨Int.le_refl _, Int.le_refl _⟩
  | succ k ih =>
    intro hk
    have h1 := ih (by omega)
    have h3 := hg.2.2.2.2.2.2.2.1 k (by omega)
    unfold rng at h3
    show ((k + 1 : Nat) : Int) ≤ (sumN (pWt g) k + pWt g k).toInt ∧ (sumN (pWt g) k + pWt g k).toInt ≤ _
    rw [ti_add (by omega) (by omega)]
    omega
noncomputable def leM (g : PD) (c : Nat) : Nat → Int32
  | 0 => 1000000000
  | n + 1 => if prcT g c n = -1 then leM g c n else if leM g c n ≤ feesP g (nI n) + prcT g c n then leM g c n else feesP g (nI n) + prcT g c n
theorem prcT_rng {g : PD} (hg : wfP g) {c n : Nat} (hc : c < 4) (hn : n < 256) (h : prcT g c n ≠ -1) : 0 ≤ (feesP g (nI n) + prcT g c n).toInt ∧ (feesP g (nI n) + prcT g c n).toInt ≤ 60000 := by
  have hf := fees_rng hg (nI n)
  unfold prcT at h ⊢
  by_cases hp : isPlanP g (nI n) = true
  · rw [if_pos hp] at h ⊢
    have hp' := priceR_ex hg hc hn
    have hl : lackP g c (nI n) ≤ 0 := by
      by_cases hl : lackP g c (nI n) ≤ 0
      · exact hl
      · exact absurd ((priceR_m1 hp').mpr hl) h
    have h2 := priceR_rng hp' hl
    rw [ti_add (by omega) (by omega)]
    omega
  · rw [if_neg hp] at h; exact absurd rfl h
theorem le_eq {g : PD} (hg : wfP g) {c : Nat} (hc : c < 4) : ∀ n, n ≤ 256 → (leP g c n = -1 ∧ leM g c n = 1000000000 ∧ ∀ i, i < n → prcT g c i = -1) ∨ (leP g c n ≠ -1 ∧ leM g c n = leP g c n ∧ 0 ≤ (leP g c n).toInt) := by
  intro n
  induction n with
  | zero => intro _; exact .inl ⟨rfl, rfl, fun i hi => absurd hi (Nat.not_lt_zero _)⟩
  | succ n ih =>
    intro hn
    have h0 := ih (by omega)
    have eP : leP g c (n + 1) = if prcT g c n = -1 then leP g c n else if leP g c n = -1 then feesP g (nI n) + prcT g c n else if feesP g (nI n) + prcT g c n < leP g c n then feesP g (nI n) + prcT g c n else leP g c n := rfl
    have eM : leM g c (n + 1) = if prcT g c n = -1 then leM g c n else if leM g c n ≤ feesP g (nI n) + prcT g c n then leM g c n else feesP g (nI n) + prcT g c n := rfl
    by_cases h1 : prcT g c n = -1
    · rw [if_pos h1] at eP eM
      rw [eP, eM]
      rcases h0 with ⟨a1, a2, a3⟩ | h0
      · refine .inl ⟨a1, a2, fun i hi => ?_⟩
        by_cases hin : i = n
        · rw [hin]; exact h1
        · exact a3 i (by omega)
      · exact .inr h0
    · rw [if_neg h1] at eP eM
      have r := prcT_rng hg hc (show n < 256 by omega) h1
      have rm : feesP g (nI n) + prcT g c n ≠ -1 := fun h => by rw [h] at r; have := r.1; rw [ti_m1] at this; omega
      right
      rcases h0 with ⟨a1, a2, a3⟩ | ⟨a1, a2, a3⟩
      · rw [if_pos a1] at eP
        rw [a2, if_neg (by rw [ti_le, show (1000000000 : Int32).toInt = 1000000000 from rfl]; omega)] at eM
        rw [eP, eM]
        exact ⟨rm, rfl, r.1⟩
      · rw [if_neg a1] at eP
        rw [a2] at eM
        by_cases h2 : feesP g (nI n) + prcT g c n < leP g c n
        · rw [if_pos h2] at eP
          rw [if_neg (by rw [ti_le]; rw [ti_lt] at h2; omega)] at eM
          rw [eP, eM]
          exact ⟨rm, rfl, r.1⟩
        · rw [if_neg h2] at eP
          rw [if_pos (by rw [ti_le]; rw [ti_lt] at h2; omega)] at eM
          rw [eP, eM]
          exact ⟨a1, rfl, a3⟩
theorem Mod_total_w {w : Wd} {b : Int32} (hw : WL w) (hg : wfP (mdG (w.1 279))) : ∃ w', Mod_total 274 b (hp w) = some (if isPlanP (mdG (w.1 279)) b = true then totalP (mdG (w.1 279)) b else -1, hp w') ∧ WL w' ∧ frS w w' := by
  have hplan := Mod_isPlan_w (plan := b) hw hg
  by_cases h2 : isPlanP (mdG (w.1 279)) b = true
  · rw [b2i_t h2] at hplan
    obtain ⟨n, hn, rfl⟩ := plan_nat h2
    obtain ⟨w2, r1, r2, r3⟩ := Mod_totalOf_w (n := n) hw hg hn
    refine ⟨w2, ?_, r2, r3⟩
    unfold Mod_total
    rw [k274, Option.bind_some, hplan, bnd2_some, if_neg (by decide), k274, Option.bind_some, r1, bnd2_some, if_pos h2]
    rfl
  · rw [b2i_f h2] at hplan
    refine ⟨w, ?_, hw, frS.rfl'⟩
    unfold Mod_total
    rw [k274, Option.bind_some, hplan, bnd2_some, if_pos rfl, if_neg h2]
    rfl
section Rd
variable {w : Wd} {st : ST} {tm : List Int32} {x : Nat} {hi : List (ST × Int32)} {im : Nat → Option (ST × List Int32)} {rf : Nat → Int32} {ss : Int32} {tp : List Int32} {ft : Int32}
theorem call_mean (h : lawJ w st tm x hi im rf ss tp ft) (b : Int32) : callOk w (Sp_mean 0 b) (Mod_mean 274 b) := by
  obtain ⟨hg, hc, hs⟩ := J_pd h.2.1
  obtain ⟨hgv, hkv, c0, c1, c2⟩ := J_wf h
  have hw := h.2.1.1
  have n2 := h.1.1.1.1.2.2.2
  have hwf := h.1.1.1
  by_cases h2 : isPlanP st.1 b = true
  · obtain ⟨n, hn, rfl⟩ := plan_nat h2
    have hplan := Prog_isPlan_w (w := w) (plan := nI n) isPg_2 hgv
    rw [hg, b2i_t h2] at hplan
    by_cases hnc : pNc st.1 = 0
    · refine law_ro (y := -1) h ⟨w, ?_, h.2.1.1, Fr.rfl', h.2.1.2.1.2.2.1, h.2.1.2.1.2.2.2.1⟩ (fun w1 hr => ?_)
      · unfold Sp_mean
        rw [c0_0, Option.bind_some, c1_0, Option.bind_some, k2, Option.bind_some, hplan, bnd2_some, if_neg (by decide), c2_2, Option.bind_some, c2, hnc, if_neg (fun h => h rfl)]
        rfl
      · obtain ⟨mg, mc, ms, mo⟩ := J_md hr h.1
        obtain ⟨d0, d1, d2⟩ := R_n hr h.1
        obtain ⟨w2, r1, r2, r3⟩ := Mod_total_w (b := nI n) hr.1 mo.1
        refine ⟨w2, ?_, r2, r3.M⟩
        have a2 : ald 0 (hp w2) 279 2 = some (nI (pNc st.1)) := by rw [ldN r2 (i := 2) (j := 2) rfl (by omega), (r3.1 279 (by omega) (by omega)).1, d2]
        unfold Mod_mean
        rw [k274, Option.bind_some, r1, bnd2_some, c274_5, Option.bind_some, a2, Option.bind_some, hnc, if_neg (show ¬ ¬ nI 0 = 0 from fun h => h rfl)]
        unfold Mod_mean_j18
        rw [ite_self]
    · obtain ⟨W, b1, b2, b3, b4⟩ := Book_totalAt_w (plan := n) hw hgv hn hkv
      have hgW : pdW W 2 = pdW w 2 := pd_fr b3 (by omega)
      rw [hg] at b1 b4
      have hsw := sumW_rng hwf (pNc st.1) (Nat.le_refl _)
      have hsum := Prog_sumOfWeights_w (w := W) isPg_2 (by rw [hgW]; exact hgv)
      rw [hgW, hg] at hsum
      have hfee := Prog_feesOf_w (w := W) (plan := nI n) isPg_2 (by rw [hgW]; exact hgv)
      rw [hgW, hg] at hfee
      have hcn : ¬ nI (pNc st.1) = 0 := fun h => hnc ((nI_eq (b := 0) (by omega) (by omega)).mp h)
      by_cases ht : totalP st.1 (nI n) = -1
      · refine law_ro (y := -1) h ⟨W, ?_, J_bk h.2.1 b2 b3 b4⟩ (fun w1 hr => ?_)
        · unfold Sp_mean
          rw [c0_0, Option.bind_some, c1_0, Option.bind_some, k2, Option.bind_some, hplan, bnd2_some, if_neg (by decide), c2_2, Option.bind_some, c2, if_pos hcn, c0_2, Option.bind_some, c17_0, Option.bind_some, k18, Option.bind_some, b1, bnd2_some, k2, Option.bind_some, hsum, bnd2_some, if_pos ht]
          rfl
        · obtain ⟨mg, mc, ms, mo⟩ := J_md hr h.1
          obtain ⟨w2, r1, r2, r3⟩ := Mod_total_w (b := nI n) hr.1 mo.1
          rw [mg, if_pos h2, ht] at r1
          refine ⟨w2, ?_, r2, r3.M⟩
          unfold Mod_mean
          rw [k274, Option.bind_some, r1, bnd2_some, if_pos rfl]
          rfl
      · rcases total_cases hwf hn with t | ⟨t1, t2, t3, t4⟩
        · exact absurd t.1 ht
        have hfr := fees_rng hwf (nI n)
        have hft := fees_tot hwf hn (pNc st.1) (Nat.le_refl _) t1
        rw [← t2] at hft
        have es : (totalP st.1 (nI n) - feesP st.1 (nI n)).toInt = (totalP st.1 (nI n)).toInt - (feesP st.1 (nI n)).toInt := ti_sub (by omega) (by omega)
        have hsw2 : 0 < (sumWP st.1).toInt ∧ (sumWP st.1).toInt < 16777216 := by unfold sumWP; omega
        have hn64 := n64_div (a := totalP st.1 (nI n) - feesP st.1 (nI n)) (b := sumWP st.1) (by omega) (by omega) hsw2.1 hsw2.2
        have hbits : ∃ z : Int64, (∀ H : AHeap, Sp_bitsOfDouble (FP.ddiv (FP.i2d (totalP st.1 (nI n) - feesP st.1 (nI n))) (FP.i2d (sumWP st.1))) H = some (z, H)) ∧ (∀ H : AHeap, Jxe99ae_doubleToLongBits (FP.ddiv (FP.i2d (totalP st.1 (nI n) - feesP st.1 (nI n))) (FP.i2d (sumWP st.1))) H = some (z, H)) := by
          by_cases hd : (totalP st.1 (nI n) - feesP st.1 (nI n)).toInt = 0
          · have : totalP st.1 (nI n) - feesP st.1 (nI n) = 0 := by rw [ti_eq, hd]; rfl
            rw [this, quo064 hsw2.1 hsw2.2]
            exact ⟨0, fun H => Sp_bitsOfDouble_0, fun H => Jxe99ae_doubleToLongBits_0⟩
          · obtain ⟨m, s, m1, m2, q1, q2, e⟩ := quo64 (a := totalP st.1 (nI n) - feesP st.1 (nI n)) (b := sumWP st.1) (by omega) (by omega) hsw2.1 hsw2.2
            rw [e]
            exact ⟨(fl64 m s).toInt64, fun H => Sp_bitsOfDouble_w m1 m2 (by omega) (by omega), fun H => Jxe99ae_doubleToLongBits_w m1 m2 (by omega) (by omega)⟩
        obtain ⟨z, z1, z2⟩ := hbits
        refine law_ro (y := z) h ⟨W, ?_, J_bk h.2.1 b2 b3 b4⟩ (fun w1 hr => ?_)
        · unfold Sp_mean
          rw [c0_0, Option.bind_some, c1_0, Option.bind_some, k2, Option.bind_some, hplan, bnd2_some, if_neg (by decide), c2_2, Option.bind_some, c2, if_pos hcn, c0_2, Option.bind_some, c17_0, Option.bind_some, k18, Option.bind_some, b1, bnd2_some, k2, Option.bind_some, hsum, bnd2_some, if_neg ht, if_pos (by rw [ti_lt, ti_0]; exact hsw2.1), k2, Option.bind_some, hfee, bnd2_some, hn64, Option.bind_some, z1, bnd2_some]
        · obtain ⟨mg, mc, ms, mo⟩ := J_md hr h.1
          obtain ⟨d0, d1, d2⟩ := R_n hr h.1
          obtain ⟨w2, r1, r2, r3⟩ := Mod_total_w (b := nI n) hr.1 mo.1
          rw [mg, if_pos h2] at r1
          have f2 : w2.1 279 = w1.1 279 := (r3.1 279 (by omega) (by omega)).1
          have a2 : ald 0 (hp w2) 279 2 = some (nI (pNc st.1)) := by rw [ldN r2 (i := 2) (j := 2) rfl (by omega), f2, d2]
          have hit : iter (Mod_mean_b26 274 (nI n) (hp w2)) Lmax (0, 0) = some (sumWP st.1, nI (pNc st.1)) := by
            refine iter_L (fun j => (sumN (pWt st.1) j, nI j)) (pNc st.1) (by omega) ?_ ?_
            · intro j hj
              have hcj : ¬ nI (pNc st.1) ≤ nI j := nI_ge hj (by omega)
              have aj : ald 0 (hp w2) 279 (47 + nI j) = some (pWt st.1 j) := by
                rw [ldN r2 (i := 47 + nI j) (j := 47 + j) (nI_add 47 j) (by omega), f2, ← mg, m_wt (by omega)]
              simp only [Mod_mean_b26, c274_5, Option.bind_some, a2, if_neg hcj, aj, nI_1, sumN]
            · have hcj : nI (pNc st.1) ≤ nI (pNc st.1) := nI_le (Nat.le_refl _) (by omega)
              simp only [Mod_mean_b26, c274_5, Option.bind_some, a2, if_pos hcj]
              rfl
          obtain ⟨w3, q1, q2, q3⟩ := Mod_totalOf_w (n := n) r2 (by rw [f2]; exact mo.1) hn
          rw [f2, mg] at q1
          have f3 : w3.1 279 = w1.1 279 := ((q3.1 279 (by omega) (by omega)).1).trans f2
          have hfee2 := Mod_feesOf_w (plan := nI n) q2 (by rw [f3]; exact mo.1)
          rw [f3, mg] at hfee2
          refine ⟨w3, ?_, q2, (r3.tr q3).M⟩
          unfold Mod_mean
          rw [k274, Option.bind_some, r1, bnd2_some, if_neg ht, c274_5, Option.bind_some, a2, Option.bind_some, if_pos hcn, hit, Option.bind_some]
          unfold Mod_mean_j54
          rw [k274, Option.bind_some, q1, bnd2_some, k274, Option.bind_some, hfee2, bnd2_some, hn64, Option.bind_some, z2, bnd2_some]
  · refine law_pp (y := -1) h ?_ (fun w1 hr => ?_)
    · have hplan := Prog_isPlan_w (w := w) (plan := b) isPg_2 hgv
      rw [hg, b2i_f h2] at hplan
      unfold Sp_mean
      rw [c0_0, Option.bind_some, c1_0, Option.bind_some, k2, Option.bind_some, hplan, bnd2_some, if_pos rfl]
      rfl
    · obtain ⟨mg, mc, ms, mo⟩ := J_md hr h.1
      have hplan := Mod_isPlan_w (plan := b) hr.1 mo.1
      rw [mg, b2i_f h2] at hplan
      have ht : Mod_total 274 b (hp w1) = some (-1, hp w1) := by
        unfold Mod_total
        rw [k274, Option.bind_some, hplan, bnd2_some, if_pos rfl]
        rfl
      unfold Mod_mean
      rw [k274, Option.bind_some, ht, bnd2_some, if_pos rfl]
      rfl
end Rd
