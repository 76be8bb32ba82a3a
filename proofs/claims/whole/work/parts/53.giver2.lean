theorem zA_fr {w W : Wd} {a i lo hi : Nat} (h : Fr w W lo hi) (ha : a < lo ∨ hi ≤ a) : zA W a i = zA w a i := by unfold zA; rw [(h a ha).1]
theorem fl_fr {w W : Wd} {lo hi : Nat} (h : Fr w W lo hi) (ha : 25 < lo ∨ hi ≤ 25) : fl W = fl w := by
  funext x s; unfold fl; exact zA_fr h ha
/-- one goes on serving a site: some is brought -/
theorem serve {w W : Wd} {K N r : Nat → Int} {s : Nat} {most : Int32} (hg : wfP (pdW w 2)) (hh : hall (pdW w 2) K N) (hI : flI w W K r) (hs : s < 6) (hr : ∀ t, t < 6 → 0 ≤ r t ∧ r t ≤ N t ∧ N t ≤ 20) (hm : most.toInt = N s - r s) (hrs : r s < N s) : ∃ p W1 amt W2, p < 4 ∧ Frt_chooseGiver 19 2 (nI s) (hp W) = some (nI p, hp W1) ∧ Frt_bring 19 (nI p) (nI s) most (hp W1) = some (amt, hp W2) ∧ 0 < amt.toInt ∧ amt.toInt ≤ most.toInt ∧ flI w W2 K (fun t => r t + if t = s then amt.toInt else 0) := by
  obtain ⟨hW, hF, hnn, hc, hl, π, hπ, ht⟩ := hI
  have L29 := l29 hW
  have L28 := l28 hW
  have eg : pdW W 2 = pdW w 2 := pd_fr hF (by omega)
  -- helper and dear are laid anew
  have hW0 : WL (wA (wA W 29 (List.replicate (W.1 29).length (-1))) 28 (List.replicate ((wA W 29 (List.replicate (W.1 29).length (-1))).1 28).length 0)) := by
    refine WL.A (WL.A hW ?_) ?_
    · rw [List.length_replicate]; exact hW 29
    · rw [List.length_replicate, wA_n (by omega)]; exact hW 28
  have hF0 : Fr W (wA (wA W 29 (List.replicate (W.1 29).length (-1))) 28 (List.replicate ((wA W 29 (List.replicate (W.1 29).length (-1))).1 28).length 0)) 28 30 := by
    repeat (first | exact Fr.rfl' | refine Fr.cA ?_ ?_ ?_ | refine Fr.cF ?_ ?_ ?_)
    all_goals omega
  have h29 : ∀ p, p < 4 → ((wA (wA W 29 (List.replicate (W.1 29).length (-1))) 28 (List.replicate ((wA W 29 (List.replicate (W.1 29).length (-1))).1 28).length 0)).1 29).getD p 0 = -1 := by
    intro p hp'
    rw [wA_n (by omega), wA_s, List.getD_eq_getElem?_getD, List.getElem?_replicate, if_pos (by omega)]
    rfl
  have h28 : ∀ p, p < 4 → zA (wA (wA W 29 (List.replicate (W.1 29).length (-1))) 28 (List.replicate ((wA W 29 (List.replicate (W.1 29).length (-1))).1 28).length 0)) 28 p = 0 := by
    intro p hp'
    unfold zA
    rw [wA_s, wA_n (by omega), List.getD_eq_getElem?_getD, List.getElem?_replicate, if_pos (by omega)]
    rfl
  have hstart : Frt_chooseGiver 19 2 (nI s) (hp W) = bnd2 (Frt_cheapestFor 19 2 (nI s) (hp (wA (wA W 29 (List.replicate (W.1 29).length (-1))) 28 (List.replicate ((wA W 29 (List.replicate (W.1 29).length (-1))).1 28).length 0)))) fun x6 h5 => (if x6 = (-1) then Frt_chooseGiver_j37 19 2 (nI s) x6 h5 else (gfR h5 19 4 4).bind fun a7 => (ald 0 h5 a7 x6).bind fun x8 => (if x8 ≤ 0 then (chk h5 19 4).bind fun _ => bnd2 (Frt_findSwaps 19 2 h5) fun _ h9 => (chk h9 19 4).bind fun _ => bnd2 (Frt_findDear 19 h9) fun _ h10 => (chk h10 19 4).bind fun _ => bnd2 (Frt_cheapestFor 19 2 (nI s) h10) fun x12 h11 => some (x12, h11) else Frt_chooseGiver_j37 19 2 (nI s) x6 h5)) := by
    unfold Frt_chooseGiver
    simp only [c19_9, Option.bind_some]
    rw [fill_w s29 (by omega)]
    simp only [bnd2_some, c19_8, Option.bind_some]
    rw [fill_w s28 (by rw [wA_n (by omega)]; omega)]
    simp only [bnd2_some, k19, Option.bind_some]
  rw [hstart]
  clear hstart
  generalize wA (wA W 29 (List.replicate (W.1 29).length (-1))) 28 (List.replicate ((wA W 29 (List.replicate (W.1 29).length (-1))).1 28).length 0) = V at *
  have egV : pdW V 2 = pdW w 2 := by rw [pd_fr hF0 (by omega), eg]
  have eflV : fl V = fl W := fl_fr hF0 (by omega)
  have e24V : ∀ p, zA V 24 p = zA W 24 p := fun p => zA_fr hF0 (by omega)
  have hgV : wfP (pdW V 2) := by rw [egV]; exact hg
  have hcol : ∀ t, t < 6 → colZ (fl W) t ≤ 1000 := fun t ht' => by
    have := hr t ht'
    rw [hc t ht']; omega
  obtain ⟨x, f1, f2⟩ := Frt_cheapestFor_w hW0 hgV hs (fun p hp' => by rw [h28 p hp']; omega)
  rw [egV] at f2
  rw [f1, bnd2_some]
  have hTe : ∀ x t, x < 4 → t < 6 → 0 < fl W x t → zT (pdW w 2) x t ≠ -1 := fun x t hx ht' h => (ht x t hx ht' h).1
  rcases f2 with ⟨rfl, f2⟩ | ⟨p, p1, rfl, p2, p3, p4⟩
  · -- no road at all
    exfalso
    refine hall_use (X := fun _ => false) (lf := zA W 24) hh hs (fun t ht' => (hr t ht').2.1) hrs hnn hTe hc (fun p hp' => (hl p hp').2) (fun _ _ h => absurd h (by decide)) (fun _ _ _ _ h => absurd h (by decide)) ?_
    rw [inX_iff]
    intro p hp' hT
    have a := f2 p hp' hT
    have b := zT_rng hg hp' hs
    rw [h28 p hp'] at a
    omega
  · rw [if_neg (nI_ne_m1 p1)]
    have L24 := l24 hW0
    simp only [c19_4, Option.bind_some]
    rw [ald_w (j := p) s24 rfl (by omega) (by omega)]
    simp only [Option.bind_some]
    have Z : (0 : Int32).toInt = 0 := rfl
    by_cases hlp : (V.1 24).getD p 0 ≤ 0
    · rw [if_pos hlp]
      clear f1 p2 p3 p4 hlp
      simp only [k19, Option.bind_some]
      obtain ⟨V1, s1, s2⟩ := Frt_findSwaps_w hW0 hgV
      rw [s1, bnd2_some]
      obtain ⟨s3, s4, s5, s6⟩ := s2
      rw [egV] at s5 s6
      have s5' : ∀ x t q, x < 4 → t < 6 → q < 4 → q ≠ x → 0 < fl W x t → zT (pdW w 2) q t ≠ -1 → dC V1 q x ≤ zT (pdW w 2) q t - zT (pdW w 2) x t := by
        intro x t q hx ht' hq hne hf hT
        have hTx := hTe x t hx ht' hf
        refine s5 x t q hx ht' hq ⟨?_, ?_⟩ hne (by rw [← eflV] at hf; exact hf) hT
        · apply Decidable.byContradiction
          intro hn
          exact hTx (zT_out hg hx ht' (Or.inl (by omega)))
        · apply Decidable.byContradiction
          intro hn
          exact hTx (zT_out hg hx ht' (Or.inr (by omega)))
      have s6' : ∀ q x, q < 4 → x < 4 → dC V1 q x < 1000000 → ∃ t, t < 6 ∧ q ≠ x ∧ 0 < fl W x t ∧ zT (pdW w 2) q t ≠ -1 ∧ dC V1 q x = zT (pdW w 2) q t - zT (pdW w 2) x t ∧ (V1.1 27).getD (q * 4 + x) 0 = nI t := by
        intro q x hq hx hd
        rcases s6 q x hq hx with h | ⟨t, h1, h2, h3, h4, h5, h6⟩
        · exfalso
          unfold dC at hd
          omega
        · exact ⟨t, h1, h2, by rw [← eflV]; exact h3, h4, h5, h6⟩
      clear s5 s6
      have e24V1 : ∀ x, zA V1 24 x = zA W 24 x := fun x => by rw [zA_fr s4 (by omega), e24V]
      have egV1 : pdW V1 2 = pdW w 2 := by rw [pd_fr s4 (by omega), egV]
      have eflV1 : fl V1 = fl W := by rw [fl_fr s4 (by omega), eflV]
      have hpot : potOk V1 π := by
        refine ⟨fun x hx => (hπ x hx).1, fun x hx h => (hπ x hx).2 (by unfold dSrc at h; rw [e24V1] at h; exact h), ?_⟩
        intro q x hq hx hd
        obtain ⟨t, t1, t2, t3, t4, t5, t6⟩ := s6' q x hq hx hd
        have a := (ht x t hx t1 t3).2 q hq t4
        have b := zT_rng hg hq t1
        have c := zT_rng hg hx t1
        have d := hTe x t hx t1 t3
        omega
      obtain ⟨V2, d0, d1, d2, d3, d4, d5, rk, d6⟩ := Frt_findDear_w s3 hpot (fun x hx => by rw [(s4 29 (by omega)).1]; exact h29 x hx)
      rw [d0, bnd2_some]
      have egV2 : pdW V2 2 = pdW w 2 := by rw [pd_fr d2 (by omega), egV1]
      have eflV2 : fl V2 = fl W := by rw [fl_fr d2 (by omega), eflV1]
      have e24V2 : ∀ x, zA V2 24 x = zA W 24 x := fun x => by rw [zA_fr d2 (by omega), e24V1]
      have e27V2 : V2.1 27 = V1.1 27 := (d2 27 (by omega)).1
      obtain ⟨x2, c1, c2⟩ := Frt_cheapestFor_w d1 (by rw [egV2]; exact hg) hs (fun x hx => ⟨(d3 x hx).1, (d3 x hx).2.1⟩)
      rw [egV2] at c2
      have hfar : ∀ x t q, x < 4 → t < 6 → q < 4 → 0 < fl W x t → zT (pdW w 2) q t ≠ -1 → zA V2 28 q < 1000000 → zA V2 28 x < 1000000 ∧ zA V2 28 x + zT (pdW w 2) x t ≤ zA V2 28 q + zT (pdW w 2) q t := by
        intro x t q hx ht' hq hf hT hd
        by_cases hqx : q = x
        · subst hqx; exact ⟨hd, Int.le_refl _⟩
        · have a := s5' x t q hx ht' hq hqx hf hT
          have b := zT_rng hg hq ht'
          have c := zT_rng hg hx ht'
          have e := d4 q x hq hx hd (by omega)
          have f := (d3 q hq).2.2.1 hd
          omega
      rcases c2 with ⟨rfl, c2⟩ | ⟨p', q1, rfl, q2, q3, q4⟩
      · exfalso
        refine hall_use (X := fun x => decide (1000000 ≤ zA V2 28 x)) (lf := zA W 24) hh hs (fun t ht' => (hr t ht').2.1) hrs hnn hTe hc (fun p hp' => (hl p hp').2) ?_ ?_ ?_
        · intro x hx hX
          have hX' : 1000000 ≤ zA V2 28 x := by simpa using hX
          have a := (hl x hx).1
          by_cases hz : 0 < zA W 24 x
          · have := (d3 x hx).2.2.2 (by unfold dSrc; rw [e24V1]; exact hz)
            omega
          · omega
        · intro x t hx ht' hX hf
          have hX' : 1000000 ≤ zA V2 28 x := by simpa using hX
          rw [inX_iff]
          intro q hq hT
          have : 1000000 ≤ zA V2 28 q := by
            apply Decidable.byContradiction
            intro hn
            have := (hfar x t q hx ht' hq hf hT (by omega)).1
            omega
          simpa using this
        · rw [inX_iff]
          intro q hq hT
          have a := c2 q hq hT
          have b := zT_rng hg hq hs
          have : 1000000 ≤ zA V2 28 q := by
            apply Decidable.byContradiction
            intro hn
            have := (d3 q hq).2.2.1 (by omega)
            omega
          simpa using this
      · have hT0 := zT_rng hg q1 hs
        have hd' : zA V2 28 p' < 1000000 := by omega
        obtain ⟨π', hπ'⟩ : ∃ π' : Nat → Int, ∀ x, π' x = if zA V2 28 x < 1000000 then zA V2 28 x else π x + 1000000 := ⟨fun x => if zA V2 28 x < 1000000 then zA V2 28 x else π x + 1000000, fun _ => rfl⟩
        have tight' : ∀ x t, x < 4 → t < 6 → 0 < fl W x t → tight (pdW w 2) π' x t := by
          intro x t hx ht' hf
          have h1 := ht x t hx ht' hf
          refine ⟨h1.1, fun q hq hT => ?_⟩
          have h2 := h1.2 q hq hT
          have b := zT_rng hg hq ht'
          have c := zT_rng hg hx ht'
          have e := (hπ q hq).1
          rw [hπ' x, hπ' q]
          by_cases hq' : zA V2 28 q < 1000000
          · have k := hfar x t q hx ht' hq hf hT hq'
            rw [if_pos hq', if_pos k.1]; exact k.2
          · rw [if_neg hq']
            by_cases hx' : zA V2 28 x < 1000000
            · rw [if_pos hx']
              have := (d3 x hx).2.2.1 hx'
              omega
            · rw [if_neg hx']; omega
        obtain ⟨W2, amt, b1, b2, b3, b4, b5, b6, b7, b8⟩ := Frt_bring_w (w := V2) (δ := zA V2 28) (π := π') (rk := rk) (a := p') (s := s) (most := most) d1 (by
          intro x hx hdx
          rcases d5 x hx with ⟨h1, h2⟩ | ⟨q, h1, h2, h3, h4, h5, h6⟩
          · left
            refine ⟨h1, ?_⟩
            rw [e24V2]
            unfold dInit at h2
            rw [e24V1] at h2
            by_cases hz : 0 < zA W 24 x
            · exact hz
            · rw [if_neg hz] at h2; omega
          · right
            obtain ⟨t, t1, t2, t3, t4, t5, t6⟩ := s6' q x h1 hx h3
            refine ⟨q, t, h1, t1, h2, by rw [e27V2]; exact t6, by rw [eflV2]; exact t3, by rw [egV2]; exact t4, ?_, h6, d6 x q hx h1 h2⟩
            rw [egV2]; omega) q1 hs hd' (fun x hx hd => by rw [hπ' x, if_pos hd]) (by
          rw [egV2]
          refine ⟨q2, fun q hq hT => ?_⟩
          have a := q4 q hq hT
          have b := zT_rng hg hq hs
          have e := (hπ q hq).1
          have f := (d3 p' q1).2.2.1 hd'
          rw [hπ' p', hπ' q, if_pos hd']
          split <;> omega) (by
          intro x t hx ht'
          rw [eflV2, egV2]
          exact ⟨hnn x t hx ht', tight' x t hx ht'⟩) (by rw [eflV2]; exact hcol) (fun x hx => by rw [e24V2]; exact (hl x hx).1) (by rw [hm]; omega) (by rw [hm]; have := hr s hs; omega)
        refine ⟨p', V2, amt, W2, q1, ?_, b1, b2, b3, b4, ?_, ?_, ?_, ?_, π', ?_, ?_⟩
        · simp only [k19, Option.bind_some, c1, bnd2_some]
        · exact (((hF.tr (hF0.mono (by omega) (by omega))).tr (s4.mono (by omega) (by omega))).tr (d2.mono (by omega) (by omega))).tr (b5.mono (by omega) (by omega))
        · exact fun x t hx ht' => (b6 x t hx ht').1
        · intro t ht'
          rw [b7 t ht', eflV2, hc t ht']
        · intro x hx
          have a := b8 x hx
          have b := hl x hx
          rw [e24V2, eflV2] at a
          exact ⟨a.1, by omega⟩
        · intro x hx
          have a := b8 x hx
          rw [e24V2] at a
          have b := d3 x hx
          have e := (hπ x hx).1
          refine ⟨?_, fun h => ?_⟩
          · rw [hπ' x]; split <;> omega
          · have := b.2.2.2 (by unfold dSrc; rw [e24V1]; omega)
            rw [hπ' x, if_pos (by omega)]; exact this
        · intro x t hx ht' h
          have := (b6 x t hx ht').2 h
          rw [egV2] at this
          exact this
    · rw [if_neg hlp]
      rw [ti_le, Z] at hlp
      have hlp' : 0 < zA V 24 p := by unfold zA; omega
      have hlW : 0 < zA W 24 p := by rw [← e24V]; exact hlp'
      have π0 : π p = 0 := (hπ p p1).2 hlW
      obtain ⟨W2, amt, b1, b2, b3, b4, b5, b6, b7, b8⟩ := Frt_bring_w (w := V) (δ := fun x => if x = p then 0 else 1000000) (π := π) (rk := fun _ => 0) (a := p) (s := s) (most := most) hW0 (by
        intro x hx hd
        by_cases hxp : x = p
        · subst hxp
          exact Or.inl ⟨h29 x hx, hlp'⟩
        · simp [hxp] at hd) p1 hs (by simp) (by
        intro x hx hd
        by_cases hxp : x = p
        · subst hxp; simp [π0]
        · simp [hxp] at hd) (by
        rw [egV]
        refine ⟨p2, fun q hq hT => ?_⟩
        have := p4 q hq hT
        have := (hπ q hq).1
        rw [h28 p p1, h28 q hq] at *
        omega) (by
        intro x t hx ht'
        rw [eflV, egV]
        exact ⟨hnn x t hx ht', ht x t hx ht'⟩) (by rw [eflV]; exact hcol) (fun x hx => by rw [e24V]; exact (hl x hx).1) (by rw [hm]; omega) (by rw [hm]; have := hr s hs; omega)
      refine ⟨p, V, amt, W2, p1, rfl, b1, b2, b3, b4, ?_, ?_, ?_, ?_, π, ?_, ?_⟩
      · exact (hF.tr (hF0.mono (by omega) (by omega))).tr (b5.mono (by omega) (by omega))
      · exact fun x t hx ht' => (b6 x t hx ht').1
      · intro t ht'
        rw [b7 t ht', eflV, hc t ht']
      · intro x hx
        have a := b8 x hx
        have b := hl x hx
        rw [e24V, eflV] at a
        exact ⟨a.1, by omega⟩
      · intro x hx
        have a := b8 x hx
        rw [e24V] at a
        exact ⟨(hπ x hx).1, fun h => (hπ x hx).2 (by omega)⟩
      · intro x t hx ht' h
        have := (b6 x t hx ht').2 h
        rw [egV] at this
        exact this
