/-! calls that only ask: now, cut, tells -/
def swiP (x : Int32) (lo : Int) (A : List Int32) (d : Int32) : Int32 := if x.toInt < lo then d else (A[(x.toInt - lo).toNat]?).getD d
theorem swi_val {x : Int32} {lo : Int} {A : List Int32} {d : Int32} {h : AHeap} : swi x lo (A.map (fun v => some (v, h))) (some (d, h)) = some (swiP x lo A d, h) := by
  unfold swi swiP
  by_cases h1 : x.toInt < lo
  · rw [if_pos h1, if_pos h1]
  · rw [if_neg h1, if_neg h1, List.getElem?_map]
    cases A[(x.toInt - lo).toNat]? <;> rfl
theorem nI_sb {a b : Nat} (h : b ≤ a) (ha : a < 2 ^ 31) : nI a - nI b = nI (a - b) := by
  rw [ti_eq, ti_sub (by rw [nI_toInt ha, nI_toInt (by omega)]; omega) (by rw [nI_toInt ha, nI_toInt (by omega)]; omega), nI_toInt ha, nI_toInt (by omega), nI_toInt (by omega)]; omega
section Rd
variable {w : Wd} {st : ST} {tm : List Int32} {x : Nat} {hi : List (ST × Int32)} {im : Nat → Option (ST × List Int32)} {rf : Nat → Int32} {ss : Int32} {tp : List Int32} {ft : Int32}
theorem J_sr (h : clsI w st tm x hi im rf ss tp ft) {k : Nat} (hk : k < 7) : w.2 15 k = st.2.2.getD k 0 := by
  rw [← (J_pd h).2.2]
  exact (map_range_getD hk).symm
theorem J_n (h : clsI w st tm x hi im rf ss tp ft) : cSz w 9 40 ∧ cN w 9 = st.2.1.length ∧ w.2 9 1 = nI st.2.1.length := by
  have h2 : cSz w 9 40 := h.2.1.1.2
  have h3 : cN w 9 = st.2.1.length := by rw [← (J_pd h).2.1, cutsW_len]
  exact ⟨h2, h3, by rw [h2.1, h3]⟩
theorem gD_mem {l : List (List Int32)} {i : Nat} (h : i < l.length) : l.getD i [] ∈ l := by
  rw [List.getD_eq_getElem?_getD, List.getElem?_eq_getElem h]
  exact List.getElem_mem h
theorem mdC_get {r : List Int32} {i : Nat} (h : i < mdN r) : (mdC r).getD i [] = mdC1 r i := by
  unfold mdC
  rw [List.getD_eq_getElem?_getD, List.getElem?_map, List.getElem?_range h]; rfl
theorem rays_eq {r : List Int32} : raysP (mdC r) = sumN (fun i => cK (mdC1 r i) 1) (mdN r) := by
  unfold raysP
  rw [mdC_len]
  refine sumN_cg _ (fun i hi => ?_)
  rw [mdC_get hi]
theorem Mod_rays_w {w : Wd} (hw : WL w) (hm : mdOk (w.1 279)) : Mod_rays 274 (hp w) = some (raysP (mdC (w.1 279)), hp w) := by
  have a9 : ald 0 (hp w) 279 9 = some (nI (mdN (w.1 279))) := by rw [ldN hw (i := 9) (j := 9) rfl (by omega), hm.2.1.1]
  have hN := hm.2.1.2
  have hit : iter (Mod_rays_b4 274) Lmax (0, 0, hp w) = some (sumN (fun i => cK (mdC1 (w.1 279) i) 1) (mdN (w.1 279)), nI (mdN (w.1 279)), hp w) := by
    refine iter_L (fun j => (sumN (fun i => cK (mdC1 (w.1 279) i) 1) j, nI j, hp w)) (mdN (w.1 279)) (by omega) ?_ ?_
    · intro j hj
      have hc : ¬ nI (mdN (w.1 279)) ≤ nI j := nI_ge hj (by omega)
      have e := Mod_ofCut_w hw (i := j) (k := 1) (by omega) (by omega)
      rw [show nI 1 = 1 from rfl] at e
      simp only [Mod_rays_b4, c274_5, Option.bind_some, a9, if_neg hc, k274, e, bnd2_some, nI_1, sumN]
    · have hc : nI (mdN (w.1 279)) ≤ nI (mdN (w.1 279)) := nI_le (Nat.le_refl _) (by omega)
      simp only [Mod_rays_b4, c274_5, Option.bind_some, a9, if_pos hc]
  simp only [Mod_rays, hit, Option.bind_some, Mod_rays_j30, rays_eq]
def nowP (st : ST) (v : Int32) : Int32 := swiP v 0 [st.2.2.getD 0 0, st.2.2.getD 1 0, st.2.2.getD 2 0, st.2.2.getD 3 0, st.2.2.getD 4 0, st.2.2.getD 5 0, nI st.2.1.length, raysP st.2.1, st.2.2.getD 6 0] (-1)
theorem call_now (h : lawJ w st tm x hi im rf ss tp ft) (v : Int32) : callOk w (Sp_now 0 v) (Mod_now 274 v) := by
  refine law_pp (y := nowP st v) h ?_ (fun w1 hr => ?_)
  · obtain ⟨hz, hN, e1⟩ := J_n h.2.1
    have s0 := J_sr h.2.1 (k := 0) (by omega)
    have s1 := J_sr h.2.1 (k := 1) (by omega)
    have s2 := J_sr h.2.1 (k := 2) (by omega)
    have s3 := J_sr h.2.1 (k := 3) (by omega)
    have s4 := J_sr h.2.1 (k := 4) (by omega)
    have s5 := J_sr h.2.1 (k := 5) (by omega)
    have s6' := J_sr h.2.1 (k := 6) (by omega)
    simp only [Sp_now, c0_0, c1_2, c1_1, c15_0, c15_1, c15_2, c15_3, c15_4, c15_5, c15_6, c9_1, k9, Option.bind_some, Cuts_countRays_w isCt_9 h.2.1.1 hz, bnd2_some, s0, s1, s2, s3, s4, s5, s6', e1, (J_pd h.2.1).2.1]
    exact swi_val (A := [_, _, _, _, _, _, _, _, _])
  · obtain ⟨mg, mc, ms, mo⟩ := J_md hr h.1
    have hw1 := hr.1
    obtain ⟨v3, v4, v5, v6, v7, v8, v10⟩ := hr.2.1.v
    have v9 := hr.2.1.2.2.2.1
    have a3 : ald 0 (hp w1) 279 3 = some (st.2.2.getD 0 0) := by rw [ldN hw1 (i := 3) (j := 3) rfl (by omega), v3]
    have a4 : ald 0 (hp w1) 279 4 = some (st.2.2.getD 1 0) := by rw [ldN hw1 (i := 4) (j := 4) rfl (by omega), v4]
    have a5 : ald 0 (hp w1) 279 5 = some (st.2.2.getD 2 0) := by rw [ldN hw1 (i := 5) (j := 5) rfl (by omega), v5]
    have a6 : ald 0 (hp w1) 279 6 = some (st.2.2.getD 3 0) := by rw [ldN hw1 (i := 6) (j := 6) rfl (by omega), v6]
    have a7 : ald 0 (hp w1) 279 7 = some (st.2.2.getD 4 0) := by rw [ldN hw1 (i := 7) (j := 7) rfl (by omega), v7]
    have a8 : ald 0 (hp w1) 279 8 = some (st.2.2.getD 5 0) := by rw [ldN hw1 (i := 8) (j := 8) rfl (by omega), v8]
    have a9 : ald 0 (hp w1) 279 9 = some (nI st.2.1.length) := by rw [ldN hw1 (i := 9) (j := 9) rfl (by omega), v9]
    have a10 : ald 0 (hp w1) 279 10 = some (st.2.2.getD 6 0) := by rw [ldN hw1 (i := 10) (j := 10) rfl (by omega), v10]
    simp only [Mod_now, c274_5, a3, a4, a5, a6, a7, a8, a9, a10, k274, Option.bind_some, Mod_rays_w hw1 mo, bnd2_some, mc]
    exact swi_val (A := [_, _, _, _, _, _, _, _, _])
theorem Mod_isCut_w {w : Wd} (hw : WL w) (hm : mdOk (w.1 279)) {i : Int32} : Mod_isCut 274 i (hp w) = some (b2i (hasN (nI (mdN (w.1 279))) i), hp w) := by
  have a9 : ald 0 (hp w) 279 9 = some (nI (mdN (w.1 279))) := by rw [ldN hw (i := 9) (j := 9) rfl (by omega), hm.2.1.1]
  have hN := hm.2.1.2
  simp only [Mod_isCut, c274_5, a9, Option.bind_some, Mod_isIn_w, bnd2_some, bzb]
  rw [isIn_has (by omega)]
def tellsP (st : ST) (i plan : Int32) : Int32 := if hasN (nI st.2.1.length) i = true then (if isPlanP st.1 plan = true then valP st.1 (st.2.1.getD i.toNatClampNeg []) plan else -2147483648) else -2147483648
theorem call_tells (h : lawJ w st tm x hi im rf ss tp ft) (a b : Int32) : callOk w (Sp_tells 0 a b) (Mod_tells_ 274 a b) := by
  have hL := h.1.1.2.2.2
  refine law_pp (y := tellsP st a b) h ?_ (fun w1 hr => ?_)
  · obtain ⟨hg, hc, hs⟩ := J_pd h.2.1
    have hgv : wfP (pdW w 2) := by rw [hg]; exact h.1.1.1
    obtain ⟨hz, hN, e1⟩ := J_n h.2.1
    unfold tellsP
    simp only [Sp_tells, Sp_tells_j32, c0_0, c1_1, c9_1, c1_0, k2, k9, Option.bind_some, Prog_isPlan_w isPg_2 hgv, bnd2_some, e1]
    by_cases h1 : hasN (nI st.2.1.length) a = true
    · rw [if_pos h1]
      obtain ⟨i, hi', rfl⟩ := (has_iff (by omega)).mp h1
      rw [if_neg (by rw [ti_lt, ti_0, nI_toInt (by omega)]; omega), if_neg (nI_ge hi' (by omega)), nI_clamp (by omega)]
      by_cases h2 : isPlanP st.1 b = true
      · rw [hg, b2i_t h2, if_pos (by decide), if_pos h2]
        have hci : ctW w 9 i = st.2.1.getD i [] := by rw [← hc]; exact (cutsW_get (by omega)).symm
        have hv : cutV st.1 (st.2.1.getD i []) := h.1.1.2.1 _ (gD_mem hi')
        rw [Cuts_valueAt_w isCt_9 isPg_2 h.2.1.1 hgv (by omega) (by rw [hci]; obtain ⟨n, hn, hn2⟩ := hv.1; exact ⟨n, by have := h.1.1.1.1.2.2.2; omega, hn2⟩), hci, hg]
        simp only [bnd2_some]
      · rw [hg, b2i_f h2, if_neg (by decide), if_neg h2]
    · rw [if_neg h1]
      by_cases h2 : a < 0
      · rw [if_pos h2]
      · rw [if_neg h2, if_pos]
        unfold hasN at h1
        rw [decide_eq_true_iff] at h1
        by_cases h3 : nI st.2.1.length ≤ a
        · exact h3
        · exact absurd ⟨h2, h3⟩ h1
  · obtain ⟨mg, mc, ms, mo⟩ := J_md hr h.1
    have hw1 := hr.1
    have hn : mdN (w1.1 279) = st.2.1.length := hr.2.1.n
    unfold tellsP
    simp only [Mod_tells_, Mod_tells__j25, Mod_tells__j28, k274, Option.bind_some, Mod_isCut_w hw1 mo, bnd2_some, Mod_isPlan_w hw1 mo.1, mg, hn]
    by_cases h1 : hasN (nI st.2.1.length) a = true
    · rw [b2i_t h1, if_neg (by decide), if_pos h1]
      obtain ⟨i, hi', rfl⟩ := (has_iff (by omega)).mp h1
      rw [nI_clamp (by omega)]
      by_cases h2 : isPlanP st.1 b = true
      · rw [b2i_t h2, if_neg (by decide), if_pos h2]
        have hci : mdC1 (w1.1 279) i = st.2.1.getD i [] := by rw [← mc, mdC_get (by omega)]
        have hv : cutV st.1 (st.2.1.getD i []) := h.1.1.2.1 _ (gD_mem hi')
        rw [Mod_toldBy_w hw1 mo.1 (by omega) (by rw [hci]; obtain ⟨n, hn, hn2⟩ := hv.1; exact ⟨n, by have := h.1.1.1.1.2.2.2; omega, hn2⟩), hci, mg]
        simp only [bnd2_some]
      · rw [b2i_f h2, if_pos (by decide), if_neg h2]
    · rw [b2i_f h1, if_pos (by decide), if_neg h1]
def cutP (st : ST) (i k : Int32) : Int32 := if hasN (nI st.2.1.length) i = true then (if (0 ≤ k.toInt ∧ k.toInt ≤ 2) ∨ (3 ≤ k.toInt ∧ k.toInt < 3 + pNp st.1) ∨ (7 ≤ k.toInt ∧ k.toInt < 7 + pNs st.1) then cK (st.2.1.getD i.toNatClampNeg []) k.toNatClampNeg else -1) else -1
theorem call_cut (h : lawJ w st tm x hi im rf ss tp ft) (a b : Int32) : callOk w (Sp_cut 0 a b) (Mod_cut 274 a b) := by
  have hL := h.1.1.2.2.2
  have e0 : st.1.1 = nI (pNp st.1) := h.1.1.1.1.1.1
  have es : st.1.2.1 = nI (pNs st.1) := h.1.1.1.1.2.1.1
  have n0 := h.1.1.1.1.1.2
  have n1 := h.1.1.1.1.2.1.2
  have t1 : (1 : Int32).toInt = 1 := rfl
  have t2 : (2 : Int32).toInt = 2 := rfl
  have t3 : (3 : Int32).toInt = 3 := rfl
  have t7 : (7 : Int32).toInt = 7 := rfl
  have t13 : (13 : Int32).toInt = 13 := rfl
  refine law_pp (y := cutP st a b) h ?_ (fun w1 hr => ?_)
  · obtain ⟨hg, hc, hs⟩ := J_pd h.2.1
    have hgv : wfP (pdW w 2) := by rw [hg]; exact h.1.1.1
    have hw := h.2.1.1
    obtain ⟨hz, hN, e1⟩ := J_n h.2.1
    have c0 : w.2 2 0 = nI (pNp st.1) := by rw [← e0, ← hg]; rfl
    have c1 : w.2 2 1 = nI (pNs st.1) := by rw [← es, ← hg]; rfl
    unfold cutP
    simp only [Sp_cut, Sp_cut_j20, Sp_cut_j149, Sp_cut_j148, Sp_cut_j101, Sp_cut_j100, c0_0, c1_1, c9_1, c9_2, c9_3, c9_4, c9_5, c9_6, c1_0, k2, k9, Option.bind_some, Prog_hasPlant_w isPg_2, Prog_hasSite_w isPg_2, bnd2_some, e1, c0, c1]
    by_cases h1 : hasN (nI st.2.1.length) a = true
    · rw [if_pos h1]
      obtain ⟨i, hi', rfl⟩ := (has_iff (by omega)).mp h1
      rw [if_neg (by rw [ti_lt, ti_0, nI_toInt (by omega)]; omega), if_pos (nI_lt hi' (by omega)), nI_clamp (by omega)]
      have hci : ctW w 9 i = st.2.1.getD i [] := by rw [← hc]; exact (cutsW_get (by omega)).symm
      have a10 : ald 0 (hp w) 10 (nI i) = some ((w.1 10).getD i 0) := ald_w s10 rfl (by rw [l10 hw]; omega) (by omega)
      have a11 : ald 0 (hp w) 11 (nI i) = some ((w.1 11).getD i 0) := ald_w s11 rfl (by rw [l11 hw]; omega) (by omega)
      have a12 : ald 0 (hp w) 12 (nI i) = some ((w.1 12).getD i 0) := ald_w s12 rfl (by rw [l12 hw]; omega) (by omega)
      rw [← hci]
      by_cases hb : b.toInt < 0
      · rw [if_neg (show ¬ ((0 ≤ b.toInt ∧ b.toInt ≤ 2) ∨ (3 ≤ b.toInt ∧ b.toInt < 3 + pNp st.1) ∨ (7 ≤ b.toInt ∧ b.toInt < 7 + pNs st.1)) by omega)]
        rw [if_pos (show ¬ b = 0 by rw [ti_eq, ti_0]; omega), if_pos (show ¬ b = 1 by rw [ti_eq, t1]; omega), if_pos (show ¬ b = 2 by rw [ti_eq, t2]; omega), if_pos (show b < 3 by rw [ti_lt, t3]; omega), if_pos (show b < 7 by rw [ti_lt, t7]; omega)]
      · obtain ⟨k, hk, rfl, hk2⟩ := i32_nat (i := b) (by omega)
        rw [nI_clamp hk, hk2]
        by_cases k0 : k = 0
        · subst k0
          rw [if_neg (show ¬ ¬ nI 0 = 0 from fun h => h rfl), if_pos (by omega), a10]
          simp only [Option.bind_some, cK_0]
        by_cases k1 : k = 1
        · subst k1
          rw [if_pos (show ¬ nI 1 = 0 by decide), if_neg (show ¬ ¬ nI 1 = 1 from fun h => h rfl), if_pos (by omega), a11]
          simp only [Option.bind_some, cK_1]
        by_cases k2' : k = 2
        · subst k2'
          rw [if_pos (show ¬ nI 2 = 0 by decide), if_pos (show ¬ nI 2 = 1 by decide), if_neg (show ¬ ¬ nI 2 = 2 from fun h => h rfl), if_pos (by omega), a12]
          simp only [Option.bind_some, cK_2]
        rw [if_pos (show ¬ nI k = 0 by rw [ti_eq, ti_0]; omega), if_pos (show ¬ nI k = 1 by rw [ti_eq, t1]; omega), if_pos (show ¬ nI k = 2 by rw [ti_eq, t2]; omega), if_neg (show ¬ nI k < 3 by rw [ti_lt, t3]; omega)]
        by_cases k7 : k < 7
        · rw [if_neg (show ¬ 7 ≤ nI k by rw [ti_le, t7]; omega)]
          have ek : nI k - 3 = nI (k - 3) := nI_sb (b := 3) (by omega) hk
          rw [ek]
          by_cases hq : k - 3 < pNp st.1
          · rw [b2i_t ((has_iff (by omega)).mpr ⟨k - 3, hq, rfl⟩), if_neg (by decide), if_pos (by omega)]
            have ea : nI i * 4 + nI k - 3 = nI (i * 4 + (k - 3)) := by
              rw [nI_m4, show nI (i * 4 + k) - 3 = nI (i * 4 + k - 3) from nI_sb (b := 3) (by omega) (by omega), show i * 4 + k - 3 = i * 4 + (k - 3) by omega]
            rw [ea, ald_w (j := i * 4 + (k - 3)) s13 rfl (by rw [l13 hw]; omega) (by omega)]
            simp only [Option.bind_some]
            rw [show k = 3 + (k - 3) by omega, cK_u (by omega), show 3 + (k - 3) - 3 = k - 3 by omega]
          · rw [b2i_f (fun h => hq (by obtain ⟨j, hj, he⟩ := (has_iff (by omega)).mp h; have := (nI_eq (by omega) (by omega)).mp he; omega)), if_pos (by decide), if_neg (by omega)]
        · rw [if_pos (show 7 ≤ nI k by rw [ti_le, t7]; omega), if_neg (show ¬ nI k < 7 by rw [ti_lt, t7]; omega)]
          by_cases k13 : k < 13
          · rw [if_neg (show ¬ 13 ≤ nI k by rw [ti_le, t13]; omega)]
            have ek : nI k - 7 = nI (k - 7) := nI_sb (b := 7) (by omega) hk
            rw [ek]
            by_cases hq : k - 7 < pNs st.1
            · rw [b2i_t ((has_iff (by omega)).mpr ⟨k - 7, hq, rfl⟩), if_neg (by decide), if_pos (by omega)]
              have ea : nI i * 6 + nI k - 7 = nI (i * 6 + (k - 7)) := by
                rw [nI_m6, show nI (i * 6 + k) - 7 = nI (i * 6 + k - 7) from nI_sb (b := 7) (by omega) (by omega), show i * 6 + k - 7 = i * 6 + (k - 7) by omega]
              rw [ea, ald_w (j := i * 6 + (k - 7)) s14 rfl (by rw [l14 hw]; omega) (by omega)]
              simp only [Option.bind_some]
              rw [show k = 7 + (k - 7) by omega, cK_v (by omega), show 7 + (k - 7) - 7 = k - 7 by omega]
            · rw [b2i_f (fun h => hq (by obtain ⟨j, hj, he⟩ := (has_iff (by omega)).mp h; have := (nI_eq (by omega) (by omega)).mp he; omega)), if_pos (by decide), if_neg (by omega)]
          · rw [if_pos (show 13 ≤ nI k by rw [ti_le, t13]; omega), if_neg (by omega)]
    · rw [if_neg h1]
      by_cases h2 : a < 0
      · rw [if_pos h2]
      · rw [if_neg h2, if_neg]
        intro h3
        apply h1
        unfold hasN
        rw [decide_eq_true_iff]
        refine ⟨h2, ?_⟩
        rw [ti_lt] at h3
        rw [ti_le]
        omega
  · obtain ⟨mg, mc, ms, mo⟩ := J_md hr h.1
    have hw1 := hr.1
    have hn : mdN (w1.1 279) = st.2.1.length := hr.2.1.n
    have a0 : ald 0 (hp w1) 279 0 = some (nI (pNp st.1)) := by rw [ldN hw1 (i := 0) (j := 0) rfl (by omega), ← e0, ← mg]; rfl
    have a1 : ald 0 (hp w1) 279 1 = some (nI (pNs st.1)) := by rw [ldN hw1 (i := 1) (j := 1) rfl (by omega), ← es, ← mg]; rfl
    unfold cutP
    simp only [Mod_cut, Mod_cut_j57, k274, Option.bind_some, Mod_isCut_w hw1 mo, bnd2_some, Mod_isIn_w, c274_5, a0, a1, hn]
    by_cases h1 : hasN (nI st.2.1.length) a = true
    · rw [b2i_t h1, if_pos (by decide), if_pos h1]
      obtain ⟨i, hi', rfl⟩ := (has_iff (by omega)).mp h1
      rw [nI_clamp (by omega)]
      have hci : mdC1 (w1.1 279) i = st.2.1.getD i [] := by rw [← mc, mdC_get (by omega)]
      have i1 : isInP b 0 2 = true ↔ 0 ≤ b.toInt ∧ b.toInt ≤ 2 := by rw [isIn_iff, ti_0, t2]
      have i2 : isInP b 3 (3 + nI (pNp st.1) - 1) = true ↔ 3 ≤ b.toInt ∧ b.toInt < 3 + pNp st.1 := by
        rw [isIn_iff, show (3 : Int32) + nI (pNp st.1) - 1 = nI (3 + pNp st.1 - 1) from by rw [show (3 : Int32) + nI (pNp st.1) = nI (3 + pNp st.1) from nI_add 3 _]; exact nI_sb (b := 1) (by omega) (by omega), nI_toInt (by omega), t3]
        omega
      have i3 : isInP b 7 (7 + nI (pNs st.1) - 1) = true ↔ 7 ≤ b.toInt ∧ b.toInt < 7 + pNs st.1 := by
        rw [isIn_iff, show (7 : Int32) + nI (pNs st.1) - 1 = nI (7 + pNs st.1 - 1) from by rw [show (7 : Int32) + nI (pNs st.1) = nI (7 + pNs st.1) from nI_add 7 _]; exact nI_sb (b := 1) (by omega) (by omega), nI_toInt (by omega), t7]
        omega
      by_cases hb : (0 ≤ b.toInt ∧ b.toInt ≤ 2) ∨ (3 ≤ b.toInt ∧ b.toInt < 3 + pNp st.1) ∨ (7 ≤ b.toInt ∧ b.toInt < 7 + pNs st.1)
      · rw [if_pos hb]
        obtain ⟨k, hk, rfl, hk2⟩ := i32_nat (i := b) (by omega)
        rw [nI_clamp hk, Mod_ofCut_w hw1 (i := i) (k := k) (by omega) (by omega), hci]
        simp only [bnd2_some]
        by_cases q1 : isInP (nI k) 0 2 = true
        · rw [b2i_t q1, if_pos (by decide)]
        rw [b2i_f q1, if_neg (by decide)]
        by_cases q2 : isInP (nI k) 3 (3 + nI (pNp st.1) - 1) = true
        · rw [b2i_t q2, if_pos (by decide)]
        rw [b2i_f q2, if_neg (by decide)]
        by_cases q3 : isInP (nI k) 7 (7 + nI (pNs st.1) - 1) = true
        · rw [b2i_t q3, if_neg (by decide)]
        exfalso
        rw [i1] at q1
        rw [i2] at q2
        rw [i3] at q3
        omega
      · rw [if_neg hb, b2i_f (fun h => hb (.inl (i1.mp h))), if_neg (by decide), b2i_f (fun h => hb (.inr (.inl (i2.mp h)))), if_neg (by decide), b2i_f (fun h => hb (.inr (.inr (i3.mp h)))), if_pos (by decide)]
    · rw [b2i_f h1, if_neg (by decide), if_neg h1]
end Rd
