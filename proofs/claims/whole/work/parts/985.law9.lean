/-! calls that only ask: count -/
def cn4 (a b c d : Nat) : Nat → Nat
  | 0 => 0
  | n + 1 => cn4 a b c d n + if (Nat.ble (n % 4) a && Nat.ble (n / 4 % 4) b && Nat.ble (n / 16 % 4) c && Nat.ble (n / 64 % 4) d) = true then 1 else 0
theorem cn4_all : ∀ a b c d : Fin 4, cn4 a.1 b.1 c.1 d.1 256 = (a.1 + 1) * (b.1 + 1) * (c.1 + 1) * (d.1 + 1) := by decide +kernel
theorem most_lt4 {g : PD} (hg : wfP g) {p : Nat} (hp' : p < 4) : ∃ m, m < 4 ∧ pMost g p = nI m := by
  have h := (hg.2.2.1 p hp').2.2
  unfold rng at h
  obtain ⟨k, hk, h1, h2⟩ := i32_nat (i := pMost g p) h.1
  exact ⟨k, by omega, h1⟩
theorem plan_ble {g : PD} {a b c d n : Nat} (hn : n < 256) (h0 : pMost g 0 = nI a) (h1 : pMost g 1 = nI b) (h2 : pMost g 2 = nI c) (h3 : pMost g 3 = nI d) (ha : a < 4) (hb : b < 4) (hc : c < 4) (hd : d < 4) : isPlanP g (nI n) = (Nat.ble (n % 4) a && Nat.ble (n / 4 % 4) b && Nat.ble (n / 16 % 4) c && Nat.ble (n / 64 % 4) d) := by
  have key : ∀ (p m q : Nat), p < 4 → pMost g p = nI m → m < 4 → n / 4 ^ p % 4 = q → decide (unitsI (nI n) p ≤ pMost g p) = Nat.ble q m := by
    intro p m q hp' hm hm4 hq
    rw [units_d hn hp', hm, hq]
    rw [Bool.eq_iff_iff, decide_eq_true_iff, Nat.ble_eq, ti_le, nI_toInt (by omega), nI_toInt (by omega)]
    omega
  unfold isPlanP
  rw [decide_eq_true (p := (0 ≤ nI n ∧ nI n < 256)) ⟨by rw [ti_le, ti_0, nI_toInt (by omega)]; omega, by rw [ti_lt, show (256 : Int32).toInt = 256 from rfl, nI_toInt (by omega)]; omega⟩, Bool.true_and]
  rw [show List.range 4 = [0, 1, 2, 3] from rfl]
  simp only [List.all_cons, List.all_nil, Bool.and_true]
  rw [key 0 a (n % 4) (by omega) h0 ha (by omega), key 1 b (n / 4 % 4) (by omega) h1 hb (by omega), key 2 c (n / 16 % 4) (by omega) h2 hc (by omega), key 3 d (n / 64 % 4) (by omega) h3 hd (by omega), Bool.and_assoc, Bool.and_assoc]
def plN (g : PD) : Nat → Int32
  | 0 => 0
  | n + 1 => if isPlanP g (nI n) = true then plN g n + 1 else plN g n
theorem prod_ext {f : Nat → Int32} {m : Nat} : ∀ k, (∀ p, m ≤ p → p < m + k → f p = 1) → prodN f (m + k) = prodN f m := by
  intro k
  induction k with
  | zero => intro _; rfl
  | succ k ih =>
    intro h
    show prodN f (m + k) * f (m + k) = _
    rw [ih (fun p h1 h2 => h p h1 (by omega)), h (m + k) (by omega) (by omega), Int32.mul_one]
theorem plN_eq {g : PD} (hg : wfP g) : plN g 256 = plansP g := by
  obtain ⟨a, ha, e0⟩ := most_lt4 hg (p := 0) (by omega)
  obtain ⟨b, hb, e1⟩ := most_lt4 hg (p := 1) (by omega)
  obtain ⟨c, hc, e2⟩ := most_lt4 hg (p := 2) (by omega)
  obtain ⟨d, hd, e3⟩ := most_lt4 hg (p := 3) (by omega)
  have h1 : ∀ n, n ≤ 256 → plN g n = nI (cn4 a b c d n) := by
    intro n
    induction n with
    | zero => intro _; rfl
    | succ n ih =>
      intro hn
      show (if isPlanP g (nI n) = true then plN g n + 1 else plN g n) = nI (cn4 a b c d n + if (Nat.ble (n % 4) a && Nat.ble (n / 4 % 4) b && Nat.ble (n / 16 % 4) c && Nat.ble (n / 64 % 4) d) = true then 1 else 0)
      rw [ih (by omega), plan_ble (show n < 256 by omega) e0 e1 e2 e3 ha hb hc hd]
      split
      · exact nI_1 _
      · rfl
  have hnp := hg.1.1.2
  have h2 : plansP g = prodN (fun p => pMost g p + 1) 4 := by
    unfold plansP
    have := prod_ext (f := fun p => pMost g p + 1) (m := pNp g) (4 - pNp g) (fun p h3 h4 => by rw [most_out hg (by omega) h3]; rfl)
    rw [show pNp g + (4 - pNp g) = 4 by omega] at this
    exact this.symm
  rw [h1 256 (by omega), h2, cn4_all ⟨a, ha⟩ ⟨b, hb⟩ ⟨c, hc⟩ ⟨d, hd⟩]
  simp only [prodN, e0, e1, e2, e3, nI_1, Int32.one_mul, nI_mul]
theorem Mod_plans_w {w : Wd} (hw : WL w) (hg : wfP (mdG (w.1 279))) : Mod_plans 274 (hp w) = some (plansP (mdG (w.1 279)), hp w) := by
  have hit : iter (Mod_plans_b4 274) Lmax (0, 0, hp w) = some (plN (mdG (w.1 279)) 256, nI 256, hp w) := by
    refine iter_L (fun j => (plN (mdG (w.1 279)) j, nI j, hp w)) 256 (by omega) ?_ ?_
    · intro j hj
      have hc : ¬ (256 : Int32) ≤ nI j := nI_ge (b := 256) hj (by omega)
      simp only [Mod_plans_b4, Mod_plans_j25, if_neg hc, k274, Option.bind_some, Mod_isPlan_w hw hg, bnd2_some, nI_1, plN, Int32.add_zero]
      by_cases h : isPlanP (mdG (w.1 279)) (nI j) = true
      · rw [b2i_t h, if_neg (by decide), if_pos h]
      · rw [b2i_f h, if_pos rfl, if_neg h]
    · simp only [Mod_plans_b4, if_pos (show (256 : Int32) ≤ nI 256 by decide)]
  simp only [Mod_plans, hit, Option.bind_some, Mod_plans_j33, plN_eq hg]
theorem Mod_roads_w {w : Wd} (hw : WL w) : Mod_roads 274 (hp w) = some (roadsP (mdG (w.1 279)), hp w) := by
  have hit : iter (Mod_roads_b4 274 (hp w)) Lmax (0, 0) = some (roadsP (mdG (w.1 279)), nI 24) := by
    refine iter_L (fun j => (sumN (fun k => if (mdG (w.1 279)).2.2.2.2.2.2.1.getD k 0 = -1 then 0 else 1) j, nI j)) 24 (by omega) ?_ ?_
    · intro j hj
      have hc : ¬ (24 : Int32) ≤ nI j := nI_ge (b := 24) hj (by omega)
      have aj : ald 0 (hp w) 279 (23 + nI j) = some ((mdG (w.1 279)).2.2.2.2.2.2.1.getD j 0) := by
        rw [ldN hw (i := 23 + nI j) (j := 23 + j) (nI_add 23 j) (by omega)]
        exact congrArg some (slc_get hj).symm
      simp only [Mod_roads_b4, if_neg hc, c274_5, Option.bind_some, aj, Mod_roads_j29, nI_1, sumN]
      by_cases h : (mdG (w.1 279)).2.2.2.2.2.2.1.getD j 0 = -1
      · rw [if_neg (fun hh => hh h), if_pos h]
      · rw [if_pos h, if_neg h]
    · have hc : (24 : Int32) ≤ nI 24 := by decide
      simp only [Mod_roads_b4, if_pos hc]
      rfl
  simp only [Mod_roads, hit, Option.bind_some, Mod_roads_j37]
theorem swiP_k {k lo : Nat} {A : List Int32} {d : Int32} (hk : k < 2 ^ 31) (h : lo ≤ k) : swiP (nI k) lo A d = A.getD (k - lo) d := by
  unfold swiP
  rw [nI_toInt hk, if_neg (by omega), show ((k : Int) - (lo : Int)).toNat = k - lo by omega, List.getD_eq_getElem?_getD]
section Rd
variable {w : Wd} {st : ST} {tm : List Int32} {x : Nat} {hi : List (ST × Int32)} {im : Nat → Option (ST × List Int32)} {rf : Nat → Int32} {ss : Int32} {tp : List Int32} {ft : Int32}
theorem call_count (h : lawJ w st tm x hi im rf ss tp ft) (v : Int32) : callOk w (Sp_count 0 v) (Mod_count 274 v) := by
  obtain ⟨hg, hc, hs⟩ := J_pd h.2.1
  obtain ⟨hgv, hkv, c0, c1, c2⟩ := J_wf h
  have hw := h.2.1.1
  have t2 : (2 : Int32).toInt = 2 := rfl
  have t7 : (7 : Int32).toInt = 7 := rfl
  have t12 : (12 : Int32).toInt = 12 := rfl
  have t13 : (13 : Int32).toInt = 13 := rfl
  have t16 : (16 : Int32).toInt = 16 := rfl
  have t17 : (17 : Int32).toInt = 17 := rfl
  have hh : w.2 49 2 = nI hi.length := h.2.1.2.2.2.1.1.1
  have hT : w.2 40 1 = nI tp.length := h.2.1.2.2.2.2.2.2.1
  have hR := h.2.1.2.2.2.2.2.1.1
  have hroads := Prog_countRoads_w (w := w) isPg_2 hgv
  have hplans := Prog_countPlans_w (w := w) isPg_2 hgv
  rw [hg] at hroads hplans
  have i1 : isInP v 0 2 = true ↔ 0 ≤ v.toInt ∧ v.toInt ≤ 2 := by rw [isIn_iff, ti_0, t2]
  have i2 : isInP v 7 12 = true ↔ 7 ≤ v.toInt ∧ v.toInt ≤ 12 := by rw [isIn_iff, t7, t12]
  have i3 : isInP v 13 16 = true ↔ 13 ≤ v.toInt ∧ v.toInt ≤ 16 := by rw [isIn_iff, t13, t16]
  have j52 : Sp_count_j52 0 v 2 (hp w) = some (swiP v 0 [nI (pNp st.1), nI (pNs st.1), nI (pNc st.1), roadsP st.1, plansP st.1, nI hi.length, nI tp.length] (-1), hp w) := by
    simp only [Sp_count_j52, c2_0, c2_1, c2_2, k2, Option.bind_some, hroads, hplans, bnd2_some, c0_5, c49_2, c0_3, c40_1, c0, c1, c2, hh, hT]
    exact swi_val (A := [_, _, _, _, _, _, _])
  by_cases q7 : 7 ≤ v.toInt ∧ v.toInt ≤ 12
  · obtain ⟨k, hk, rfl, hk2⟩ := i32_nat (i := v) (by omega)
    refine law_pp (y := rf (k - 7)) h ?_ (fun w1 hr => ?_)
    · have a : ald 0 (hp w) 243 (nI k - 7) = some (rf (k - 7)) := by
        rw [show nI k - 7 = nI (k - 7) from nI_sb (b := 7) (by omega) hk, ald_w (j := k - 7) s243 rfl (by rw [l243 hw]; omega) (by omega), hR (k - 7) (by omega)]
      unfold Sp_count
      rw [c0_0, Option.bind_some, c1_0, Option.bind_some, if_neg (show ¬ nI k < 7 by rw [ti_lt, t7]; omega), if_neg (show ¬ 13 ≤ nI k by rw [ti_le, t13]; omega), c0_12, Option.bind_some, a, Option.bind_some]
    · have a : ald 0 (hp w1) 275 (nI k - 6) = some (rf (k - 7)) := by
        rw [show nI k - 6 = nI (k - 6) from nI_sb (b := 6) (by omega) hk, ald_w (j := k - 6) s275 rfl (by rw [l275 hr.1]; omega) (by omega), show k - 6 = k - 7 + 1 by omega, hr.2.2.2.2.2.2.1.1 (k - 7) (by omega)]
      unfold Mod_count
      rw [Mod_isIn_w, bnd2_some, b2i_f (fun hh => by have := i1.mp hh; omega), if_pos rfl, Mod_isIn_w, bnd2_some, b2i_t (i2.mpr q7), if_neg (by decide), c274_1, Option.bind_some, a, Option.bind_some]
  by_cases q13 : 13 ≤ v.toInt ∧ v.toInt ≤ 16
  · obtain ⟨k, hk, rfl, hk2⟩ := i32_nat (i := v) (by omega)
    refine law_pp (y := tm.getD (k - 13) 0) h ?_ (fun w1 hr => ?_)
    · have a : ald 0 (hp w) 16 (nI k - 13) = some (tm.getD (k - 13) 0) := by
        rw [show nI k - 13 = nI (k - 13) from nI_sb (b := 13) (by omega) hk, ald_w (j := k - 13) s16 rfl (by rw [l16 hw]; omega) (by omega), h.2.1.2.2.1]
      unfold Sp_count
      rw [c0_0, Option.bind_some, c1_0, Option.bind_some, if_neg (show ¬ nI k < 7 by rw [ti_lt, t7]; omega), if_pos (show 13 ≤ nI k by rw [ti_le, t13]; omega)]
      unfold Sp_count_j30
      rw [if_neg (show ¬ nI k < 13 by rw [ti_lt, t13]; omega), if_neg (show ¬ 17 ≤ nI k by rw [ti_le, t17]; omega), c0_1, Option.bind_some, a, Option.bind_some]
    · have a : ald 0 (hp w1) 276 (nI k - 13) = some (tm.getD (k - 13) 0) := by
        rw [show nI k - 13 = nI (k - 13) from nI_sb (b := 13) (by omega) hk, ald_w (j := k - 13) s276 rfl (by rw [l276 hr.1]; omega) (by omega), hr.2.2.1]
      unfold Mod_count
      rw [Mod_isIn_w, bnd2_some, b2i_f (fun hh => by have := i1.mp hh; omega), if_pos rfl, Mod_isIn_w, bnd2_some, b2i_f (fun hh => q7 (i2.mp hh)), if_pos rfl, Mod_isIn_w, bnd2_some, b2i_t (i3.mpr q13), if_neg (by decide), c274_2, Option.bind_some, a, Option.bind_some]
  refine law_pp (y := swiP v 0 [nI (pNp st.1), nI (pNs st.1), nI (pNc st.1), roadsP st.1, plansP st.1, nI hi.length, nI tp.length] (-1)) h ?_ (fun w1 hr => ?_)
  · have j30 : Sp_count_j30 0 v 2 (hp w) = Sp_count_j52 0 v 2 (hp w) := by
      unfold Sp_count_j30
      by_cases a1 : v < 13
      · rw [if_pos a1]
      · rw [if_neg a1]
        rw [ti_lt, t13] at a1
        rw [if_pos (by rw [ti_le, t17]; omega)]
    unfold Sp_count
    rw [c0_0, Option.bind_some, c1_0, Option.bind_some]
    by_cases a1 : v < 7
    · rw [if_pos a1, j30, j52]
    · rw [if_neg a1]
      rw [ti_lt, t7] at a1
      rw [if_pos (by rw [ti_le, t13]; omega), j30, j52]
  · obtain ⟨mg, mc, ms, mo⟩ := J_md hr h.1
    obtain ⟨d0, d1, d2⟩ := R_n hr h.1
    by_cases q0 : 0 ≤ v.toInt ∧ v.toInt ≤ 2
    · obtain ⟨k, hk, rfl, hk2⟩ := i32_nat (i := v) (by omega)
      have e := swiP_k (k := k) (lo := 0) (A := [nI (pNp st.1), nI (pNs st.1), nI (pNc st.1), roadsP st.1, plansP st.1, nI hi.length, nI tp.length]) (d := -1) hk (by omega)
      rw [show ((0 : Nat) : Int) = 0 from rfl] at e
      rw [e]
      unfold Mod_count
      rw [Mod_isIn_w, bnd2_some, b2i_t (i1.mpr q0), if_neg (by decide), c274_5, Option.bind_some, ldN hr.1 (i := nI k) (j := k) rfl (by omega), Option.bind_some]
      have : k = 0 ∨ k = 1 ∨ k = 2 := by omega
      rcases this with rfl | rfl | rfl
      · rw [d0]; simp only [List.getD_cons_zero, Nat.sub_self]
      · rw [d1]; simp only [Nat.sub_zero, List.getD_cons_succ, List.getD_cons_zero]
      · rw [d2]; simp only [Nat.sub_zero, List.getD_cons_succ, List.getD_cons_zero]
    · have hroads := Mod_roads_w hr.1
      have hplans := Mod_plans_w hr.1 mo.1
      rw [mg] at hroads hplans
      have e13 : w1.2 274 13 = nI hi.length := hr.2.2.2.2.1.1
      have e9 : w1.2 274 9 = nI tp.length := hr.2.2.2.2.2.2.2.1
      unfold Mod_count
      rw [Mod_isIn_w, bnd2_some, b2i_f (fun hh => q0 (i1.mp hh)), if_pos rfl, Mod_isIn_w, bnd2_some, b2i_f (fun hh => q7 (i2.mp hh)), if_pos rfl, Mod_isIn_w, bnd2_some, b2i_f (fun hh => q13 (i3.mp hh)), if_pos rfl]
      simp only [k274, Option.bind_some, hroads, hplans, bnd2_some, c274_13, c274_9, e13, e9]
      have sv := swi_val (x := v) (lo := 3) (A := [roadsP st.1, plansP st.1, nI hi.length, nI tp.length]) (d := -1) (h := hp w1)
      refine Eq.trans sv ?_
      have : swiP v 3 [roadsP st.1, plansP st.1, nI hi.length, nI tp.length] (-1) = swiP v 0 [nI (pNp st.1), nI (pNs st.1), nI (pNc st.1), roadsP st.1, plansP st.1, nI hi.length, nI tp.length] (-1) := by
        unfold swiP
        by_cases a1 : v.toInt < 3
        · rw [if_pos a1, if_pos (by omega)]
        · rw [if_neg a1, if_neg (by omega)]
          rw [show (v.toInt - 0).toNat = (v.toInt - 3).toNat + 3 by omega]
          rfl
      rw [this]
end Rd
