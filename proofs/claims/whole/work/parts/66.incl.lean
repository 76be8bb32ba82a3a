theorem units_nI : ∀ plan : Fin 256, ∀ p : Fin 4, unitsI (nI plan.1) p.1 = nI (plan.1 / 4 ^ p.1 % 4) := by decide +kernel
theorem units_d {plan p : Nat} (h : plan < 256) (hp' : p < 4) : unitsI (nI plan) p = nI (plan / 4 ^ p % 4) := units_nI ⟨plan, h⟩ ⟨p, hp'⟩
/-- values of a cut by digits -/
theorem val_digits {g : PD} (hg : wfP g) {cut : List Int32} {a b c d : Nat} (ha : a < 4) (hb : b < 4) (hc : c < 4) (hd : d < 4) : valP g cut (nI (64 * d + 16 * c + 4 * b + a)) = baseP g cut - nI d * slopeP g cut 3 - nI c * slopeP g cut 2 - nI b * slopeP g cut 1 - nI a * slopeP g cut 0 := by
  have hn := hg.1.1.2
  have hp : 64 * d + 16 * c + 4 * b + a < 256 := by omega
  have u0 := units_d hp (show 0 < 4 by omega)
  have u1 := units_d hp (show 1 < 4 by omega)
  have u2 := units_d hp (show 2 < 4 by omega)
  have u3 := units_d hp (show 3 < 4 by omega)
  rw [show (64 * d + 16 * c + 4 * b + a) / 4 ^ 0 % 4 = a by omega] at u0
  rw [show (64 * d + 16 * c + 4 * b + a) / 4 ^ 1 % 4 = b by omega] at u1
  rw [show (64 * d + 16 * c + 4 * b + a) / 4 ^ 2 % 4 = c by omega] at u2
  rw [show (64 * d + 16 * c + 4 * b + a) / 4 ^ 3 % 4 = d by omega] at u3
  have z : ∀ p, p < 4 → pNp g ≤ p → slopeP g cut p = 0 := by
    intro p hp' h
    unfold slopeP
    rw [(hg.2.2.2.2.1 p h hp').2.1, Int32.zero_mul]
  unfold valP
  have : pNp g = 0 ∨ pNp g = 1 ∨ pNp g = 2 ∨ pNp g = 3 ∨ pNp g = 4 := by omega
  rcases this with h | h | h | h | h <;> rw [h] at z ⊢ <;> simp only [sumN, u0, u1, u2, u3]
  · rw [z 0 (by omega) (by omega), z 1 (by omega) (by omega), z 2 (by omega) (by omega), z 3 (by omega) (by omega)]; grind
  · rw [z 1 (by omega) (by omega), z 2 (by omega) (by omega), z 3 (by omega) (by omega)]; grind
  · rw [z 2 (by omega) (by omega), z 3 (by omega) (by omega)]; grind
  · rw [z 3 (by omega) (by omega)]; grind
  · grind
def incI (w W : Wd) (g : PD) (cs : List (List Int32)) (cut : List Int32) (n : Nat) : Prop := WL W ∧ Fr w W 34 36 ∧ ∀ plan, plan < 256 → isPlanP g (nI plan) = true → (W.1 35).getD plan 0 = b2i (barP g (if plan < n then cs ++ [cut] else cs) (nI plan)) ∧ ∀ c, c < 4 → (W.1 34).getD (c * 256 + plan) 0 = rchP g (if plan < n then cs ++ [cut] else cs) c (nI plan)
theorem incI.jump {w W : Wd} {g : PD} {cs : List (List Int32)} {cut : List Int32} {n m : Nat} (h : incI w W g cs cut n) (hj : ∀ plan, plan < 256 → isPlanP g (nI plan) = true → (plan < n ↔ plan < m)) : incI w W g cs cut m := by
  refine ⟨h.1, h.2.1, fun plan hp' hv => ?_⟩
  have a := h.2.2 plan hp' hv
  have b := hj plan hp' hv
  by_cases hn : plan < n
  · rw [if_pos hn] at a
    rw [if_pos (b.mp hn)]; exact a
  · rw [if_neg hn] at a
    rw [if_neg (fun h' => hn (b.mpr h'))]; exact a
theorem plan_digit {g : PD} {plan p : Nat} (h : plan < 256) (hv : isPlanP g (nI plan) = true) (hp' : p < 4) : nI (plan / 4 ^ p % 4) ≤ pMost g p := by
  unfold isPlanP at hv
  rw [Bool.and_eq_true, List.all_eq_true] at hv
  have := hv.2 p (List.mem_range.mpr hp')
  rw [← units_d h hp']
  simpa using this
theorem rch_snoc {g : PD} {cs : List (List Int32)} {cut : List Int32} {c : Nat} {plan : Int32} : rchP g (cs ++ [cut]) c plan = rchF g c plan (rchP g cs c plan) cut := by
  unfold rchP; rw [List.foldl_append]; rfl
theorem bar_snoc {g : PD} {cs : List (List Int32)} {cut : List Int32} {plan : Int32} : barP g (cs ++ [cut]) plan = (barP g cs plan || (decide (cK cut 1 = 1) && !decide (valP g cut plan ≤ 0))) := by
  unfold barP; rw [List.any_append]; simp
theorem inc_step {w W : Wd} {cs : List (List Int32)} {cut : List Int32} {n a cc b0 : Nat} {v2 : Nat} {v3 v4 v5 v6 v7 v8 v11 v12 v13 val : Int32} (hg : wfP (pdW w 2)) (hI : incI w W (pdW w 2) cs cut n) (hn : n < 256) (hv : isPlanP (pdW w 2) (nI n) = true) (hcc : cc < 4) (hc0 : cK cut 0 = nI cc) (hb0 : b0 + a = n) (ha : ¬ pMost (pdW w 2) 0 < nI a) (hval : val = valP (pdW w 2) cut (nI n)) : ∃ W', Bnds_include_b158 33 2 v2 v3 v4 v5 v6 v7 v8 (b2i (decide (cK cut 1 = 1))) (nI (cc * 256)) v11 v12 v13 (nI b0) (val, nI a, hp W) = some (.inl (val - v5, nI (a + 1), hp W')) ∧ incI w W' (pdW w 2) cs cut (n + 1) := by
  obtain ⟨hW, hF, hE⟩ := hI
  have egW : pdW W 2 = pdW w 2 := pd_fr hF (by omega)
  have L5 := l5 hW
  have L34 := l34 hW
  have L35 := l35 hW
  have hEn := hE n hn hv
  rw [if_neg (by omega)] at hEn
  have em : (W.1 5).getD 0 0 = pMost (pdW w 2) 0 := by rw [← egW]; rfl
  simp only [Bnds_include_b158, c2_5, Option.bind_some]
  rw [ald_w (i := 0) (j := 0) s5 rfl (by omega) (by omega)]
  simp only [Option.bind_some]
  rw [em, if_neg ha]
  -- the rows of other plans stay
  by_cases hr : cK cut 1 = 1
  · have e1 : b2i (decide (cK cut 1 = 1)) = 1 := by simp [hr, b2i]
    rw [e1, if_neg (by decide)]
    simp only [c33_2, Option.bind_some, nI_add, hb0]
    rw [ald_w (j := n) s35 rfl (by omega) (by omega), hEn.1]
    simp only [Option.bind_some]
    have done : ∀ y : Int32, y = b2i (barP (pdW w 2) (cs ++ [cut]) (nI n)) → ∃ W', Bnds_include_j206 33 2 v2 v3 v4 v5 v6 v7 v8 1 (nI (cc * 256)) v11 v12 v13 val (nI b0) (nI a) 35 (nI n) y (hp W) = some (.inl (val - v5, nI (a + 1), hp W')) ∧ incI w W' (pdW w 2) cs cut (n + 1) := by
      intro y hy
      unfold Bnds_include_j206 Bnds_include_j243
      rw [ast_w (j := n) s35 rfl (by omega) (by omega)]
      simp only [Option.bind_some, nI_1]
      have en : nar 1 y = y := by rw [hy]; cases barP (pdW w 2) (cs ++ [cut]) (nI n) <;> rfl
      refine ⟨_, rfl, hW.S, Fr.cA hF (by omega) (by omega), ?_⟩
      intro plan hp' hpl
      have hE' := hE plan hp' hpl
      rw [wA_s, wA_n (by omega), gD_set]
      by_cases h : n = plan
      · subst h
        rw [if_pos ⟨rfl, by omega⟩, if_pos (by omega), en]
        refine ⟨hy, fun c hc => ?_⟩
        rw [hEn.2 c hc, rch_snoc]
        unfold rchF
        rw [if_neg (fun h => h.2.1 hr)]
      · rw [if_neg (fun h' => h h'.1)]
        by_cases h2 : plan < n
        · rw [if_pos h2] at hE'
          rw [if_pos (by omega)]; exact hE'
        · rw [if_neg h2] at hE'
          rw [if_neg (by omega)]; exact hE'
    by_cases ho : barP (pdW w 2) cs (nI n) = true
    · rw [ho, if_pos (by decide)]
      unfold Bnds_include_j201
      exact done 1 (by rw [bar_snoc, ho]; rfl)
    · have ho' : barP (pdW w 2) cs (nI n) = false := by simpa using ho
      rw [ho', if_neg (by decide)]
      by_cases hz : val ≤ 0
      · rw [if_pos hz]
        exact done 0 (by rw [bar_snoc, ho', ← hval]; simp [hz, b2i])
      · rw [if_neg hz]
        unfold Bnds_include_j201
        exact done 1 (by rw [bar_snoc, ho', ← hval]; simp [hz, hr, b2i])
  · have e1 : b2i (decide (cK cut 1 = 1)) = 0 := by simp [hr, b2i]
    rw [e1, if_pos rfl]
    simp only [c33_1, Option.bind_some]
    have ei : nI (cc * 256) + nI b0 + nI a = nI (cc * 256 + n) := by rw [nI_add, nI_add, Nat.add_assoc, hb0]
    rw [ei, ald_w (j := cc * 256 + n) s34 rfl (by omega) (by omega), hEn.2 cc hcc]
    simp only [Option.bind_some]
    have bn : barP (pdW w 2) (cs ++ [cut]) (nI n) = barP (pdW w 2) cs (nI n) := by rw [bar_snoc]; simp [hr]
    by_cases hle : val ≤ rchP (pdW w 2) cs cc (nI n)
    · rw [if_pos hle]
      simp only [Bnds_include_j243, nI_1]
      refine ⟨W, rfl, hW, hF, ?_⟩
      intro plan hp' hpl
      have hE' := hE plan hp' hpl
      by_cases h : n = plan
      · subst h
        rw [if_pos (by omega), bn]
        refine ⟨hEn.1, fun c hc => ?_⟩
        rw [hEn.2 c hc, rch_snoc]
        unfold rchF
        rw [if_neg]
        rintro ⟨h1, _, h3⟩
        have : cc = c := (nI_eq (by omega) (by omega)).mp (hc0.symm.trans h1)
        subst this
        rw [← hval] at h3
        exact h3 hle
      · by_cases h2 : plan < n
        · rw [if_pos h2] at hE'
          rw [if_pos (by omega)]; exact hE'
        · rw [if_neg h2] at hE'
          rw [if_neg (by omega)]; exact hE'
    · rw [if_neg hle]
      rw [ast_w (j := cc * 256 + n) s34 rfl (by omega) (by omega)]
      simp only [Option.bind_some, Bnds_include_j243, nI_1]
      refine ⟨_, rfl, hW.S, Fr.cA hF (by omega) (by omega), ?_⟩
      intro plan hp' hpl
      have hE' := hE plan hp' hpl
      rw [wA_n (by omega), wA_s]
      by_cases h : n = plan
      · subst h
        rw [if_pos (by omega), bn]
        refine ⟨hEn.1, fun c hc => ?_⟩
        rw [gD_set, rch_snoc]
        unfold rchF
        by_cases hcx : cc = c
        · subst hcx
          rw [if_pos ⟨rfl, by omega⟩, if_pos ⟨hc0, hr, by rw [← hval]; exact hle⟩, ← hval]
          rfl
        · rw [if_neg (by omega), if_neg (fun h' => hcx ((nI_eq (by omega) (by omega)).mp (hc0.symm.trans h'.1)))]
          exact hEn.2 c hc
      · have k : ∀ c, c < 4 → ((W.1 34).set (cc * 256 + n) (nar 0 val)).getD (c * 256 + plan) 0 = (W.1 34).getD (c * 256 + plan) 0 := by
          intro c hc
          rw [gD_set, if_neg (by omega)]
        by_cases h2 : plan < n
        · rw [if_pos h2] at hE'
          rw [if_pos (by omega)]
          exact ⟨hE'.1, fun c hc => by rw [k c hc]; exact hE'.2 c hc⟩
        · rw [if_neg h2] at hE'
          rw [if_neg (by omega)]
          exact ⟨hE'.1, fun c hc => by rw [k c hc]; exact hE'.2 c hc⟩
