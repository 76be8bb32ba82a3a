def sumZ (f : Nat → Int) : Nat → Int
  | 0 => 0
  | n + 1 => sumZ f n + f n
def zN (g : PD) (c s : Nat) : Int := (pNeed g c s).toInt
def zK (g : PD) (plan : Int32) (p : Nat) : Int := (stockP g plan p).toInt
def costZ (g : PD) (f : Nat → Nat → Int) : Int := colZ (fun p _ => rowZ (fun p s => f p s * zT g p s) p) 0
theorem and3_rng (x : Int32) : 0 ≤ (x &&& 3).toInt ∧ (x &&& 3).toInt ≤ 3 := by
  have h1 : (x &&& 3).toInt = (x.toBitVec &&& 3#32).toInt := rfl
  have h2 : (x.toBitVec &&& 3#32).toNat ≤ 3 := by
    rw [BitVec.toNat_and]
    exact Nat.and_le_right
  rw [h1, BitVec.toInt_eq_toNat_of_lt (by omega)]
  omega
theorem units_rng (plan : Int32) (p : Nat) : 0 ≤ (unitsI plan p).toInt ∧ (unitsI plan p).toInt ≤ 3 := and3_rng _
theorem mul_rng {a b A B : Int} (h1 : 0 ≤ a) (h2 : a ≤ A) (h3 : 0 ≤ b) (h4 : b ≤ B) : 0 ≤ a * b ∧ a * b ≤ A * B :=
  ⟨Int.mul_nonneg h1 h3, Int.mul_le_mul h2 h4 h3 (Int.le_trans h1 h2)⟩
theorem zK_eq {g : PD} (hg : wfP g) {plan : Int32} {p : Nat} (hp' : p < 4) : zK g plan p = (unitsI plan p).toInt * (pSize g p).toInt ∧ 0 ≤ zK g plan p ∧ zK g plan p ≤ 60 := by
  have a := units_rng plan p
  have b := (hg.2.2.1 p hp').2.1
  have c := mul_rng a.1 a.2 b.1 b.2
  have e : zK g plan p = (unitsI plan p).toInt * (pSize g p).toInt := by
    unfold zK stockP
    rw [ti_mul (by omega) (by omega)]
  rw [e]
  exact ⟨rfl, c.1, by omega⟩
theorem zN_rng {g : PD} (hg : wfP g) {c s : Nat} (hc : c < 4) (hs : s < 6) : 0 ≤ zN g c s ∧ zN g c s ≤ 20 := hg.2.2.2.2.2.2.2.2.2.1 c s hc hs
theorem zN_out {g : PD} (hg : wfP g) {c s : Nat} (hc : c < 4) (hs : s < 6) (h : pNs g ≤ s) : zN g c s = 0 := by
  unfold zN; rw [hg.2.2.2.2.2.2.2.2.2.2 c s hc hs (Or.inr h)]; rfl
/-- what is brought serves a case -/
def served (w W : Wd) (c : Nat) (plan : Int32) : Prop := WL W ∧ Fr w W 20 30 ∧ (∀ x s, x < 4 → s < 6 → 0 ≤ fl W x s) ∧ (∀ s, s < 6 → colZ (fl W) s = zN (pdW w 2) c s) ∧ (∀ p, p < 4 → 0 ≤ zA W 24 p ∧ zA W 24 p + rowZ (fl W) p = zK (pdW w 2) plan p) ∧ ∃ π : Nat → Int, (∀ p, p < 4 → 0 ≤ π p ∧ (0 < zA W 24 p → π p = 0)) ∧ ∀ x s, x < 4 → s < 6 → 0 < fl W x s → tight (pdW w 2) π x s
theorem serve_site {w W : Wd} {K N r : Nat → Int} {s : Nat} {v2 v3 rest : Int32} (hg : wfP (pdW w 2)) (hh : hall (pdW w 2) K N) (hI : flI w W K r) (hs : s < 6) (hr : ∀ t, t < 6 → 0 ≤ r t ∧ r t ≤ N t ∧ N t ≤ 20) (h0 : r s = 0) (hrest : rest.toInt = N s) : ∃ W' a b, iter (Frt_costAt_b57 19 2 v2 v3 (nI s)) Lmax (rest, 0, hp W) = some (a, b, hp W') ∧ flI w W' K (fun t => if t = s then N s else r t) := by
  obtain ⟨q, i1, a, b, W', rfl, hf⟩ := iter_I (body := Frt_costAt_b57 19 2 v2 v3 (nI s)) (fun j st => ∃ (x : Int32) (W : Wd), st = (x, nI j, hp W) ∧ 0 ≤ x.toInt ∧ x.toInt + j ≤ 20 ∧ x.toInt ≤ N s ∧ flI w W K (fun t => if t = s then N s - x.toInt else r t)) (fun q => ∃ a b W, q = (a, b, hp W) ∧ flI w W K (fun t => if t = s then N s else r t)) 20 (s0 := (rest, 0, hp W)) (by omega) ⟨rest, W, rfl, by rw [hrest]; exact Int.le_trans (hr s hs).1 (hr s hs).2.1, by rw [hrest]; have := (hr s hs).2.2; omega, by omega, by
      have : (fun t => if t = s then N s - rest.toInt else r t) = r := by
        funext t
        by_cases h : t = s
        · subst h; rw [if_pos rfl, h0]; omega
        · rw [if_neg h]
      rw [this]; exact hI⟩ (by
    rintro j st hj ⟨x, V, rfl, x1, x2, x3, x4⟩
    have hcn : ¬ (20 : Int32) ≤ nI j := nI_ge (b := 20) hj (by omega)
    have Z : (0 : Int32).toInt = 0 := rfl
    by_cases hx : x ≤ 0
    · right
      refine ⟨(x, nI j, hp V), by simp only [Frt_costAt_b57, if_neg hcn, if_pos hx], x, nI j, V, rfl, ?_⟩
      rw [ti_le, Z] at hx
      have e : x.toInt = 0 := by omega
      rw [e] at x4
      simpa using x4
    · left
      simp only [Frt_costAt_b57, if_neg hcn, if_neg hx, k19, Option.bind_some]
      rw [ti_le, Z] at hx
      obtain ⟨p, W1, amt, W2, g1, g2, g3, g4, g5, g6⟩ := serve (most := x) hg hh x4 hs (by
        intro t ht
        have a := hr t ht
        have b := hr s hs
        by_cases h : t = s
        · subst h; simp only [↓reduceIte]; omega
        · simp only [if_neg h]; omega) (by simp only [↓reduceIte]; omega) (by simp only [↓reduceIte]; omega)
      rw [g2, bnd2_some, if_pos (nI_ne_m1 g1)]
      simp only [k19, Option.bind_some, g3, bnd2_some, Frt_costAt_j100, nI_1]
      have es : (x - amt).toInt = x.toInt - amt.toInt := ti_sub (by omega) (by omega)
      refine ⟨_, rfl, x - amt, W2, rfl, by omega, by omega, by omega, ?_⟩
      rw [es]
      have : (fun t => (if t = s then N s - x.toInt else r t) + if t = s then amt.toInt else 0) = (fun t => if t = s then N s - (x.toInt - amt.toInt) else r t) := by
        funext t
        by_cases h : t = s
        · subst h; simp only [↓reduceIte]; omega
        · simp only [if_neg h]; omega
      rw [← this]; exact g6) (by
    rintro st ⟨x, V, rfl, x1, x2, x3, x4⟩
    refine ⟨(x, nI 20, hp V), by simp only [Frt_costAt_b57, if_pos (show (20 : Int32) ≤ nI 20 by decide)], x, nI 20, V, rfl, ?_⟩
    have e : x.toInt = 0 := by omega
    rw [e] at x4
    simpa using x4)
  exact ⟨W', a, b, i1, hf⟩
theorem fl_le {f : Nat → Nat → Int} {s p : Nat} {b : Int} (hp' : p < 4) (h : ∀ x, x < 4 → 0 ≤ f x s) (hb : colZ f s ≤ b) : f p s ≤ b := Int.le_trans (col_ge hp' h) hb
theorem Frt_costAt_w {w : Wd} {c : Nat} {plan : Int32} (hw : WL w) (hg : wfP (pdW w 2)) (hc : c < 4) (hh : hall (pdW w 2) (zK (pdW w 2) plan) (zN (pdW w 2) c)) : ∃ w' cost, Frt_costAt 19 2 (nI c) plan (hp w) = some (cost, hp w') ∧ served w w' c plan ∧ cost.toInt = costZ (pdW w 2) (fl w') ∧ w'.1 22 = w.1 22 ∧ w'.1 23 = w.1 23 := by
  have hns := hg.1.2.1
  obtain ⟨V, v1, v2, v3, v4, v5⟩ := Frt_findStocks_w (plan := plan) hw hg
  have L20 := l20 v2
  have L24 := l24 v2
  have L25 := l25 v2
  have hW0 : WL (wA (wA V 24 (cpyL (V.1 20) (V.1 24) 0 0 4)) 25 (List.replicate ((wA V 24 (cpyL (V.1 20) (V.1 24) 0 0 4)).1 25).length 0)) := by
    refine WL.A (WL.A v2 ?_) ?_
    · rw [cpy_len]; exact v2 24
    · rw [List.length_replicate, wA_n (by omega)]; exact v2 25
  have hF0 : Fr V (wA (wA V 24 (cpyL (V.1 20) (V.1 24) 0 0 4)) 25 (List.replicate ((wA V 24 (cpyL (V.1 20) (V.1 24) 0 0 4)).1 25).length 0)) 24 26 := by
    repeat (first | exact Fr.rfl' | refine Fr.cA ?_ ?_ ?_ | refine Fr.cF ?_ ?_ ?_)
    all_goals omega
  have h24 : ∀ p, p < 4 → zA (wA (wA V 24 (cpyL (V.1 20) (V.1 24) 0 0 4)) 25 (List.replicate ((wA V 24 (cpyL (V.1 20) (V.1 24) 0 0 4)).1 25).length 0)) 24 p = zK (pdW w 2) plan p := by
    intro p hp'
    unfold zA zK
    rw [wA_n (by omega), wA_s, gD_cpy, if_pos ⟨⟨by omega, by omega⟩, by omega⟩, ← v3 p hp']
    simp
  have h25 : ∀ x s, x < 4 → s < 6 → fl (wA (wA V 24 (cpyL (V.1 20) (V.1 24) 0 0 4)) 25 (List.replicate ((wA V 24 (cpyL (V.1 20) (V.1 24) 0 0 4)).1 25).length 0)) x s = 0 := by
    intro x s hx hs
    unfold fl zA
    rw [wA_s, wA_n (by omega), List.getD_eq_getElem?_getD, List.getElem?_replicate, if_pos (by omega)]
    rfl
  have hstart : Frt_costAt 19 2 (nI c) plan (hp w) = (iter (Frt_costAt_b31 19 2 (nI c) plan) Lmax (0, hp (wA (wA V 24 (cpyL (V.1 20) (V.1 24) 0 0 4)) 25 (List.replicate ((wA V 24 (cpyL (V.1 20) (V.1 24) 0 0 4)).1 25).length 0)))).bind (fun (q31 : Int32 × AHeap) => Frt_costAt_j115 19 2 (nI c) plan q31.1 q31.2) := by
    unfold Frt_costAt
    simp only [k19, Option.bind_some, v1, bnd2_some, c19_0, c19_4]
    rw [acp_w (sp := 0) (dp := 0) (m := 4) (i := 0) (j := 0) (n := 4) s20 s24 rfl rfl rfl (by omega) (by omega) (by omega) (by omega) (by omega)]
    simp only [Option.bind_some, c19_5]
    rw [fill_w s25 (by rw [wA_n (by omega)]; omega), bnd2_some]
  rw [hstart]
  clear hstart
  generalize wA (wA V 24 (cpyL (V.1 20) (V.1 24) 0 0 4)) 25 (List.replicate ((wA V 24 (cpyL (V.1 20) (V.1 24) 0 0 4)).1 25).length 0) = U at *
  have egU : pdW U 2 = pdW w 2 := by rw [pd_fr hF0 (by omega), pd_fr v5 (by omega)]
  have hI0 : flI U U (zK (pdW w 2) plan) (fun t => if t < 0 then zN (pdW w 2) c t else 0) := by
    refine ⟨hW0, Fr.rfl', fun x s hx hs => by rw [h25 x s hx hs]; omega, ?_, ?_, fun _ => 0, fun _ _ => ⟨Int.le_refl _, fun _ => rfl⟩, fun x s hx hs h => by rw [h25 x s hx hs] at h; omega⟩
    · intro s hs
      show colZ (fl U) s = if s < 0 then zN (pdW w 2) c s else 0
      rw [if_neg (by omega)]
      unfold colZ
      rw [h25 0 s (by omega) hs, h25 1 s (by omega) hs, h25 2 s (by omega) hs, h25 3 s (by omega) hs]
      rfl
    · intro p hp'
      have a := zK_eq hg (plan := plan) hp'
      rw [h24 p hp']
      refine ⟨a.2.1, ?_⟩
      unfold rowZ
      rw [h25 p 0 hp' (by omega), h25 p 1 hp' (by omega), h25 p 2 hp' (by omega), h25 p 3 hp' (by omega), h25 p 4 hp' (by omega), h25 p 5 hp' (by omega)]
      omega
  have hgU : wfP (pdW U 2) := by rw [egU]; exact hg
  have hhU : hall (pdW U 2) (zK (pdW w 2) plan) (zN (pdW w 2) c) := by rw [egU]; exact hh
  obtain ⟨q, i1, W, rfl, hW⟩ := iter_I (body := Frt_costAt_b31 19 2 (nI c) plan) (fun j st => ∃ W, st = (nI j, hp W) ∧ flI U W (zK (pdW w 2) plan) (fun t => if t < j then zN (pdW w 2) c t else 0)) (fun q => ∃ W, q = (nI (pNs (pdW w 2)), hp W) ∧ flI U W (zK (pdW w 2) plan) (fun t => if t < pNs (pdW w 2) then zN (pdW w 2) c t else 0)) (pNs (pdW w 2)) (s0 := (0, hp U)) (by omega) ⟨U, rfl, hI0⟩ (by
    rintro j st hj ⟨W, rfl, hW⟩
    left
    have hcn : ¬ nI (pNs (pdW w 2)) ≤ nI j := nI_ge hj (by omega)
    have eg : pdW W 2 = pdW w 2 := by rw [pd_fr hW.2.1 (by omega), egU]
    have e1 : W.2 2 1 = nI (pNs (pdW w 2)) := by
      have : (pdW W 2).2.1 = (pdW w 2).2.1 := by rw [eg]
      exact this.trans hns.1
    have L8 := l8 hW.1
    simp only [Frt_costAt_b31, c2_1, Option.bind_some, e1, if_neg hcn, c2_8, nI_m6]
    rw [ald_w (j := c * 6 + j) s8 rfl (by omega) (by omega)]
    simp only [Option.bind_some]
    have en : (W.1 8).getD (c * 6 + j) 0 = pNeed (pdW w 2) c j := by rw [← eg]; rfl
    rw [en]
    obtain ⟨W', a, b, f1, f2⟩ := serve_site (v2 := nI c) (v3 := plan) (rest := pNeed (pdW w 2) c j) hgU hhU hW (show j < 6 by omega) (by
      intro t ht
      have := zN_rng hg hc ht
      by_cases h : t < j
      · simp only [if_pos h]; omega
      · simp only [if_neg h]; omega) (by simp) rfl
    simp only [f1, Option.bind_some, Frt_costAt_j109, nI_1]
    refine ⟨_, rfl, W', rfl, ?_⟩
    have : (fun t => if t = j then zN (pdW w 2) c j else if t < j then zN (pdW w 2) c t else 0) = (fun t => if t < j + 1 then zN (pdW w 2) c t else 0) := by
      funext t
      by_cases h : t = j
      · subst h; simp
      · by_cases h2 : t < j
        · rw [if_neg h, if_pos h2, if_pos (by omega)]
        · rw [if_neg h, if_neg h2, if_neg (by omega)]
    rw [← this]; exact f2) (by
    rintro st ⟨W, rfl, hW⟩
    have eg : pdW W 2 = pdW w 2 := by rw [pd_fr hW.2.1 (by omega), egU]
    have e1 : W.2 2 1 = nI (pNs (pdW w 2)) := by
      have : (pdW W 2).2.1 = (pdW w 2).2.1 := by rw [eg]
      exact this.trans hns.1
    exact ⟨(nI (pNs (pdW w 2)), hp W), by simp only [Frt_costAt_b31, c2_1, Option.bind_some, e1, if_pos (nI_le (Nat.le_refl _) (show pNs (pdW w 2) < 2 ^ 31 by omega))], W, rfl, hW⟩)
  have egW : pdW W 2 = pdW w 2 := by rw [pd_fr hW.2.1 (by omega), egU]
  obtain ⟨w1, w2, w3, w4, w5, π, w6, w7⟩ := hW
  rw [egU] at w7
  have hcols : ∀ s, s < 6 → colZ (fl W) s = zN (pdW w 2) c s := by
    intro s hs
    rw [w4 s hs]
    show (if s < pNs (pdW w 2) then zN (pdW w 2) c s else 0) = _
    by_cases h : s < pNs (pdW w 2)
    · rw [if_pos h]
    · rw [if_neg h, zN_out hg hc hs (by omega)]
  have L25W := l25 w1
  have L6W := l6 w1
  have hterm : ∀ k, k < 24 → 0 ≤ (zA W 25 k * zT (pdW w 2) (k / 6) (k % 6)) ∧ (zA W 25 k * zT (pdW w 2) (k / 6) (k % 6)) ≤ 1980 ∧ 0 ≤ zA W 25 k := by
    intro k hk
    have hq : k / 6 < 4 := by omega
    have hm : k % 6 < 6 := by omega
    have ek : zA W 25 k = fl W (k / 6) (k % 6) := by
      unfold fl
      rw [show k / 6 * 6 + k % 6 = k by omega]
    have nn := w3 _ _ hq hm
    have ub : fl W (k / 6) (k % 6) ≤ 20 := fl_le hq (fun x hx => w3 x _ hx hm) (by rw [hcols _ hm]; exact (zN_rng hg hc hm).2)
    have tr := zT_rng hg hq hm
    rw [ek]
    by_cases hp0 : 0 < fl W (k / 6) (k % 6)
    · have ht := (w7 _ _ hq hm hp0).1
      have := mul_rng nn ub (show 0 ≤ zT (pdW w 2) (k / 6) (k % 6) by omega) tr.2
      omega
    · have : fl W (k / 6) (k % 6) = 0 := by omega
      rw [this]; omega
  obtain ⟨q2, i2, y, rfl, y1, y2⟩ := iter_I (body := Frt_costAt_b121 19 2 (nI c) plan (hp W)) (fun j st => ∃ y : Int32, st = (y, nI j) ∧ y.toInt = sumZ (fun k => zA W 25 k * zT (pdW w 2) (k / 6) (k % 6)) j ∧ 0 ≤ y.toInt ∧ y.toInt ≤ 1980 * j) (fun q => ∃ y : Int32, q = (y, nI 24) ∧ y.toInt = sumZ (fun k => zA W 25 k * zT (pdW w 2) (k / 6) (k % 6)) 24 ∧ 0 ≤ y.toInt ∧ y.toInt ≤ 1980 * 24) 24 (s0 := (0, 0)) (by omega) ⟨0, rfl, rfl, by decide, by decide⟩ (by
    rintro j st hj ⟨y, rfl, y1, y2, y3⟩
    left
    have hcn : ¬ (24 : Int32) ≤ nI j := nI_ge (b := 24) hj (by omega)
    have ht := hterm j hj
    have Z : (0 : Int32).toInt = 0 := rfl
    simp only [Frt_costAt_b121, if_neg hcn, c19_5, Option.bind_some]
    rw [ald_w (j := j) s25 rfl (by omega) (by omega)]
    simp only [Option.bind_some]
    by_cases h : (W.1 25).getD j 0 ≤ 0
    · rw [if_pos h]
      rw [ti_le, Z] at h
      have e : zA W 25 j = 0 := by have := ht.2.2; unfold zA at *; omega
      simp only [Frt_costAt_j159, nI_1, Int32.add_zero]
      refine ⟨_, rfl, y, rfl, ?_, y2, by omega⟩
      show _ = sumZ _ j + _
      rw [y1]
      simp only [e, Int.zero_mul]; omega
    · rw [if_neg h]
      simp only [c2_6, Option.bind_some]
      rw [ald_w (j := j) s6 rfl (by omega) (by omega)]
      simp only [Option.bind_some, Frt_costAt_j159, nI_1]
      have et : ((W.1 6).getD j 0).toInt = zT (pdW w 2) (j / 6) (j % 6) := by
        rw [← egW]
        unfold zT pToll
        show ((W.1 6).getD j 0).toInt = ((W.1 6).getD (j / 6 * 6 + j % 6) 0).toInt
        have : j / 6 * 6 + j % 6 = j := by omega
        rw [this]
      have em : ((W.1 25).getD j 0 * (W.1 6).getD j 0).toInt = zA W 25 j * zT (pdW w 2) (j / 6) (j % 6) := by
        rw [← et] at ht ⊢
        unfold zA at *
        rw [ti_mul (by omega) (by omega)]
      have ea : (y + (W.1 25).getD j 0 * (W.1 6).getD j 0).toInt = y.toInt + zA W 25 j * zT (pdW w 2) (j / 6) (j % 6) := by
        rw [ti_add (by omega) (by omega), em]
      refine ⟨_, rfl, _, rfl, ?_, by omega, by omega⟩
      rw [ea, y1]; rfl) (by
    rintro st ⟨y, rfl, y1, y2, y3⟩
    exact ⟨(y, nI 24), by simp only [Frt_costAt_b121, if_pos (show (24 : Int32) ≤ nI 24 by decide)], y, rfl, y1, y2, y3⟩)
  refine ⟨W, y, ?_, ⟨w1, ?_, w3, hcols, w5, π, w6, w7⟩, ?_, by rw [(w2 22 (by omega)).1, (hF0 22 (by omega)).1, (v5 22 (by omega)).1], by rw [(w2 23 (by omega)).1, (hF0 23 (by omega)).1, (v5 23 (by omega)).1]⟩
  · simp only [i1, Option.bind_some, Frt_costAt_j115, i2, Frt_costAt_j168]
  · exact ((v5.mono (by omega) (by omega)).tr (hF0.mono (by omega) (by omega))).tr (w2.mono (by omega) (by omega))
  · rw [y1]
    simp [sumZ, costZ, colZ, rowZ, fl]
    omega
