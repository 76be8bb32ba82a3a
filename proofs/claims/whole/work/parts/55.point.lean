/-! the least prices that fit what is brought -/
def cT (w : Wd) (q p : Nat) : Int := zA w 26 (p * 4 + q)
def allS (_ : Nat) : Prop := True
def ptOk (w : Wd) (π : Nat → Int) : Prop := ∀ q p, q < 4 → p < 4 → cT w q p < 1000000 → π p ≤ π q + cT w q p ∧ cT w q p ≤ 99 ∧ -99 ≤ cT w q p
def ptI (w W : Wd) : Prop := WL W ∧ Fr w W 30 31 ∧ ∀ p, p < 4 → 0 ≤ zA W 30 p ∧ ∃ i, Wk allS (cT w) i p (-zA W 30 p)
def ptR (w R0 W : Wd) (mv : Int32) (D : Nat → Nat → Prop) : Prop := ptI w W ∧ (∀ x, x < 4 → zA R0 30 x ≤ zA W 30 x) ∧ (∀ p q, p < 4 → q < 4 → D p q → cT w q p < 1000000 → zA R0 30 q - cT w q p ≤ zA W 30 p) ∧ (mv = 1 ∨ (mv = 0 ∧ ∀ x, zA W 30 x = zA R0 30 x))
theorem ptR.mono {w R0 W : Wd} {mv : Int32} {D E : Nat → Nat → Prop} (h : ptR w R0 W mv D) (he : ∀ p q, p < 4 → q < 4 → E p q → D p q) : ptR w R0 W mv E :=
  ⟨h.1, h.2.1, fun p q hp' hq hE => h.2.2.1 p q hp' hq (he p q hp' hq hE), h.2.2.2⟩
theorem pt_bd {w W : Wd} {π : Nat → Int} (hπ : ptOk w π) (h : ptI w W) {p : Nat} (hp' : p < 4) : zA W 30 p ≤ 297 := by
  obtain ⟨i, hi⟩ := (h.2.2 p hp').2
  obtain ⟨y, hy, hw3⟩ := Wk_all (fun q p h1 h2 h3 => (hπ q p h1 h2 h3).1) i p _ hp' hi
  have := Wk_lb99 (fun q p h1 h2 h3 => (hπ q p h1 h2 h3).2.2) 3 p y hp' hw3
  omega
theorem pt_step {w R0 W : Wd} {π : Nat → Int} {p q : Nat} {mv v3 : Int32} {D : Nat → Nat → Prop} (hπ : ptOk w π) (hp' : p < 4) (hq : q < 4) (hI : ptR w R0 W mv D) : ∃ W' mv', Frt_findPoint_b32 19 2 v3 (nI p) (mv, nI q, hp W) = some (.inl (mv', nI (q + 1), hp W')) ∧ ptR w R0 W' mv' (fun p' q' => D p' q' ∨ (p' = p ∧ q' = q)) := by
  have hI0 := hI
  obtain ⟨hP, hm, hd, hv⟩ := hI
  have bq := pt_bd hπ hP hq
  have bp := pt_bd hπ hP hp'
  obtain ⟨hW, hF, hu⟩ := id hP
  have L26 := l26 hW
  have L30 := l30 hW
  have e26 : W.1 26 = w.1 26 := (hF 26 (by omega)).1
  have hcq : ¬ (4 : Int32) ≤ nI q := nI_ge (b := 4) hq (by omega)
  have M : (1000000 : Int32).toInt = 1000000 := rfl
  have uq := hu q hq
  have up := hu p hp'
  have mq := hm q hq
  have stay : (cT w q p < 1000000 → zA W 30 q - cT w q p ≤ zA W 30 p) → ptR w R0 W mv (fun p' q' => D p' q' ∨ (p' = p ∧ q' = q)) := by
    intro h
    refine ⟨hP, hm, ?_, hv⟩
    rintro p' q' k1 k2 (k3 | ⟨rfl, rfl⟩) k4
    · exact hd p' q' k1 k2 k3 k4
    · have := h k4
      omega
  simp only [Frt_findPoint_b32, if_neg hcq, c19_6, Option.bind_some, nI_m4]
  rw [ald_w (j := p * 4 + q) s26 rfl (by omega) (by omega)]
  simp only [Option.bind_some]
  by_cases h2 : (1000000 : Int32) ≤ (W.1 26).getD (p * 4 + q) 0
  · rw [if_pos h2]
    rw [ti_le, M, e26] at h2
    exact ⟨W, mv, by simp only [Frt_findPoint_j98, nI_1], stay (fun h => by unfold cT zA at h; omega)⟩
  · rw [if_neg h2]
    rw [ti_le, M, e26] at h2
    have hcl : cT w q p < 1000000 := by unfold cT zA; omega
    have hb := hπ q p hq hp' hcl
    simp only [c19_10, Option.bind_some]
    rw [ald_w (j := q) s30 rfl (by omega) (by omega)]
    simp only [Option.bind_some]
    rw [ald_w (j := p) s30 rfl (by omega) (by omega)]
    simp only [Option.bind_some]
    have ea : ((W.1 30).getD q 0 - (W.1 26).getD (p * 4 + q) 0).toInt = zA W 30 q - cT w q p := by
      rw [e26]
      unfold zA cT zA at *
      rw [ti_sub (by omega) (by omega)]
    by_cases h3 : (W.1 30).getD q 0 - (W.1 26).getD (p * 4 + q) 0 ≤ (W.1 30).getD p 0
    · rw [if_pos h3]
      rw [ti_le, ea] at h3
      exact ⟨W, mv, by simp only [Frt_findPoint_j98, nI_1], stay (fun _ => h3)⟩
    · rw [if_neg h3]
      clear stay
      rw [ti_le, ea] at h3
      have h3' : zA W 30 p < zA W 30 q - cT w q p := by unfold zA at *; omega
      rw [ast_w (j := p) s30 rfl (by omega) (by omega)]
      simp only [Option.bind_some, Frt_findPoint_j98, nI_1]
      have key : ∀ x, zA (wA W 30 ((W.1 30).set p (nar 0 ((W.1 30).getD q 0 - (W.1 26).getD (p * 4 + q) 0)))) 30 x = if x = p then zA W 30 q - cT w q p else zA W 30 x := by
        intro x
        unfold zA
        rw [wA_s, gD_set]
        by_cases hx : p = x
        · subst hx
          rw [if_pos ⟨rfl, by omega⟩, if_pos rfl]
          exact ea
        · rw [if_neg (fun h => hx h.1), if_neg (fun h => hx h.symm)]
      have hWL : WL (wA W 30 ((W.1 30).set p (nar 0 ((W.1 30).getD q 0 - (W.1 26).getD (p * 4 + q) 0)))) := hW.S
      have hFr : Fr w (wA W 30 ((W.1 30).set p (nar 0 ((W.1 30).getD q 0 - (W.1 26).getD (p * 4 + q) 0)))) 30 31 := Fr.cA hF (by omega) (by omega)
      refine ⟨_, 1, rfl, ?_⟩
      generalize wA W 30 ((W.1 30).set p (nar 0 ((W.1 30).getD q 0 - (W.1 26).getD (p * 4 + q) 0))) = V at *
      obtain ⟨i, hi⟩ := uq.2
      refine ⟨⟨hWL, hFr, ?_⟩, ?_, ?_, Or.inl rfl⟩
      · intro x hx
        rw [key x]
        by_cases hxp : x = p
        · subst hxp
          rw [if_pos rfl]
          refine ⟨by omega, i + 1, ?_⟩
          have := Wk_edge hi hq hcl
          have e : -(zA W 30 q - cT w q x) = -zA W 30 q + cT w q x := by omega
          rw [e]; exact this
        · rw [if_neg hxp]; exact hu x hx
      · intro x hx
        rw [key x]
        have := hm x hx
        by_cases hxp : x = p
        · subst hxp; rw [if_pos rfl]; omega
        · rw [if_neg hxp]; exact this
      · rintro p' q' k1 k2 k3 k4
        rw [key p']
        rcases k3 with k3 | ⟨rfl, rfl⟩
        · have := hd p' q' k1 k2 k3 k4
          by_cases hxp : p' = p
          · subst hxp; rw [if_pos rfl]; omega
          · rw [if_neg hxp]; exact this
        · rw [if_pos rfl]; omega
theorem pt_row {w R0 W : Wd} {π : Nat → Int} {mv v3 : Int32} {p : Nat} (hπ : ptOk w π) (hp' : p < 4) (h : ptR w R0 W mv (fun p' _ => p' < p)) : ∃ W' mv', iter (Frt_findPoint_b32 19 2 v3 (nI p)) Lmax (mv, 0, hp W) = some (mv', nI 4, hp W') ∧ ptR w R0 W' mv' (fun p' _ => p' < p + 1) := by
  obtain ⟨r, i1, mv', W', rfl, hR⟩ := iter_I (body := Frt_findPoint_b32 19 2 v3 (nI p)) (fun j st => ∃ mv W, st = (mv, nI j, hp W) ∧ ptR w R0 W mv (fun p' q' => p' < p ∨ (p' = p ∧ q' < j))) (fun r => ∃ mv W, r = (mv, nI 4, hp W) ∧ ptR w R0 W mv (fun p' _ => p' < p + 1)) 4 (s0 := (mv, 0, hp W)) (by omega) ⟨mv, W, rfl, h.mono (fun q' p' _ _ h => by omega)⟩ (by
    rintro j st hj ⟨mv, W, rfl, hR⟩
    left
    obtain ⟨W', mv', f1, f2⟩ := pt_step (v3 := v3) hπ hp' hj hR
    exact ⟨_, f1, mv', W', rfl, f2.mono (fun q' p' _ _ h => by omega)⟩) (by
    rintro st ⟨mv, W, rfl, hR⟩
    exact ⟨_, by simp only [Frt_findPoint_b32, if_pos (show (4 : Int32) ≤ nI 4 by decide)], mv, W, rfl, hR.mono (fun q' p' _ _ h => by omega)⟩)
  exact ⟨W', mv', i1, hR⟩
theorem pt_all {w R0 : Wd} {π : Nat → Int} {v3 : Int32} (hπ : ptOk w π) (h : ptI w R0) : ∃ W' mv', iter (Frt_findPoint_b23 19 2 v3) Lmax (0, 0, hp R0) = some (mv', nI 4, hp W') ∧ ptR w R0 W' mv' (fun _ _ => True) := by
  obtain ⟨r, i1, mv', W', rfl, hR⟩ := iter_I (body := Frt_findPoint_b23 19 2 v3) (fun j st => ∃ mv W, st = (mv, nI j, hp W) ∧ ptR w R0 W mv (fun p' _ => p' < j)) (fun r => ∃ mv W, r = (mv, nI 4, hp W) ∧ ptR w R0 W mv (fun _ _ => True)) 4 (s0 := (0, 0, hp R0)) (by omega) ⟨0, R0, rfl, h, fun _ _ => Int.le_refl _, fun q p _ _ hD => absurd hD (by omega), Or.inr ⟨rfl, fun _ => rfl⟩⟩ (by
    rintro j st hj ⟨mv, W, rfl, hR⟩
    left
    obtain ⟨W', mv', f1, f2⟩ := pt_row (v3 := v3) hπ hj hR
    have hcp : ¬ (4 : Int32) ≤ nI j := nI_ge (b := 4) hj (by omega)
    refine ⟨_, ?_, mv', W', rfl, f2⟩
    simp only [Frt_findPoint_b23, if_neg hcp, f1, Option.bind_some, Frt_findPoint_j104, nI_1]) (by
    rintro st ⟨mv, W, rfl, hR⟩
    exact ⟨_, by simp only [Frt_findPoint_b23, if_pos (show (4 : Int32) ≤ nI 4 by decide)], mv, W, rfl, hR.mono (fun q' p' h _ _ => by omega)⟩)
  exact ⟨W', mv', i1, hR⟩
def ptClosed (w W : Wd) : Prop := ∀ q p, q < 4 → p < 4 → cT w q p < 1000000 → zA W 30 q - cT w q p ≤ zA W 30 p
theorem pt_rounds {w R : Wd} {π : Nat → Int} (hπ : ptOk w π) (h : ptI w R) (h0 : ∀ p x, p < 4 → Wk allS (cT w) 0 p x → -x ≤ zA R 30 p) : ∃ W' m k, iter (Frt_findPoint_b9 19 2) Lmax (1, 0, hp R) = some (m, k, hp W') ∧ ptI w W' ∧ ptClosed w W' := by
  have hc1 : ∀ q p, q < 4 → p < 4 → cT w q p < 1000000 → π p ≤ π q + cT w q p := fun q p h1 h2 h3 => (hπ q p h1 h2 h3).1
  obtain ⟨r, i1, W', m, k, rfl, hR, hC⟩ := iter_I (body := Frt_findPoint_b9 19 2) (fun j st => ∃ mv W, st = (mv, nI j, hp W) ∧ ptI w W ∧ (∀ p x, p < 4 → Wk allS (cT w) j p x → -x ≤ zA W 30 p) ∧ (mv = 1 ∨ (mv = 0 ∧ ptClosed w W))) (fun r => ∃ W m k, r = (m, k, hp W) ∧ ptI w W ∧ ptClosed w W) 5 (s0 := (1, 0, hp R)) (by omega) ⟨1, R, rfl, h, h0, Or.inl rfl⟩ (by
    rintro j st hj ⟨mv, W, rfl, hI, hP, hmv⟩
    have hcp : ¬ (4 : Int32) < nI j := nI_nlt (b := j) (a := 4) (by omega) (by omega)
    rcases hmv with rfl | ⟨rfl, hC⟩
    · left
      obtain ⟨W', mv', f1, f2⟩ := pt_all (v3 := nI j) hπ hI
      refine ⟨(mv', nI (j + 1), hp W'), ?_, mv', W', rfl, f2.1, ?_, ?_⟩
      · simp only [Frt_findPoint_b9, if_neg hcp, if_neg (show ¬ (1 : Int32) = 0 by decide), f1, Option.bind_some, Frt_findPoint_j110, nI_1]
      · intro p x hp' hk
        rcases hk with hk | ⟨q, y, hq, hk, hc, rfl⟩
        · exact Int.le_trans (hP p x hp' hk) (f2.2.1 p hp')
        · have v := hP q y hq hk
          have := f2.2.2.1 p q hp' hq trivial hc
          omega
      · rcases f2.2.2.2 with h | ⟨h, h'⟩
        · exact Or.inl h
        · right
          refine ⟨h, ?_⟩
          intro q p hq hp' k2
          have := f2.2.2.1 p q hp' hq trivial k2
          rw [h' q]; exact this
    · right
      exact ⟨(0, nI j, hp W), by simp only [Frt_findPoint_b9, if_neg hcp, ↓reduceIte], W, _, _, rfl, hI, hC⟩) (by
    rintro st ⟨mv, W, rfl, hI, hP, hmv⟩
    refine ⟨(mv, nI 5, hp W), by simp only [Frt_findPoint_b9, if_pos (show (4 : Int32) < nI 5 by decide)], W, _, _, rfl, hI, ?_⟩
    intro q p hq hp' k2
    obtain ⟨i, hi⟩ := (hI.2.2 q hq).2
    obtain ⟨y, hy, hw3⟩ := Wk_all hc1 i q _ hq hi
    have := hP p _ hp' (Wk_mono (Wk_edge hw3 hq k2))
    omega)
  exact ⟨W', m, k, i1, hR, hC⟩
