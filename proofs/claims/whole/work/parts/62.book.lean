/-! the book -/
def bkOk (w : Wd) (g : PD) : Prop := ldOk w g ∧ ∀ c plan, c < 4 → plan < 256 → (w.1 32).getD (c * 256 + plan) 0 = -2 ∨ priceR g c (nI plan) ((w.1 32).getD (c * 256 + plan) 0)
theorem Book_priceAt_w {w : Wd} {c plan : Nat} (hw : WL w) (hg : wfP (pdW w 2)) (hc : c < 4) (hp' : plan < 256) (hk : bkOk w (pdW w 2)) : ∃ w' x, Book_priceAt 18 2 (nI c) (nI plan) (hp w) = some (x, hp w') ∧ priceR (pdW w 2) c (nI plan) x ∧ WL w' ∧ Fr w w' 20 33 ∧ bkOk w' (pdW w 2) := by
  have L32 := l32 hw
  unfold Book_priceAt
  simp only [c18_1, Option.bind_some, nI_m256]
  rw [ald_w (j := c * 256 + plan) s32 rfl (by omega) (by omega)]
  simp only [Option.bind_some]
  by_cases hx : (w.1 32).getD (c * 256 + plan) 0 = -2
  · rw [if_neg (fun h => h hx)]
    simp only [c18_0, Option.bind_some, k19]
    obtain ⟨V, a1, a2, a3, a4, a5, a6, a7⟩ := Frt_lackAt_w (plan := nI plan) hw hg hc hk.1
    simp only [a1, bnd2_some]
    have egV : pdW V 2 = pdW w 2 := pd_fr a7 (by omega)
    have fin : ∀ (W : Wd) (y : Int32), WL W → Fr w W 20 32 → ldOk W (pdW w 2) → priceR (pdW w 2) c (nI plan) y → ∃ w' x, Book_priceAt_j54 18 2 (nI c) (nI plan) (nI (c * 256 + plan)) 32 (nI (c * 256 + plan)) y (hp W) = some (x, hp w') ∧ priceR (pdW w 2) c (nI plan) x ∧ WL w' ∧ Fr w w' 20 33 ∧ bkOk w' (pdW w 2) := by
      intro W y hW hF hl hy
      have L := l32 hW
      unfold Book_priceAt_j54 Book_priceAt_j55
      rw [ast_w (j := c * 256 + plan) s32 rfl (by omega) (by omega)]
      simp only [Option.bind_some, c18_1]
      rw [ald_w (j := c * 256 + plan) s32 rfl (by rw [wA_s, List.length_set]; omega) (by omega)]
      simp only [Option.bind_some]
      have ev : ((wA W 32 ((W.1 32).set (c * 256 + plan) (nar 0 y))).1 32).getD (c * 256 + plan) 0 = y := by
        rw [wA_s, gD_set, if_pos ⟨rfl, by omega⟩]; rfl
      refine ⟨_, _, rfl, by rw [ev]; exact hy, hW.S, Fr.cA (hF.mono (by omega) (by omega)) (by omega) (by omega), ?_, ?_⟩
      · intro c' hc'
        rw [wA_n (by omega), wA_n (by omega)]; exact hl c' hc'
      · intro c' plan' hc' hp2
        by_cases h : c * 256 + plan = c' * 256 + plan'
        · have : c = c' ∧ plan = plan' := by omega
          obtain ⟨rfl, rfl⟩ := this
          right
          rw [ev]; exact hy
        · rw [wA_s, gD_set, if_neg (fun h' => h h'.1), (hF 32 (by omega)).1]
          exact hk.2 c' plan' hc' hp2
    by_cases hl : lackP (pdW w 2) c (nI plan) ≤ 0
    · rw [if_pos hl]
      obtain ⟨W, cost, b1, b2, b3, b4, b5⟩ := Frt_costAt_w (plan := nI plan) a2 (by rw [egV]; exact hg) hc (by rw [egV]; exact hall_of hg hc hl)
      simp only [c18_0, k19, Option.bind_some, b1, bnd2_some]
      refine fin W cost b2.1 ((a7.mono (by omega) (by omega)).tr (b2.2.1.mono (by omega) (by omega))) ?_ ?_
      · intro c' hc'
        rw [b4, b5]; exact a5 c' hc'
      · right
        refine ⟨hl, ?_⟩
        have bd := row_fl_cost (by rw [egV]; exact hg) hc b2
        obtain ⟨u, u1, u2, u3⟩ := served_ex (by rw [egV]; exact hg) b2
        rw [egV] at bd u1 u3 b3
        exact ⟨u, u1, by rw [b3, u3], u2, by rw [b3]; exact bd.1, by rw [b3]; exact bd.2⟩
    · rw [if_neg hl]
      exact fin V (-1) a2 (a7.mono (by omega) (by omega)) a5 (Or.inl ⟨hl, rfl⟩)
  · rw [if_pos hx]
    unfold Book_priceAt_j55
    simp only [c18_1, Option.bind_some]
    rw [ald_w (j := c * 256 + plan) s32 rfl (by omega) (by omega)]
    refine ⟨w, _, rfl, ?_, hw, Fr.rfl', hk⟩
    rcases hk.2 c plan hc hp' with h | h
    · exact absurd h hx
    · exact h
