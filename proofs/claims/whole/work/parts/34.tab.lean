/-! lengths of the arrays; facts of cells; loops by an invariant -/
def lenT : List Nat := [0, 0, 0, 4, 4, 4, 24, 4, 24, 0, 40, 40, 40, 160, 240, 0, 4, 0, 0, 0, 4, 16, 64, 4, 4, 24, 16, 16, 4, 4, 4, 6, 1024, 0, 1024, 256, 4, 4, 4, 99, 0, 400, 0, 4, 4, 4, 24, 4, 24, 0, 0, 12, 0, 0, 4, 4, 4, 24, 4, 24, 0, 40, 40, 40, 160, 240, 0, 0, 0, 4, 4, 4, 24, 4, 24, 0, 40, 40, 40, 160, 240, 0, 0, 0, 4, 4, 4, 24, 4, 24, 0, 40, 40, 40, 160, 240, 0, 0, 0, 4, 4, 4, 24, 4, 24, 0, 40, 40, 40, 160, 240, 0, 0, 0, 4, 4, 4, 24, 4, 24, 0, 40, 40, 40, 160, 240, 0, 0, 0, 4, 4, 4, 24, 4, 24, 0, 40, 40, 40, 160, 240, 0, 0, 0, 4, 4, 4, 24, 4, 24, 0, 40, 40, 40, 160, 240, 0, 0, 0, 4, 4, 4, 24, 4, 24, 0, 40, 40, 40, 160, 240, 0, 0, 0, 4, 4, 4, 24, 4, 24, 0, 40, 40, 40, 160, 240, 0, 0, 0, 4, 4, 4, 24, 4, 24, 0, 40, 40, 40, 160, 240, 0, 0, 0, 4, 4, 4, 24, 4, 24, 0, 40, 40, 40, 160, 240, 0, 0, 0, 4, 4, 4, 24, 4, 24, 0, 40, 40, 40, 160, 240, 0, 0, 8, 2, 0, 99, 99, 99, 396, 594, 0, 4, 6, 0, 0, 4, 4, 4, 24, 4, 24, 0, 40, 40, 40, 160, 240, 0, 0, 0, 4, 4, 4, 24, 4, 24, 0, 40, 40, 40, 160, 240, 0, 0, 7, 4, 4, 4, 1427, 1427, 1427, 400, 17124, 12, 2862, 2, 4, 6, 6, 52, 4]
def WL (w : Wd) : Prop := ∀ i, (w.1 i).length = lenT.getD i 0
theorem WL.A {w : Wd} {a : Nat} {xs : List Int32} (h : WL w) (hx : xs.length = lenT.getD a 0) : WL (wA w a xs) := by
  intro i
  by_cases hi : i = a
  · subst hi; rw [wA_s, hx]
  · rw [wA_n hi, h i]
theorem WL.F {w : Wd} {a k : Nat} {x : Int32} (h : WL w) : WL (wF w a k x) := h
theorem WL.S {w : Wd} {a j : Nat} {x : Int32} (h : WL w) : WL (wA w a ((w.1 a).set j x)) := h.A (by rw [List.length_set, h a])
theorem iter_I {σ ρ : Type} {body : σ → Option (σ ⊕ ρ)} (I : Nat → σ → Prop) (Q : ρ → Prop) (n : Nat) {s0 : σ} (hn : n < 1000000) (h0 : I 0 s0) (hs : ∀ j s, j < n → I j s → (∃ s', body s = some (.inl s') ∧ I (j + 1) s') ∨ (∃ q, body s = some (.inr q) ∧ Q q)) (he : ∀ s, I n s → ∃ q, body s = some (.inr q) ∧ Q q) : ∃ q, iter body Lmax s0 = some q ∧ Q q := by
  have key : ∀ (k j N : Nat) (s : σ), j + k = n → k < N → I j s → ∃ q, iter body N s = some q ∧ Q q := by
    intro k
    induction k with
    | zero =>
      intro j N s hj hN hI
      match N, hN with
      | N + 1, _ =>
        have : j = n := by omega
        subst this
        obtain ⟨q, h1, h2⟩ := he s hI
        exact ⟨q, by simp [iter, h1], h2⟩
    | succ k ih =>
      intro j N s hj hN hI
      match N, hN with
      | N + 1, hN =>
        rcases hs j s (by omega) hI with ⟨s', h1, h2⟩ | ⟨q, h1, h2⟩
        · rw [iter, h1]
          exact ih (j + 1) N s' (by omega) (by omega) h2
        · exact ⟨q, by simp [iter, h1], h2⟩
  exact key n 0 Lmax s0 (by omega) hn h0
theorem c0_0 {w : Wd} : gfR (hp w) 0 10 0 = some 1 := gfR_w rfl rfl
theorem c0_1 {w : Wd} : gfR (hp w) 0 10 1 = some 16 := gfR_w rfl rfl
theorem c0_2 {w : Wd} : gfR (hp w) 0 10 2 = some 17 := gfR_w rfl rfl
theorem c0_3 {w : Wd} : gfR (hp w) 0 10 3 = some 40 := gfR_w rfl rfl
theorem c0_4 {w : Wd} : gfR (hp w) 0 10 4 = some 42 := gfR_w rfl rfl
theorem c0_5 {w : Wd} : gfR (hp w) 0 10 5 = some 49 := gfR_w rfl rfl
theorem c0_6 {w : Wd} : gfR (hp w) 0 10 6 = some 232 := gfR_w rfl rfl
theorem c0_7 {w : Wd} : gfR (hp w) 0 10 7 = some 233 := gfR_w rfl rfl
theorem c0_8 {w : Wd} : gfR (hp w) 0 10 8 = some 234 := gfR_w rfl rfl
theorem c0_9 {w : Wd} : gfR (hp w) 0 10 9 = some 235 := gfR_w rfl rfl
theorem c0_10 {w : Wd} : gfR (hp w) 0 10 10 = some 241 := gfR_w rfl rfl
theorem c0_11 {w : Wd} : gfR (hp w) 0 10 11 = some 242 := gfR_w rfl rfl
theorem c0_12 {w : Wd} : gfR (hp w) 0 10 12 = some 243 := gfR_w rfl rfl
theorem c0_13 {w : Wd} : gfI (hp w) 0 10 13 = some (w.2 0 13) := gfI_w rfl rfl
theorem p0_13 {w : Wd} {x : Int32} : pfV (hp w) 0 10 13 (.int x) = some (hp (wF w 0 13 x)) := pfV_w rfl rfl
theorem k0 {w : Wd} : chk (hp w) 0 10 = some () := chk_w rfl
theorem c1_0 {w : Wd} : gfR (hp w) 1 8 0 = some 2 := gfR_w rfl rfl
theorem c1_1 {w : Wd} : gfR (hp w) 1 8 1 = some 9 := gfR_w rfl rfl
theorem c1_2 {w : Wd} : gfR (hp w) 1 8 2 = some 15 := gfR_w rfl rfl
theorem k1 {w : Wd} : chk (hp w) 1 8 = some () := chk_w rfl
theorem c2_0 {w : Wd} : gfI (hp w) 2 6 0 = some (w.2 2 0) := gfI_w rfl rfl
theorem p2_0 {w : Wd} {x : Int32} : pfV (hp w) 2 6 0 (.int x) = some (hp (wF w 2 0 x)) := pfV_w rfl rfl
theorem c2_1 {w : Wd} : gfI (hp w) 2 6 1 = some (w.2 2 1) := gfI_w rfl rfl
theorem p2_1 {w : Wd} {x : Int32} : pfV (hp w) 2 6 1 (.int x) = some (hp (wF w 2 1 x)) := pfV_w rfl rfl
theorem c2_2 {w : Wd} : gfI (hp w) 2 6 2 = some (w.2 2 2) := gfI_w rfl rfl
theorem p2_2 {w : Wd} {x : Int32} : pfV (hp w) 2 6 2 (.int x) = some (hp (wF w 2 2 x)) := pfV_w rfl rfl
theorem c2_3 {w : Wd} : gfR (hp w) 2 6 3 = some 3 := gfR_w rfl rfl
theorem c2_4 {w : Wd} : gfR (hp w) 2 6 4 = some 4 := gfR_w rfl rfl
theorem c2_5 {w : Wd} : gfR (hp w) 2 6 5 = some 5 := gfR_w rfl rfl
theorem c2_6 {w : Wd} : gfR (hp w) 2 6 6 = some 6 := gfR_w rfl rfl
theorem c2_7 {w : Wd} : gfR (hp w) 2 6 7 = some 7 := gfR_w rfl rfl
theorem c2_8 {w : Wd} : gfR (hp w) 2 6 8 = some 8 := gfR_w rfl rfl
theorem k2 {w : Wd} : chk (hp w) 2 6 = some () := chk_w rfl
theorem s3 : shp[3]? = some (.inr (.inl 0)) := by decide +kernel
theorem l3 {w : Wd} (h : WL w) : (w.1 3).length = 4 := h 3
theorem s4 : shp[4]? = some (.inr (.inl 0)) := by decide +kernel
theorem l4 {w : Wd} (h : WL w) : (w.1 4).length = 4 := h 4
theorem s5 : shp[5]? = some (.inr (.inl 0)) := by decide +kernel
theorem l5 {w : Wd} (h : WL w) : (w.1 5).length = 4 := h 5
theorem s6 : shp[6]? = some (.inr (.inl 0)) := by decide +kernel
theorem l6 {w : Wd} (h : WL w) : (w.1 6).length = 24 := h 6
theorem s7 : shp[7]? = some (.inr (.inl 0)) := by decide +kernel
theorem l7 {w : Wd} (h : WL w) : (w.1 7).length = 4 := h 7
theorem s8 : shp[8]? = some (.inr (.inl 0)) := by decide +kernel
theorem l8 {w : Wd} (h : WL w) : (w.1 8).length = 24 := h 8
theorem c9_0 {w : Wd} : gfI (hp w) 9 2 0 = some (w.2 9 0) := gfI_w rfl rfl
theorem p9_0 {w : Wd} {x : Int32} : pfV (hp w) 9 2 0 (.int x) = some (hp (wF w 9 0 x)) := pfV_w rfl rfl
theorem c9_1 {w : Wd} : gfI (hp w) 9 2 1 = some (w.2 9 1) := gfI_w rfl rfl
theorem p9_1 {w : Wd} {x : Int32} : pfV (hp w) 9 2 1 (.int x) = some (hp (wF w 9 1 x)) := pfV_w rfl rfl
theorem c9_2 {w : Wd} : gfR (hp w) 9 2 2 = some 10 := gfR_w rfl rfl
theorem c9_3 {w : Wd} : gfR (hp w) 9 2 3 = some 11 := gfR_w rfl rfl
theorem c9_4 {w : Wd} : gfR (hp w) 9 2 4 = some 12 := gfR_w rfl rfl
theorem c9_5 {w : Wd} : gfR (hp w) 9 2 5 = some 13 := gfR_w rfl rfl
theorem c9_6 {w : Wd} : gfR (hp w) 9 2 6 = some 14 := gfR_w rfl rfl
theorem k9 {w : Wd} : chk (hp w) 9 2 = some () := chk_w rfl
theorem s10 : shp[10]? = some (.inr (.inl 0)) := by decide +kernel
theorem l10 {w : Wd} (h : WL w) : (w.1 10).length = 40 := h 10
theorem s11 : shp[11]? = some (.inr (.inl 0)) := by decide +kernel
theorem l11 {w : Wd} (h : WL w) : (w.1 11).length = 40 := h 11
theorem s12 : shp[12]? = some (.inr (.inl 0)) := by decide +kernel
theorem l12 {w : Wd} (h : WL w) : (w.1 12).length = 40 := h 12
theorem s13 : shp[13]? = some (.inr (.inl 0)) := by decide +kernel
theorem l13 {w : Wd} (h : WL w) : (w.1 13).length = 160 := h 13
theorem s14 : shp[14]? = some (.inr (.inl 0)) := by decide +kernel
theorem l14 {w : Wd} (h : WL w) : (w.1 14).length = 240 := h 14
theorem c15_0 {w : Wd} : gfI (hp w) 15 7 0 = some (w.2 15 0) := gfI_w rfl rfl
theorem p15_0 {w : Wd} {x : Int32} : pfV (hp w) 15 7 0 (.int x) = some (hp (wF w 15 0 x)) := pfV_w rfl rfl
theorem c15_1 {w : Wd} : gfI (hp w) 15 7 1 = some (w.2 15 1) := gfI_w rfl rfl
theorem p15_1 {w : Wd} {x : Int32} : pfV (hp w) 15 7 1 (.int x) = some (hp (wF w 15 1 x)) := pfV_w rfl rfl
theorem c15_2 {w : Wd} : gfI (hp w) 15 7 2 = some (w.2 15 2) := gfI_w rfl rfl
theorem p15_2 {w : Wd} {x : Int32} : pfV (hp w) 15 7 2 (.int x) = some (hp (wF w 15 2 x)) := pfV_w rfl rfl
theorem c15_3 {w : Wd} : gfI (hp w) 15 7 3 = some (w.2 15 3) := gfI_w rfl rfl
theorem p15_3 {w : Wd} {x : Int32} : pfV (hp w) 15 7 3 (.int x) = some (hp (wF w 15 3 x)) := pfV_w rfl rfl
theorem c15_4 {w : Wd} : gfI (hp w) 15 7 4 = some (w.2 15 4) := gfI_w rfl rfl
theorem p15_4 {w : Wd} {x : Int32} : pfV (hp w) 15 7 4 (.int x) = some (hp (wF w 15 4 x)) := pfV_w rfl rfl
theorem c15_5 {w : Wd} : gfI (hp w) 15 7 5 = some (w.2 15 5) := gfI_w rfl rfl
theorem p15_5 {w : Wd} {x : Int32} : pfV (hp w) 15 7 5 (.int x) = some (hp (wF w 15 5 x)) := pfV_w rfl rfl
theorem c15_6 {w : Wd} : gfI (hp w) 15 7 6 = some (w.2 15 6) := gfI_w rfl rfl
theorem p15_6 {w : Wd} {x : Int32} : pfV (hp w) 15 7 6 (.int x) = some (hp (wF w 15 6 x)) := pfV_w rfl rfl
theorem k15 {w : Wd} : chk (hp w) 15 7 = some () := chk_w rfl
theorem s16 : shp[16]? = some (.inr (.inl 0)) := by decide +kernel
theorem l16 {w : Wd} (h : WL w) : (w.1 16).length = 4 := h 16
theorem c17_0 {w : Wd} : gfR (hp w) 17 3 0 = some 18 := gfR_w rfl rfl
theorem c17_1 {w : Wd} : gfR (hp w) 17 3 1 = some 33 := gfR_w rfl rfl
theorem c17_2 {w : Wd} : gfR (hp w) 17 3 2 = some 36 := gfR_w rfl rfl
theorem c17_3 {w : Wd} : gfR (hp w) 17 3 3 = some 37 := gfR_w rfl rfl
theorem c17_4 {w : Wd} : gfR (hp w) 17 3 4 = some 38 := gfR_w rfl rfl
theorem c17_5 {w : Wd} : gfR (hp w) 17 3 5 = some 39 := gfR_w rfl rfl
theorem c17_6 {w : Wd} : gfI (hp w) 17 3 6 = some (w.2 17 6) := gfI_w rfl rfl
theorem p17_6 {w : Wd} {x : Int32} : pfV (hp w) 17 3 6 (.int x) = some (hp (wF w 17 6 x)) := pfV_w rfl rfl
theorem c17_7 {w : Wd} : gfI (hp w) 17 3 7 = some (w.2 17 7) := gfI_w rfl rfl
theorem p17_7 {w : Wd} {x : Int32} : pfV (hp w) 17 3 7 (.int x) = some (hp (wF w 17 7 x)) := pfV_w rfl rfl
theorem c17_8 {w : Wd} : gfI (hp w) 17 3 8 = some (w.2 17 8) := gfI_w rfl rfl
theorem p17_8 {w : Wd} {x : Int32} : pfV (hp w) 17 3 8 (.int x) = some (hp (wF w 17 8 x)) := pfV_w rfl rfl
theorem c17_9 {w : Wd} : gfI (hp w) 17 3 9 = some (w.2 17 9) := gfI_w rfl rfl
theorem p17_9 {w : Wd} {x : Int32} : pfV (hp w) 17 3 9 (.int x) = some (hp (wF w 17 9 x)) := pfV_w rfl rfl
theorem c17_10 {w : Wd} : gfI (hp w) 17 3 10 = some (w.2 17 10) := gfI_w rfl rfl
theorem p17_10 {w : Wd} {x : Int32} : pfV (hp w) 17 3 10 (.int x) = some (hp (wF w 17 10 x)) := pfV_w rfl rfl
theorem c17_11 {w : Wd} : gfI (hp w) 17 3 11 = some (w.2 17 11) := gfI_w rfl rfl
theorem p17_11 {w : Wd} {x : Int32} : pfV (hp w) 17 3 11 (.int x) = some (hp (wF w 17 11 x)) := pfV_w rfl rfl
theorem k17 {w : Wd} : chk (hp w) 17 3 = some () := chk_w rfl
theorem c18_0 {w : Wd} : gfR (hp w) 18 0 0 = some 19 := gfR_w rfl rfl
theorem c18_1 {w : Wd} : gfR (hp w) 18 0 1 = some 32 := gfR_w rfl rfl
theorem k18 {w : Wd} : chk (hp w) 18 0 = some () := chk_w rfl
theorem c19_0 {w : Wd} : gfR (hp w) 19 4 0 = some 20 := gfR_w rfl rfl
theorem c19_1 {w : Wd} : gfR (hp w) 19 4 1 = some 21 := gfR_w rfl rfl
theorem c19_2 {w : Wd} : gfR (hp w) 19 4 2 = some 22 := gfR_w rfl rfl
theorem c19_3 {w : Wd} : gfR (hp w) 19 4 3 = some 23 := gfR_w rfl rfl
theorem c19_4 {w : Wd} : gfR (hp w) 19 4 4 = some 24 := gfR_w rfl rfl
theorem c19_5 {w : Wd} : gfR (hp w) 19 4 5 = some 25 := gfR_w rfl rfl
theorem c19_6 {w : Wd} : gfR (hp w) 19 4 6 = some 26 := gfR_w rfl rfl
theorem c19_7 {w : Wd} : gfR (hp w) 19 4 7 = some 27 := gfR_w rfl rfl
theorem c19_8 {w : Wd} : gfR (hp w) 19 4 8 = some 28 := gfR_w rfl rfl
theorem c19_9 {w : Wd} : gfR (hp w) 19 4 9 = some 29 := gfR_w rfl rfl
theorem c19_10 {w : Wd} : gfR (hp w) 19 4 10 = some 30 := gfR_w rfl rfl
theorem c19_11 {w : Wd} : gfR (hp w) 19 4 11 = some 31 := gfR_w rfl rfl
theorem k19 {w : Wd} : chk (hp w) 19 4 = some () := chk_w rfl
theorem s20 : shp[20]? = some (.inr (.inl 0)) := by decide +kernel
theorem l20 {w : Wd} (h : WL w) : (w.1 20).length = 4 := h 20
theorem s21 : shp[21]? = some (.inr (.inl 0)) := by decide +kernel
theorem l21 {w : Wd} (h : WL w) : (w.1 21).length = 16 := h 21
theorem s22 : shp[22]? = some (.inr (.inl 0)) := by decide +kernel
theorem l22 {w : Wd} (h : WL w) : (w.1 22).length = 64 := h 22
theorem s23 : shp[23]? = some (.inr (.inl 1)) := by decide +kernel
theorem l23 {w : Wd} (h : WL w) : (w.1 23).length = 4 := h 23
theorem s24 : shp[24]? = some (.inr (.inl 0)) := by decide +kernel
theorem l24 {w : Wd} (h : WL w) : (w.1 24).length = 4 := h 24
theorem s25 : shp[25]? = some (.inr (.inl 0)) := by decide +kernel
theorem l25 {w : Wd} (h : WL w) : (w.1 25).length = 24 := h 25
theorem s26 : shp[26]? = some (.inr (.inl 0)) := by decide +kernel
theorem l26 {w : Wd} (h : WL w) : (w.1 26).length = 16 := h 26
theorem s27 : shp[27]? = some (.inr (.inl 0)) := by decide +kernel
theorem l27 {w : Wd} (h : WL w) : (w.1 27).length = 16 := h 27
theorem s28 : shp[28]? = some (.inr (.inl 0)) := by decide +kernel
theorem l28 {w : Wd} (h : WL w) : (w.1 28).length = 4 := h 28
theorem s29 : shp[29]? = some (.inr (.inl 0)) := by decide +kernel
theorem l29 {w : Wd} (h : WL w) : (w.1 29).length = 4 := h 29
theorem s30 : shp[30]? = some (.inr (.inl 0)) := by decide +kernel
theorem l30 {w : Wd} (h : WL w) : (w.1 30).length = 4 := h 30
theorem s31 : shp[31]? = some (.inr (.inl 0)) := by decide +kernel
theorem l31 {w : Wd} (h : WL w) : (w.1 31).length = 6 := h 31
theorem s32 : shp[32]? = some (.inr (.inl 0)) := by decide +kernel
theorem l32 {w : Wd} (h : WL w) : (w.1 32).length = 1024 := h 32
theorem c33_0 {w : Wd} : gfI (hp w) 33 1 0 = some (w.2 33 0) := gfI_w rfl rfl
theorem p33_0 {w : Wd} {x : Int32} : pfV (hp w) 33 1 0 (.int x) = some (hp (wF w 33 0 x)) := pfV_w rfl rfl
theorem c33_1 {w : Wd} : gfR (hp w) 33 1 1 = some 34 := gfR_w rfl rfl
theorem c33_2 {w : Wd} : gfR (hp w) 33 1 2 = some 35 := gfR_w rfl rfl
theorem k33 {w : Wd} : chk (hp w) 33 1 = some () := chk_w rfl
theorem s34 : shp[34]? = some (.inr (.inl 0)) := by decide +kernel
theorem l34 {w : Wd} (h : WL w) : (w.1 34).length = 1024 := h 34
theorem s35 : shp[35]? = some (.inr (.inl 1)) := by decide +kernel
theorem l35 {w : Wd} (h : WL w) : (w.1 35).length = 256 := h 35
theorem s36 : shp[36]? = some (.inr (.inl 0)) := by decide +kernel
theorem l36 {w : Wd} (h : WL w) : (w.1 36).length = 4 := h 36
theorem s37 : shp[37]? = some (.inr (.inl 0)) := by decide +kernel
theorem l37 {w : Wd} (h : WL w) : (w.1 37).length = 4 := h 37
theorem s38 : shp[38]? = some (.inr (.inl 1)) := by decide +kernel
theorem l38 {w : Wd} (h : WL w) : (w.1 38).length = 4 := h 38
theorem s39 : shp[39]? = some (.inr (.inl 0)) := by decide +kernel
theorem l39 {w : Wd} (h : WL w) : (w.1 39).length = 99 := h 39
theorem c40_0 {w : Wd} : gfR (hp w) 40 9 0 = some 41 := gfR_w rfl rfl
theorem c40_1 {w : Wd} : gfI (hp w) 40 9 1 = some (w.2 40 1) := gfI_w rfl rfl
theorem p40_1 {w : Wd} {x : Int32} : pfV (hp w) 40 9 1 (.int x) = some (hp (wF w 40 1 x)) := pfV_w rfl rfl
theorem c40_2 {w : Wd} : gfI (hp w) 40 9 2 = some (w.2 40 2) := gfI_w rfl rfl
theorem p40_2 {w : Wd} {x : Int32} : pfV (hp w) 40 9 2 (.int x) = some (hp (wF w 40 2 x)) := pfV_w rfl rfl
theorem c40_3 {w : Wd} : gfI (hp w) 40 9 3 = some (w.2 40 3) := gfI_w rfl rfl
theorem p40_3 {w : Wd} {x : Int32} : pfV (hp w) 40 9 3 (.int x) = some (hp (wF w 40 3 x)) := pfV_w rfl rfl
theorem c40_4 {w : Wd} : gfI (hp w) 40 9 4 = some (w.2 40 4) := gfI_w rfl rfl
theorem p40_4 {w : Wd} {x : Int32} : pfV (hp w) 40 9 4 (.int x) = some (hp (wF w 40 4 x)) := pfV_w rfl rfl
theorem c40_5 {w : Wd} : gfI (hp w) 40 9 5 = some (w.2 40 5) := gfI_w rfl rfl
theorem p40_5 {w : Wd} {x : Int32} : pfV (hp w) 40 9 5 (.int x) = some (hp (wF w 40 5 x)) := pfV_w rfl rfl
theorem k40 {w : Wd} : chk (hp w) 40 9 = some () := chk_w rfl
theorem s41 : shp[41]? = some (.inr (.inl 2)) := by decide +kernel
theorem l41 {w : Wd} (h : WL w) : (w.1 41).length = 400 := h 41
theorem c42_0 {w : Wd} : gfI (hp w) 42 6 0 = some (w.2 42 0) := gfI_w rfl rfl
theorem p42_0 {w : Wd} {x : Int32} : pfV (hp w) 42 6 0 (.int x) = some (hp (wF w 42 0 x)) := pfV_w rfl rfl
theorem c42_1 {w : Wd} : gfI (hp w) 42 6 1 = some (w.2 42 1) := gfI_w rfl rfl
theorem p42_1 {w : Wd} {x : Int32} : pfV (hp w) 42 6 1 (.int x) = some (hp (wF w 42 1 x)) := pfV_w rfl rfl
theorem c42_2 {w : Wd} : gfI (hp w) 42 6 2 = some (w.2 42 2) := gfI_w rfl rfl
theorem p42_2 {w : Wd} {x : Int32} : pfV (hp w) 42 6 2 (.int x) = some (hp (wF w 42 2 x)) := pfV_w rfl rfl
theorem c42_3 {w : Wd} : gfR (hp w) 42 6 3 = some 43 := gfR_w rfl rfl
theorem c42_4 {w : Wd} : gfR (hp w) 42 6 4 = some 44 := gfR_w rfl rfl
theorem c42_5 {w : Wd} : gfR (hp w) 42 6 5 = some 45 := gfR_w rfl rfl
theorem c42_6 {w : Wd} : gfR (hp w) 42 6 6 = some 46 := gfR_w rfl rfl
theorem c42_7 {w : Wd} : gfR (hp w) 42 6 7 = some 47 := gfR_w rfl rfl
theorem c42_8 {w : Wd} : gfR (hp w) 42 6 8 = some 48 := gfR_w rfl rfl
theorem k42 {w : Wd} : chk (hp w) 42 6 = some () := chk_w rfl
theorem s43 : shp[43]? = some (.inr (.inl 0)) := by decide +kernel
theorem l43 {w : Wd} (h : WL w) : (w.1 43).length = 4 := h 43
theorem s44 : shp[44]? = some (.inr (.inl 0)) := by decide +kernel
theorem l44 {w : Wd} (h : WL w) : (w.1 44).length = 4 := h 44
theorem s45 : shp[45]? = some (.inr (.inl 0)) := by decide +kernel
theorem l45 {w : Wd} (h : WL w) : (w.1 45).length = 4 := h 45
theorem s46 : shp[46]? = some (.inr (.inl 0)) := by decide +kernel
theorem l46 {w : Wd} (h : WL w) : (w.1 46).length = 24 := h 46
theorem s47 : shp[47]? = some (.inr (.inl 0)) := by decide +kernel
theorem l47 {w : Wd} (h : WL w) : (w.1 47).length = 4 := h 47
theorem s48 : shp[48]? = some (.inr (.inl 0)) := by decide +kernel
theorem l48 {w : Wd} (h : WL w) : (w.1 48).length = 24 := h 48
theorem c49_0 {w : Wd} : gfR (hp w) 49 5 0 = some 50 := gfR_w rfl rfl
theorem c49_1 {w : Wd} : gfR (hp w) 49 5 1 = some 51 := gfR_w rfl rfl
theorem c49_2 {w : Wd} : gfI (hp w) 49 5 2 = some (w.2 49 2) := gfI_w rfl rfl
theorem p49_2 {w : Wd} {x : Int32} : pfV (hp w) 49 5 2 (.int x) = some (hp (wF w 49 2 x)) := pfV_w rfl rfl
theorem c49_3 {w : Wd} : gfI (hp w) 49 5 3 = some (w.2 49 3) := gfI_w rfl rfl
theorem p49_3 {w : Wd} {x : Int32} : pfV (hp w) 49 5 3 (.int x) = some (hp (wF w 49 3 x)) := pfV_w rfl rfl
theorem k49 {w : Wd} : chk (hp w) 49 5 = some () := chk_w rfl
theorem s51 : shp[51]? = some (.inr (.inl 0)) := by decide +kernel
theorem l51 {w : Wd} (h : WL w) : (w.1 51).length = 12 := h 51
theorem s233 : shp[233]? = some (.inr (.inl 0)) := by decide +kernel
theorem l233 {w : Wd} (h : WL w) : (w.1 233).length = 8 := h 233
theorem s234 : shp[234]? = some (.inr (.inl 1)) := by decide +kernel
theorem l234 {w : Wd} (h : WL w) : (w.1 234).length = 2 := h 234
theorem c235_0 {w : Wd} : gfI (hp w) 235 2 0 = some (w.2 235 0) := gfI_w rfl rfl
theorem p235_0 {w : Wd} {x : Int32} : pfV (hp w) 235 2 0 (.int x) = some (hp (wF w 235 0 x)) := pfV_w rfl rfl
theorem c235_1 {w : Wd} : gfI (hp w) 235 2 1 = some (w.2 235 1) := gfI_w rfl rfl
theorem p235_1 {w : Wd} {x : Int32} : pfV (hp w) 235 2 1 (.int x) = some (hp (wF w 235 1 x)) := pfV_w rfl rfl
theorem c235_2 {w : Wd} : gfR (hp w) 235 2 2 = some 236 := gfR_w rfl rfl
theorem c235_3 {w : Wd} : gfR (hp w) 235 2 3 = some 237 := gfR_w rfl rfl
theorem c235_4 {w : Wd} : gfR (hp w) 235 2 4 = some 238 := gfR_w rfl rfl
theorem c235_5 {w : Wd} : gfR (hp w) 235 2 5 = some 239 := gfR_w rfl rfl
theorem c235_6 {w : Wd} : gfR (hp w) 235 2 6 = some 240 := gfR_w rfl rfl
theorem k235 {w : Wd} : chk (hp w) 235 2 = some () := chk_w rfl
theorem s236 : shp[236]? = some (.inr (.inl 0)) := by decide +kernel
theorem l236 {w : Wd} (h : WL w) : (w.1 236).length = 99 := h 236
theorem s237 : shp[237]? = some (.inr (.inl 0)) := by decide +kernel
theorem l237 {w : Wd} (h : WL w) : (w.1 237).length = 99 := h 237
theorem s238 : shp[238]? = some (.inr (.inl 0)) := by decide +kernel
theorem l238 {w : Wd} (h : WL w) : (w.1 238).length = 99 := h 238
theorem s239 : shp[239]? = some (.inr (.inl 0)) := by decide +kernel
theorem l239 {w : Wd} (h : WL w) : (w.1 239).length = 396 := h 239
theorem s240 : shp[240]? = some (.inr (.inl 0)) := by decide +kernel
theorem l240 {w : Wd} (h : WL w) : (w.1 240).length = 594 := h 240
theorem c241_0 {w : Wd} : gfI (hp w) 241 7 0 = some (w.2 241 0) := gfI_w rfl rfl
theorem p241_0 {w : Wd} {x : Int32} : pfV (hp w) 241 7 0 (.int x) = some (hp (wF w 241 0 x)) := pfV_w rfl rfl
theorem c241_1 {w : Wd} : gfI (hp w) 241 7 1 = some (w.2 241 1) := gfI_w rfl rfl
theorem p241_1 {w : Wd} {x : Int32} : pfV (hp w) 241 7 1 (.int x) = some (hp (wF w 241 1 x)) := pfV_w rfl rfl
theorem c241_2 {w : Wd} : gfI (hp w) 241 7 2 = some (w.2 241 2) := gfI_w rfl rfl
theorem p241_2 {w : Wd} {x : Int32} : pfV (hp w) 241 7 2 (.int x) = some (hp (wF w 241 2 x)) := pfV_w rfl rfl
theorem c241_3 {w : Wd} : gfI (hp w) 241 7 3 = some (w.2 241 3) := gfI_w rfl rfl
theorem p241_3 {w : Wd} {x : Int32} : pfV (hp w) 241 7 3 (.int x) = some (hp (wF w 241 3 x)) := pfV_w rfl rfl
theorem c241_4 {w : Wd} : gfI (hp w) 241 7 4 = some (w.2 241 4) := gfI_w rfl rfl
theorem p241_4 {w : Wd} {x : Int32} : pfV (hp w) 241 7 4 (.int x) = some (hp (wF w 241 4 x)) := pfV_w rfl rfl
theorem c241_5 {w : Wd} : gfI (hp w) 241 7 5 = some (w.2 241 5) := gfI_w rfl rfl
theorem p241_5 {w : Wd} {x : Int32} : pfV (hp w) 241 7 5 (.int x) = some (hp (wF w 241 5 x)) := pfV_w rfl rfl
theorem c241_6 {w : Wd} : gfI (hp w) 241 7 6 = some (w.2 241 6) := gfI_w rfl rfl
theorem p241_6 {w : Wd} {x : Int32} : pfV (hp w) 241 7 6 (.int x) = some (hp (wF w 241 6 x)) := pfV_w rfl rfl
theorem k241 {w : Wd} : chk (hp w) 241 7 = some () := chk_w rfl
theorem s242 : shp[242]? = some (.inr (.inl 0)) := by decide +kernel
theorem l242 {w : Wd} (h : WL w) : (w.1 242).length = 4 := h 242
theorem s243 : shp[243]? = some (.inr (.inl 0)) := by decide +kernel
theorem l243 {w : Wd} (h : WL w) : (w.1 243).length = 6 := h 243
theorem c274_0 {w : Wd} : gfI (hp w) 274 11 0 = some (w.2 274 0) := gfI_w rfl rfl
theorem p274_0 {w : Wd} {x : Int32} : pfV (hp w) 274 11 0 (.int x) = some (hp (wF w 274 0 x)) := pfV_w rfl rfl
theorem c274_1 {w : Wd} : gfR (hp w) 274 11 1 = some 275 := gfR_w rfl rfl
theorem c274_2 {w : Wd} : gfR (hp w) 274 11 2 = some 276 := gfR_w rfl rfl
theorem c274_3 {w : Wd} : gfR (hp w) 274 11 3 = some 277 := gfR_w rfl rfl
theorem c274_4 {w : Wd} : gfR (hp w) 274 11 4 = some 278 := gfR_w rfl rfl
theorem c274_5 {w : Wd} : gfR (hp w) 274 11 5 = some 279 := gfR_w rfl rfl
theorem c274_6 {w : Wd} : gfR (hp w) 274 11 6 = some 280 := gfR_w rfl rfl
theorem c274_7 {w : Wd} : gfR (hp w) 274 11 7 = some 281 := gfR_w rfl rfl
theorem c274_8 {w : Wd} : gfR (hp w) 274 11 8 = some 282 := gfR_w rfl rfl
theorem c274_9 {w : Wd} : gfI (hp w) 274 11 9 = some (w.2 274 9) := gfI_w rfl rfl
theorem p274_9 {w : Wd} {x : Int32} : pfV (hp w) 274 11 9 (.int x) = some (hp (wF w 274 9 x)) := pfV_w rfl rfl
theorem c274_10 {w : Wd} : gfI (hp w) 274 11 10 = some (w.2 274 10) := gfI_w rfl rfl
theorem p274_10 {w : Wd} {x : Int32} : pfV (hp w) 274 11 10 (.int x) = some (hp (wF w 274 10 x)) := pfV_w rfl rfl
theorem c274_11 {w : Wd} : gfR (hp w) 274 11 11 = some 283 := gfR_w rfl rfl
theorem c274_12 {w : Wd} : gfR (hp w) 274 11 12 = some 284 := gfR_w rfl rfl
theorem c274_13 {w : Wd} : gfI (hp w) 274 11 13 = some (w.2 274 13) := gfI_w rfl rfl
theorem p274_13 {w : Wd} {x : Int32} : pfV (hp w) 274 11 13 (.int x) = some (hp (wF w 274 13 x)) := pfV_w rfl rfl
theorem c274_14 {w : Wd} : gfI (hp w) 274 11 14 = some (w.2 274 14) := gfI_w rfl rfl
theorem p274_14 {w : Wd} {x : Int32} : pfV (hp w) 274 11 14 (.int x) = some (hp (wF w 274 14 x)) := pfV_w rfl rfl
theorem c274_15 {w : Wd} : gfR (hp w) 274 11 15 = some 285 := gfR_w rfl rfl
theorem c274_16 {w : Wd} : gfR (hp w) 274 11 16 = some 286 := gfR_w rfl rfl
theorem c274_17 {w : Wd} : gfI (hp w) 274 11 17 = some (w.2 274 17) := gfI_w rfl rfl
theorem p274_17 {w : Wd} {x : Int32} : pfV (hp w) 274 11 17 (.int x) = some (hp (wF w 274 17 x)) := pfV_w rfl rfl
theorem c274_18 {w : Wd} : gfI (hp w) 274 11 18 = some (w.2 274 18) := gfI_w rfl rfl
theorem p274_18 {w : Wd} {x : Int32} : pfV (hp w) 274 11 18 (.int x) = some (hp (wF w 274 18 x)) := pfV_w rfl rfl
theorem c274_19 {w : Wd} : gfI (hp w) 274 11 19 = some (w.2 274 19) := gfI_w rfl rfl
theorem p274_19 {w : Wd} {x : Int32} : pfV (hp w) 274 11 19 (.int x) = some (hp (wF w 274 19 x)) := pfV_w rfl rfl
theorem c274_20 {w : Wd} : gfI (hp w) 274 11 20 = some (w.2 274 20) := gfI_w rfl rfl
theorem p274_20 {w : Wd} {x : Int32} : pfV (hp w) 274 11 20 (.int x) = some (hp (wF w 274 20 x)) := pfV_w rfl rfl
theorem c274_21 {w : Wd} : gfI (hp w) 274 11 21 = some (w.2 274 21) := gfI_w rfl rfl
theorem p274_21 {w : Wd} {x : Int32} : pfV (hp w) 274 11 21 (.int x) = some (hp (wF w 274 21 x)) := pfV_w rfl rfl
theorem c274_22 {w : Wd} : gfI (hp w) 274 11 22 = some (w.2 274 22) := gfI_w rfl rfl
theorem p274_22 {w : Wd} {x : Int32} : pfV (hp w) 274 11 22 (.int x) = some (hp (wF w 274 22 x)) := pfV_w rfl rfl
theorem c274_23 {w : Wd} : gfR (hp w) 274 11 23 = some 287 := gfR_w rfl rfl
theorem c274_24 {w : Wd} : gfR (hp w) 274 11 24 = some 288 := gfR_w rfl rfl
theorem c274_25 {w : Wd} : gfR (hp w) 274 11 25 = some 289 := gfR_w rfl rfl
theorem c274_26 {w : Wd} : gfR (hp w) 274 11 26 = some 290 := gfR_w rfl rfl
theorem c274_27 {w : Wd} : gfI (hp w) 274 11 27 = some (w.2 274 27) := gfI_w rfl rfl
theorem p274_27 {w : Wd} {x : Int32} : pfV (hp w) 274 11 27 (.int x) = some (hp (wF w 274 27 x)) := pfV_w rfl rfl
theorem c274_28 {w : Wd} : gfR (hp w) 274 11 28 = some 291 := gfR_w rfl rfl
theorem k274 {w : Wd} : chk (hp w) 274 11 = some () := chk_w rfl
theorem s275 : shp[275]? = some (.inr (.inl 0)) := by decide +kernel
theorem l275 {w : Wd} (h : WL w) : (w.1 275).length = 7 := h 275
theorem s276 : shp[276]? = some (.inr (.inl 0)) := by decide +kernel
theorem l276 {w : Wd} (h : WL w) : (w.1 276).length = 4 := h 276
theorem s277 : shp[277]? = some (.inr (.inl 0)) := by decide +kernel
theorem l277 {w : Wd} (h : WL w) : (w.1 277).length = 4 := h 277
theorem s278 : shp[278]? = some (.inr (.inl 0)) := by decide +kernel
theorem l278 {w : Wd} (h : WL w) : (w.1 278).length = 4 := h 278
theorem s279 : shp[279]? = some (.inr (.inl 0)) := by decide +kernel
theorem l279 {w : Wd} (h : WL w) : (w.1 279).length = 1427 := h 279
theorem s280 : shp[280]? = some (.inr (.inl 0)) := by decide +kernel
theorem l280 {w : Wd} (h : WL w) : (w.1 280).length = 1427 := h 280
theorem s281 : shp[281]? = some (.inr (.inl 0)) := by decide +kernel
theorem l281 {w : Wd} (h : WL w) : (w.1 281).length = 1427 := h 281
theorem s282 : shp[282]? = some (.inr (.inl 0)) := by decide +kernel
theorem l282 {w : Wd} (h : WL w) : (w.1 282).length = 400 := h 282
theorem s283 : shp[283]? = some (.inr (.inl 0)) := by decide +kernel
theorem l283 {w : Wd} (h : WL w) : (w.1 283).length = 17124 := h 283
theorem s284 : shp[284]? = some (.inr (.inl 0)) := by decide +kernel
theorem l284 {w : Wd} (h : WL w) : (w.1 284).length = 12 := h 284
theorem s285 : shp[285]? = some (.inr (.inl 0)) := by decide +kernel
theorem l285 {w : Wd} (h : WL w) : (w.1 285).length = 2862 := h 285
theorem s286 : shp[286]? = some (.inr (.inl 1)) := by decide +kernel
theorem l286 {w : Wd} (h : WL w) : (w.1 286).length = 2 := h 286
theorem s287 : shp[287]? = some (.inr (.inl 0)) := by decide +kernel
theorem l287 {w : Wd} (h : WL w) : (w.1 287).length = 4 := h 287
theorem s288 : shp[288]? = some (.inr (.inl 0)) := by decide +kernel
theorem l288 {w : Wd} (h : WL w) : (w.1 288).length = 6 := h 288
theorem s289 : shp[289]? = some (.inr (.inl 0)) := by decide +kernel
theorem l289 {w : Wd} (h : WL w) : (w.1 289).length = 6 := h 289
theorem s290 : shp[290]? = some (.inr (.inl 0)) := by decide +kernel
theorem l290 {w : Wd} (h : WL w) : (w.1 290).length = 52 := h 290
theorem s291 : shp[291]? = some (.inr (.inl 0)) := by decide +kernel
theorem l291 {w : Wd} (h : WL w) : (w.1 291).length = 4 := h 291
