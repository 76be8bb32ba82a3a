/-! search, state, history -/
def isSr (a : Nat) : Prop := shp[a]? = some (.inl (7, [none, none, none, none, none, none, none]))
def srW (w : Wd) (a : Nat) : List Int32 := (List.range 7).map (w.2 a)
def sr0 : List Int32 := [0, -1, -1, -1, -1, 0, 0]
theorem Srch_reset_w {w : Wd} {a : Nat} (ha : isSr a) (hw : WL w) : ∃ w', Srch_reset a (hp w) = some ((), hp w') ∧ WL w' ∧ srW w' a = sr0 ∧ Fr w w' a (a + 1) := by
  refine ⟨?w, ?h1, ?h2, ?h3, ?h4⟩
  case h1 =>
    unfold Srch_reset
    have e : ∀ (W : Wd) (x : Int32) (k : Nat), k < 7 → pfV (hp W) a 7 k (.int x) = some (hp (wF W a k x)) := fun W x k hk => pfV_w ha (by
      have : k = 0 ∨ k = 1 ∨ k = 2 ∨ k = 3 ∨ k = 4 ∨ k = 5 ∨ k = 6 := by omega
      rcases this with rfl | rfl | rfl | rfl | rfl | rfl | rfl <;> rfl)
    simp only [e _ _ 0 (by omega), e _ _ 1 (by omega), e _ _ 2 (by omega), e _ _ 3 (by omega), e _ _ 4 (by omega), e _ _ 5 (by omega), e _ _ 6 (by omega), Option.bind_some]
    rfl
  case h2 => exact hw
  case h3 => simp [srW, sr0, wF, List.range_succ]
  case h4 =>
    repeat (first | exact Fr.rfl' | refine Fr.cA ?_ ?_ ?_ | refine Fr.cF ?_ ?_ ?_)
    all_goals omega
theorem Srch_copyFrom_w {w : Wd} {a b : Nat} (ha : isSr a) (hb : isSr b) (hd : a ≠ b) (hw : WL w) : ∃ w', Srch_copyFrom a b (hp w) = some ((), hp w') ∧ WL w' ∧ srW w' a = srW w b ∧ Fr w w' a (a + 1) := by
  have hd' : ¬ b = a := fun h => hd h.symm
  refine ⟨?w, ?h1, ?h2, ?h3, ?h4⟩
  case h1 =>
    unfold Srch_copyFrom
    have k7 : ∀ k, k < 7 → ([none, none, none, none, none, none, none] : List (Option Nat))[k]? = some none := fun k hk => by
      have : k = 0 ∨ k = 1 ∨ k = 2 ∨ k = 3 ∨ k = 4 ∨ k = 5 ∨ k = 6 := by omega
      rcases this with rfl | rfl | rfl | rfl | rfl | rfl | rfl <;> rfl
    have e : ∀ (W : Wd) (x : Int32) (k : Nat), k < 7 → pfV (hp W) a 7 k (.int x) = some (hp (wF W a k x)) := fun W x k hk => pfV_w ha (k7 k hk)
    have f : ∀ (W : Wd) (k : Nat), k < 7 → gfI (hp W) b 7 k = some (W.2 b k) := fun W k hk => gfI_w hb (k7 k hk)
    simp only [e _ _ 0 (by omega), e _ _ 1 (by omega), e _ _ 2 (by omega), e _ _ 3 (by omega), e _ _ 4 (by omega), e _ _ 5 (by omega), e _ _ 6 (by omega), f _ 0 (by omega), f _ 1 (by omega), f _ 2 (by omega), f _ 3 (by omega), f _ 4 (by omega), f _ 5 (by omega), f _ 6 (by omega), Option.bind_some]
    rfl
  case h2 => exact hw
  case h3 => simp [srW, wF, List.range_succ, hd']
  case h4 =>
    repeat (first | exact Fr.rfl' | refine Fr.cA ?_ ?_ ?_ | refine Fr.cF ?_ ?_ ?_)
    all_goals omega
def pgLen (a : Nat) : Prop := lenT.getD (a + 1) 0 = 4 ∧ lenT.getD (a + 2) 0 = 4 ∧ lenT.getD (a + 3) 0 = 4 ∧ lenT.getD (a + 4) 0 = 24 ∧ lenT.getD (a + 5) 0 = 4 ∧ lenT.getD (a + 6) 0 = 24
theorem pgLen.w {w : Wd} {a : Nat} (h : pgLen a) (hw : WL w) : (w.1 (a + 1)).length = 4 ∧ (w.1 (a + 2)).length = 4 ∧ (w.1 (a + 3)).length = 4 ∧ (w.1 (a + 4)).length = 24 ∧ (w.1 (a + 5)).length = 4 ∧ (w.1 (a + 6)).length = 24 := by
  obtain ⟨h1, h2, h3, h4, h5, h6⟩ := h
  refine ⟨?_, ?_, ?_, ?_, ?_, ?_⟩ <;> rw [hw] <;> assumption
def isSt (b : Nat) : Prop := shp[b]? = some (.inl (8, [some (b + 1), some (b + 8), some (b + 14)])) ∧ (isPg (b + 1) ∧ pgLen (b + 1)) ∧ isCt (b + 8) 40 ∧ isSr (b + 14)
abbrev ST : Type := PD × List (List Int32) × List Int32
def stW (w : Wd) (b : Nat) : ST := (pdW w (b + 1), cutsW w (b + 8), srW w (b + 14))
def stOk (w : Wd) (b : Nat) : Prop := w.2 (b + 8) 0 = nI 40 ∧ cSz w (b + 8) 40
theorem sr_fr {w w' : Wd} {a lo hi : Nat} (h : Fr w w' lo hi) (ha : a < lo ∨ hi ≤ a) : srW w' a = srW w a := by
  unfold srW; rw [(h a ha).2]
theorem cSz_fr {w w' : Wd} {a m lo hi : Nat} (h : Fr w w' lo hi) (ha : a < lo ∨ hi ≤ a) (hz : cSz w a m) : cSz w' a m := by
  unfold cSz cN at *; rw [(h a ha).2]; exact hz
theorem st_fr {w w' : Wd} {b lo hi : Nat} (h : Fr w w' lo hi) (ha : b + 15 ≤ lo ∨ hi ≤ b) : stW w' b = stW w b := by
  unfold stW; rw [pd_fr h (by omega), cuts_fr h (by omega), sr_fr h (by omega)]
theorem stOk_fr {w w' : Wd} {b lo hi : Nat} (h : Fr w w' lo hi) (ha : b + 15 ≤ lo ∨ hi ≤ b) (hz : stOk w b) : stOk w' b :=
  ⟨by rw [(h (b + 8) (by omega)).2]; exact hz.1, cSz_fr h (by omega) hz.2⟩
theorem SL.wl {w w' : Wd} (h : SL w w') (hw : WL w) : WL w' := fun i => by rw [h i, hw i]
theorem Stat_copyFrom_w {w : Wd} {a b : Nat} (ha : isSt a) (hb : isSt b) (hd : a + 15 ≤ b ∨ b + 15 ≤ a) (hw : WL w) (hm : w.2 (a + 8) 0 = nI 40) (hz : stOk w b) : ∃ w', Stat_copyFrom a b (hp w) = some ((), hp w') ∧ WL w' ∧ stW w' a = stW w b ∧ stOk w' a ∧ Fr w w' a (a + 15) := by
  obtain ⟨a0, a1, a2, a3⟩ := ha
  obtain ⟨b0, b1, b2, b3⟩ := hb
  obtain ⟨w1, p1, p2, p3, p4⟩ := Prog_copyFrom_w (w := w) a1.1 b1.1 (by omega) (a1.2.w hw) (b1.2.w hw)
  have hw1 := p4.wl hw
  obtain ⟨w2, c1, c2, c3, c4, c5, c6⟩ := Cuts_copyFrom_w (w := w1) a2 b2 (by omega) hw1 (by rw [(p3 (a + 8) (by omega)).2]; exact hm) (cSz_fr p3 (by omega) hz.2) (by
    have := cSz_fr p3 (by omega) hz.2
    exact this.2)
  obtain ⟨w3, s1, s2, s3, s4⟩ := Srch_copyFrom_w (w := w2) a3 b3 (by omega) c2
  refine ⟨w3, ?_, s2, ?_, ?_, ?_⟩
  · unfold Stat_copyFrom
    simp only [gfR_w a0 (k := 0) rfl, gfR_w b0 (k := 0) rfl, gfR_w a0 (k := 1) rfl, gfR_w b0 (k := 1) rfl, gfR_w a0 (k := 2) rfl, gfR_w b0 (k := 2) rfl, Option.bind_some, pgC a1.1, p1, bnd2_some, ctK a2, c1, chk_w a3, s1]
  · unfold stW
    rw [s3, sr_fr c6 (by omega), sr_fr p3 (by omega), cuts_fr s4 (by omega), c3, cuts_fr p3 (by omega), pd_fr s4 (by omega), pd_fr c6 (by omega), p2]
  · exact ⟨by rw [(s4 (a + 8) (by omega)).2, c5, (p3 (a + 8) (by omega)).2]; exact hm, cSz_fr s4 (by omega) c4⟩
  · exact ((p3.mono (by omega) (by omega)).tr (c6.mono (by omega) (by omega))).tr (s4.mono (by omega) (by omega))
theorem isSt_1 : isSt 1 := ⟨by decide +kernel, ⟨⟨by decide +kernel, by decide +kernel, by decide +kernel, by decide +kernel, by decide +kernel, by decide +kernel, by decide +kernel⟩, ⟨by decide +kernel, by decide +kernel, by decide +kernel, by decide +kernel, by decide +kernel, by decide +kernel⟩⟩, ⟨by decide +kernel, ⟨by decide +kernel, by decide +kernel, by decide +kernel, by decide +kernel, by decide +kernel⟩, ⟨by decide +kernel, by decide +kernel, by decide +kernel, by decide +kernel, by decide +kernel⟩, by decide +kernel⟩, by unfold isSr; decide +kernel⟩
theorem isSt_52 : isSt 52 := ⟨by decide +kernel, ⟨⟨by decide +kernel, by decide +kernel, by decide +kernel, by decide +kernel, by decide +kernel, by decide +kernel, by decide +kernel⟩, ⟨by decide +kernel, by decide +kernel, by decide +kernel, by decide +kernel, by decide +kernel, by decide +kernel⟩⟩, ⟨by decide +kernel, ⟨by decide +kernel, by decide +kernel, by decide +kernel, by decide +kernel, by decide +kernel⟩, ⟨by decide +kernel, by decide +kernel, by decide +kernel, by decide +kernel, by decide +kernel⟩, by decide +kernel⟩, by unfold isSr; decide +kernel⟩
theorem isSt_67 : isSt 67 := ⟨by decide +kernel, ⟨⟨by decide +kernel, by decide +kernel, by decide +kernel, by decide +kernel, by decide +kernel, by decide +kernel, by decide +kernel⟩, ⟨by decide +kernel, by decide +kernel, by decide +kernel, by decide +kernel, by decide +kernel, by decide +kernel⟩⟩, ⟨by decide +kernel, ⟨by decide +kernel, by decide +kernel, by decide +kernel, by decide +kernel, by decide +kernel⟩, ⟨by decide +kernel, by decide +kernel, by decide +kernel, by decide +kernel, by decide +kernel⟩, by decide +kernel⟩, by unfold isSr; decide +kernel⟩
theorem isSt_82 : isSt 82 := ⟨by decide +kernel, ⟨⟨by decide +kernel, by decide +kernel, by decide +kernel, by decide +kernel, by decide +kernel, by decide +kernel, by decide +kernel⟩, ⟨by decide +kernel, by decide +kernel, by decide +kernel, by decide +kernel, by decide +kernel, by decide +kernel⟩⟩, ⟨by decide +kernel, ⟨by decide +kernel, by decide +kernel, by decide +kernel, by decide +kernel, by decide +kernel⟩, ⟨by decide +kernel, by decide +kernel, by decide +kernel, by decide +kernel, by decide +kernel⟩, by decide +kernel⟩, by unfold isSr; decide +kernel⟩
theorem isSt_97 : isSt 97 := ⟨by decide +kernel, ⟨⟨by decide +kernel, by decide +kernel, by decide +kernel, by decide +kernel, by decide +kernel, by decide +kernel, by decide +kernel⟩, ⟨by decide +kernel, by decide +kernel, by decide +kernel, by decide +kernel, by decide +kernel, by decide +kernel⟩⟩, ⟨by decide +kernel, ⟨by decide +kernel, by decide +kernel, by decide +kernel, by decide +kernel, by decide +kernel⟩, ⟨by decide +kernel, by decide +kernel, by decide +kernel, by decide +kernel, by decide +kernel⟩, by decide +kernel⟩, by unfold isSr; decide +kernel⟩
theorem isSt_112 : isSt 112 := ⟨by decide +kernel, ⟨⟨by decide +kernel, by decide +kernel, by decide +kernel, by decide +kernel, by decide +kernel, by decide +kernel, by decide +kernel⟩, ⟨by decide +kernel, by decide +kernel, by decide +kernel, by decide +kernel, by decide +kernel, by decide +kernel⟩⟩, ⟨by decide +kernel, ⟨by decide +kernel, by decide +kernel, by decide +kernel, by decide +kernel, by decide +kernel⟩, ⟨by decide +kernel, by decide +kernel, by decide +kernel, by decide +kernel, by decide +kernel⟩, by decide +kernel⟩, by unfold isSr; decide +kernel⟩
theorem isSt_127 : isSt 127 := ⟨by decide +kernel, ⟨⟨by decide +kernel, by decide +kernel, by decide +kernel, by decide +kernel, by decide +kernel, by decide +kernel, by decide +kernel⟩, ⟨by decide +kernel, by decide +kernel, by decide +kernel, by decide +kernel, by decide +kernel, by decide +kernel⟩⟩, ⟨by decide +kernel, ⟨by decide +kernel, by decide +kernel, by decide +kernel, by decide +kernel, by decide +kernel⟩, ⟨by decide +kernel, by decide +kernel, by decide +kernel, by decide +kernel, by decide +kernel⟩, by decide +kernel⟩, by unfold isSr; decide +kernel⟩
theorem isSt_142 : isSt 142 := ⟨by decide +kernel, ⟨⟨by decide +kernel, by decide +kernel, by decide +kernel, by decide +kernel, by decide +kernel, by decide +kernel, by decide +kernel⟩, ⟨by decide +kernel, by decide +kernel, by decide +kernel, by decide +kernel, by decide +kernel, by decide +kernel⟩⟩, ⟨by decide +kernel, ⟨by decide +kernel, by decide +kernel, by decide +kernel, by decide +kernel, by decide +kernel⟩, ⟨by decide +kernel, by decide +kernel, by decide +kernel, by decide +kernel, by decide +kernel⟩, by decide +kernel⟩, by unfold isSr; decide +kernel⟩
theorem isSt_157 : isSt 157 := ⟨by decide +kernel, ⟨⟨by decide +kernel, by decide +kernel, by decide +kernel, by decide +kernel, by decide +kernel, by decide +kernel, by decide +kernel⟩, ⟨by decide +kernel, by decide +kernel, by decide +kernel, by decide +kernel, by decide +kernel, by decide +kernel⟩⟩, ⟨by decide +kernel, ⟨by decide +kernel, by decide +kernel, by decide +kernel, by decide +kernel, by decide +kernel⟩, ⟨by decide +kernel, by decide +kernel, by decide +kernel, by decide +kernel, by decide +kernel⟩, by decide +kernel⟩, by unfold isSr; decide +kernel⟩
theorem isSt_172 : isSt 172 := ⟨by decide +kernel, ⟨⟨by decide +kernel, by decide +kernel, by decide +kernel, by decide +kernel, by decide +kernel, by decide +kernel, by decide +kernel⟩, ⟨by decide +kernel, by decide +kernel, by decide +kernel, by decide +kernel, by decide +kernel, by decide +kernel⟩⟩, ⟨by decide +kernel, ⟨by decide +kernel, by decide +kernel, by decide +kernel, by decide +kernel, by decide +kernel⟩, ⟨by decide +kernel, by decide +kernel, by decide +kernel, by decide +kernel, by decide +kernel⟩, by decide +kernel⟩, by unfold isSr; decide +kernel⟩
theorem isSt_187 : isSt 187 := ⟨by decide +kernel, ⟨⟨by decide +kernel, by decide +kernel, by decide +kernel, by decide +kernel, by decide +kernel, by decide +kernel, by decide +kernel⟩, ⟨by decide +kernel, by decide +kernel, by decide +kernel, by decide +kernel, by decide +kernel, by decide +kernel⟩⟩, ⟨by decide +kernel, ⟨by decide +kernel, by decide +kernel, by decide +kernel, by decide +kernel, by decide +kernel⟩, ⟨by decide +kernel, by decide +kernel, by decide +kernel, by decide +kernel, by decide +kernel⟩, by decide +kernel⟩, by unfold isSr; decide +kernel⟩
theorem isSt_202 : isSt 202 := ⟨by decide +kernel, ⟨⟨by decide +kernel, by decide +kernel, by decide +kernel, by decide +kernel, by decide +kernel, by decide +kernel, by decide +kernel⟩, ⟨by decide +kernel, by decide +kernel, by decide +kernel, by decide +kernel, by decide +kernel, by decide +kernel⟩⟩, ⟨by decide +kernel, ⟨by decide +kernel, by decide +kernel, by decide +kernel, by decide +kernel, by decide +kernel⟩, ⟨by decide +kernel, by decide +kernel, by decide +kernel, by decide +kernel, by decide +kernel⟩, by decide +kernel⟩, by unfold isSr; decide +kernel⟩
theorem isSt_217 : isSt 217 := ⟨by decide +kernel, ⟨⟨by decide +kernel, by decide +kernel, by decide +kernel, by decide +kernel, by decide +kernel, by decide +kernel, by decide +kernel⟩, ⟨by decide +kernel, by decide +kernel, by decide +kernel, by decide +kernel, by decide +kernel, by decide +kernel⟩⟩, ⟨by decide +kernel, ⟨by decide +kernel, by decide +kernel, by decide +kernel, by decide +kernel, by decide +kernel⟩, ⟨by decide +kernel, by decide +kernel, by decide +kernel, by decide +kernel, by decide +kernel⟩, by decide +kernel⟩, by unfold isSr; decide +kernel⟩
theorem isSt_244 : isSt 244 := ⟨by decide +kernel, ⟨⟨by decide +kernel, by decide +kernel, by decide +kernel, by decide +kernel, by decide +kernel, by decide +kernel, by decide +kernel⟩, ⟨by decide +kernel, by decide +kernel, by decide +kernel, by decide +kernel, by decide +kernel, by decide +kernel⟩⟩, ⟨by decide +kernel, ⟨by decide +kernel, by decide +kernel, by decide +kernel, by decide +kernel, by decide +kernel⟩, ⟨by decide +kernel, by decide +kernel, by decide +kernel, by decide +kernel, by decide +kernel⟩, by decide +kernel⟩, by unfold isSr; decide +kernel⟩
theorem isSt_259 : isSt 259 := ⟨by decide +kernel, ⟨⟨by decide +kernel, by decide +kernel, by decide +kernel, by decide +kernel, by decide +kernel, by decide +kernel, by decide +kernel⟩, ⟨by decide +kernel, by decide +kernel, by decide +kernel, by decide +kernel, by decide +kernel, by decide +kernel⟩⟩, ⟨by decide +kernel, ⟨by decide +kernel, by decide +kernel, by decide +kernel, by decide +kernel, by decide +kernel⟩, ⟨by decide +kernel, by decide +kernel, by decide +kernel, by decide +kernel, by decide +kernel⟩, by decide +kernel⟩, by unfold isSr; decide +kernel⟩
def hB (j : Nat) : Nat := 52 + 15 * j
theorem isSt_h {j : Nat} (h : j < 12) : isSt (hB j) := by
  have : j = 0 ∨ j = 1 ∨ j = 2 ∨ j = 3 ∨ j = 4 ∨ j = 5 ∨ j = 6 ∨ j = 7 ∨ j = 8 ∨ j = 9 ∨ j = 10 ∨ j = 11 := by omega
  rcases this with rfl | rfl | rfl | rfl | rfl | rfl | rfl | rfl | rfl | rfl | rfl | rfl
  · exact isSt_52
  · exact isSt_67
  · exact isSt_82
  · exact isSt_97
  · exact isSt_112
  · exact isSt_127
  · exact isSt_142
  · exact isSt_157
  · exact isSt_172
  · exact isSt_187
  · exact isSt_202
  · exact isSt_217
