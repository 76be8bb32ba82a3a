/-! numbers and words of the tape -/
def numV (tp : List Int32) (a : Nat) : Nat → Nat
  | 0 => 0
  | k + 1 => 10 * numV tp a k + ((tp.getD (a + k) 0).toInt - 48).toNat
def valT (tp : List Int32) (s : Nat) : Nat := numV tp s (tkE tp s - s)
def nmP (tp : List Int32) (s : Nat) (lo hi : Int) : Option Nat := if kdA tp s = 2 ∧ lo ≤ (valT tp s : Int) ∧ (valT tp s : Int) ≤ hi then some (valT tp s) else none
theorem nmP_some {tp : List Int32} {s v : Nat} {lo hi : Int} (h : nmP tp s lo hi = some v) : kdA tp s = 2 ∧ lo ≤ (v : Int) ∧ (v : Int) ≤ hi ∧ v = valT tp s := by
  unfold nmP at h
  by_cases hc : kdA tp s = 2 ∧ lo ≤ (valT tp s : Int) ∧ (valT tp s : Int) ≤ hi
  · rw [if_pos hc] at h
    have := Option.some.inj h
    rw [← this]
    exact ⟨hc.1, hc.2.1, hc.2.2, rfl⟩
  · rw [if_neg hc] at h; exact absurd h (by simp)
def nmI : Option Nat → Int32
  | some v => nI v
  | none => -1
theorem nIc {a b : Nat} (h : a = b) : nI a = nI b := by rw [h]
theorem b2f : b2i false = 0 := rfl
theorem b2t : b2i true = 1 := rfl
theorem dig_c {c d : Int32} (hb : btR c d) (hd : 48 ≤ d.toInt ∧ d.toInt ≤ 57) : c = nI (48 + (d.toInt - 48).toNat) ∧ d = nI (48 + (d.toInt - 48).toNat) ∧ (d.toInt - 48).toNat ≤ 9 := by
  obtain ⟨h1, h2, h3⟩ := hb
  rw [if_pos (by omega)] at h3
  refine ⟨?_, ?_, by omega⟩
  · rw [ti_eq, nI_toInt (by omega)]; omega
  · rw [ti_eq, nI_toInt (by omega)]; omega
theorem btR_self {d : Int32} (h : 48 ≤ d.toInt ∧ d.toInt ≤ 57) : btR d d := ⟨by omega, by omega, by rw [if_pos (by omega)]⟩
theorem peek_w {w : Wd} {tp : List Int32} {s : Nat} {lo hi : Int32} (hw : WL w) (hT : tpC w tp) (hs : tkC w tp s) (hl : 0 ≤ lo.toInt) (hh : hi.toInt ≤ 999) : Tape_peekNumber 40 lo hi (hp w) = some (nmI (nmP tp s lo.toInt hi.toInt), hp w) := by
  have hn := hT.2.1
  have hE := tkE_rng hs.1
  by_cases hk : kdA tp s = 2
  · obtain ⟨hs1, hdig⟩ := tk_dig hk
    obtain ⟨q, i1, rfl⟩ := iter_I (body := Tape_peekNumber_b18 40 lo hi (hp w)) (fun j t => t = (nI (min (numV tp s j) 1000000), nI (s + j))) (fun r => r = (nI (min (valT tp s) 1000000), nI (tkE tp s))) (tkE tp s - s) (s0 := (0, nI s)) (by omega) rfl (by
      rintro j t hj rfl
      left
      have hc : ¬ nI (tkE tp s) ≤ nI (s + j) := nI_ge (by omega) (by omega)
      have l1 := ld41 hw hT (k := s + j) (by omega)
      obtain ⟨e1, e2, e3⟩ := dig_c (hT.2.2 (s + j) (by omega)) (hdig (s + j) (by omega) (by omega))
      rw [e1] at l1
      obtain ⟨dg, hdg⟩ : ∃ dg, dg = ((tp.getD (s + j) 0).toInt - 48).toNat := ⟨_, rfl⟩
      rw [← hdg] at l1 e3
      obtain ⟨m, hm⟩ : ∃ m, m = min (numV tp s j) 1000000 := ⟨_, rfl⟩
      have hm2 : m ≤ 1000000 := by rw [hm]; exact Nat.min_le_right _ _
      have ev : nI m * 10 + nI (48 + dg) - 48 = nI (10 * m + dg) := by
        rw [show (10 : Int32) = nI 10 from rfl, nI_mul, nI_add, show (48 : Int32) = nI 48 from rfl, nI_sb (by omega) (by omega)]
        exact nIc (by omega)
      have hv : numV tp s (j + 1) = 10 * numV tp s j + dg := by rw [hdg]; rfl
      refine ⟨(nI (min (numV tp s (j + 1)) 1000000), nI (s + (j + 1))), ?_, rfl⟩
      unfold Tape_peekNumber_b18
      rw [c40_4, Option.bind_some, hs.2.2.1]
      show (if nI (tkE tp s) ≤ nI (s + j) then some (Sum.inr (nI (min (numV tp s j) 1000000), nI (s + j))) else (gfR (hp w) 40 9 0).bind fun a4 => (ald 2 (hp w) a4 (nI (s + j))).bind fun x5 => some (Sum.inl ((if 1000000 < (((nI (min (numV tp s j) 1000000) * 10) + x5) - 48) then 1000000 else (((nI (min (numV tp s j) 1000000) * 10) + x5) - 48)), nI (s + j) + 1))) = _
      rw [if_neg hc, c40_0, Option.bind_some, l1, Option.bind_some, ← hm, ev, nI_1, hv]
      have em : (if (1000000 : Int32) < nI (10 * m + dg) then (1000000 : Int32) else nI (10 * m + dg)) = nI (min (10 * numV tp s j + dg) 1000000) := by
        by_cases hx : 1000000 < 10 * m + dg
        · rw [if_pos (show (1000000 : Int32) < nI (10 * m + dg) from nI_lt (a := 1000000) hx (by omega)), Nat.min_eq_right (by omega)]; rfl
        · rw [if_neg (show ¬ (1000000 : Int32) < nI (10 * m + dg) from nI_nlt (a := 1000000) (by omega) (by omega))]
          exact nIc (by omega)
      rw [em]
      rfl) (by
      rintro t rfl
      have ee : s + (tkE tp s - s) = tkE tp s := by omega
      refine ⟨_, ?_, rfl⟩
      unfold Tape_peekNumber_b18
      rw [c40_4, Option.bind_some, hs.2.2.1]
      show (if nI (tkE tp s) ≤ nI (s + (tkE tp s - s)) then some (Sum.inr (nI (min (numV tp s (tkE tp s - s)) 1000000), nI (s + (tkE tp s - s)))) else _) = _
      rw [ee, if_pos (nI_le (Nat.le_refl _) (by omega))]
      rfl)
    unfold Tape_peekNumber
    rw [c40_5, Option.bind_some, hs.2.2.2, hk, if_pos rfl, c40_3, Option.bind_some, hs.2.1, i1, Option.bind_some]
    unfold Tape_peekNumber_j54 Tape_peekNumber_j64 Tape_peekNumber_j69
    have ht : (nI (min (valT tp s) 1000000)).toInt = (min (valT tp s) 1000000 : Nat) := nI_toInt (by omega)
    show (if nI (min (valT tp s) 1000000) < lo then some (-1, hp w) else (if nI (min (valT tp s) 1000000) ≤ hi then some (nI (min (valT tp s) 1000000), hp w) else some (-1, hp w))) = _
    have hnn : ¬ (lo.toInt ≤ (valT tp s : Int) ∧ (valT tp s : Int) ≤ hi.toInt) → nmP tp s lo.toInt hi.toInt = none := fun hx => if_neg (fun hh => hx hh.2)
    by_cases a : nI (min (valT tp s) 1000000) < lo
    · rw [if_pos a]
      rw [ti_lt, ht] at a
      rw [hnn (by omega)]
      rfl
    · rw [if_neg a]
      rw [ti_lt, ht] at a
      by_cases b : nI (min (valT tp s) 1000000) ≤ hi
      · rw [if_pos b]
        rw [ti_le, ht] at b
        have hm : min (valT tp s) 1000000 = valT tp s := by omega
        rw [hm] at a b ⊢
        have : nmP tp s lo.toInt hi.toInt = some (valT tp s) := if_pos ⟨hk, by omega, by omega⟩
        rw [this]
        rfl
      · rw [if_neg b]
        rw [ti_le, ht] at b
        rw [hnn (by omega)]
        rfl
  · unfold Tape_peekNumber
    rw [c40_5, Option.bind_some, hs.2.2.2, if_neg hk]
    unfold nmP
    rw [if_neg (fun h => hk h.1)]
    rfl
theorem take_some {w : Wd} {tp : List Int32} {s v : Nat} {lo hi : Int32} (hw : WL w) (hT : tpC w tp) (hs : tkC w tp s) (hl : 0 ≤ lo.toInt) (hh : hi.toInt ≤ 999) (hv : nmP tp s lo.toInt hi.toInt = some v) : ∃ w', Tape_takeNumber 40 lo hi (hp w) = some (nI v, hp w') ∧ WL w' ∧ tkC w' tp (nxT tp s) ∧ frT w w' := by
  obtain ⟨w', a, b, c, d⟩ := Tape_next hw hT hs
  refine ⟨w', ?_, b, c, d⟩
  have hr := nmP_some hv
  have hne : ¬ nI v = -1 := by
    rw [ti_eq, nI_toInt (by omega), show (-1 : Int32).toInt = -1 from rfl]; omega
  have pk := peek_w hw hT hs hl hh
  rw [hv] at pk
  unfold Tape_takeNumber
  rw [k40, Option.bind_some, pk, bnd2_some]
  show (if nI v = -1 then _ else _) = _
  rw [if_neg hne, k40, Option.bind_some, a, bnd2_some]
  rfl
theorem take_none {w : Wd} {tp : List Int32} {s : Nat} {lo hi : Int32} (hw : WL w) (hT : tpC w tp) (hs : tkC w tp s) (hl : 0 ≤ lo.toInt) (hh : hi.toInt ≤ 999) (hv : nmP tp s lo.toInt hi.toInt = none) : Tape_takeNumber 40 lo hi (hp w) = some (-1, hp w) := by
  have pk := peek_w hw hT hs hl hh
  rw [hv] at pk
  unfold Tape_takeNumber
  rw [k40, Option.bind_some, pk, bnd2_some]
  show (if (-1 : Int32) = -1 then _ else _) = _
  rw [if_pos rfl]
  rfl
/-! words -/
def wdP (tp : List Int32) (s : Nat) (ws : List Int32) : Bool := decide (tkE tp s = s + ws.length ∧ ∀ k, k < ws.length → tp.getD (s + k) 0 = ws.getD k 0)
def wdS (a : Nat) (ws : List Int32) : Prop := chkS a = some () ∧ (∀ h, J0_length a h = some (nI ws.length, h)) ∧ (∀ k h, k < ws.length → J0_charAt a (nI k) h = some (ws.getD k 0, h)) ∧ (4 ≤ ws.length ∧ ws.length ≤ 5) ∧ ∀ k, k < ws.length → 97 ≤ (ws.getD k 0).toInt ∧ (ws.getD k 0).toInt ≤ 122
theorem wdS_0 : wdS (FB + 2) (strB 0) := by
  refine ⟨by decide +kernel, fun h => (show J0_length (FB + 2) h = some ((Int32.ofNat 5) >>> ((0 : Int32) &&& 31), h) from rfl).trans (by rw [show (Int32.ofNat 5) >>> ((0 : Int32) &&& 31) = nI (strB 0).length by decide +kernel]), fun k h hk => ?_, ⟨by decide, by decide⟩, by decide +kernel⟩
  have : k = 0 ∨ k = 1 ∨ k = 2 ∨ k = 3 ∨ k = 4 := by have : k < 5 := hk; omega
  rcases this with rfl | rfl | rfl | rfl | rfl <;> rfl
theorem wdS_1 : wdS (FB + 3) (strB 1) := by
  refine ⟨by decide +kernel, fun h => (show J0_length (FB + 3) h = some ((Int32.ofNat 4) >>> ((0 : Int32) &&& 31), h) from rfl).trans (by rw [show (Int32.ofNat 4) >>> ((0 : Int32) &&& 31) = nI (strB 1).length by decide +kernel]), fun k h hk => ?_, ⟨by decide, by decide⟩, by decide +kernel⟩
  have : k = 0 ∨ k = 1 ∨ k = 2 ∨ k = 3 := by have : k < 4 := hk; omega
  rcases this with rfl | rfl | rfl | rfl <;> rfl
theorem wdS_2 : wdS (FB + 4) (strB 2) := by
  refine ⟨by decide +kernel, fun h => (show J0_length (FB + 4) h = some ((Int32.ofNat 4) >>> ((0 : Int32) &&& 31), h) from rfl).trans (by rw [show (Int32.ofNat 4) >>> ((0 : Int32) &&& 31) = nI (strB 2).length by decide +kernel]), fun k h hk => ?_, ⟨by decide, by decide⟩, by decide +kernel⟩
  have : k = 0 ∨ k = 1 ∨ k = 2 ∨ k = 3 := by have : k < 4 := hk; omega
  rcases this with rfl | rfl | rfl | rfl <;> rfl
theorem wdS_3 : wdS (FB + 5) (strB 3) := by
  refine ⟨by decide +kernel, fun h => (show J0_length (FB + 5) h = some ((Int32.ofNat 4) >>> ((0 : Int32) &&& 31), h) from rfl).trans (by rw [show (Int32.ofNat 4) >>> ((0 : Int32) &&& 31) = nI (strB 3).length by decide +kernel]), fun k h hk => ?_, ⟨by decide, by decide⟩, by decide +kernel⟩
  have : k = 0 ∨ k = 1 ∨ k = 2 ∨ k = 3 := by have : k < 4 := hk; omega
  rcases this with rfl | rfl | rfl | rfl <;> rfl
theorem word_C {w : Wd} {tp : List Int32} {s a : Nat} {ws : List Int32} (hw : WL w) (hT : tpC w tp) (hs : tkC w tp s) (hW : wdS a ws) : Tape_isWord 40 a (hp w) = some (b2i (wdP tp s ws), hp w) := by
  obtain ⟨k1, k2, k3, k4, k5⟩ := hW
  have hn := hT.2.1
  have hE := tkE_rng hs.1
  by_cases hk : kdA tp s = 1
  · have hd : nI (tkE tp s) - nI s = nI (tkE tp s - s) := nI_sb hE.1 (by omega)
    by_cases hlen : tkE tp s = s + ws.length
    · obtain ⟨q, i1, hq⟩ := iter_I (body := Tape_isWord_b28 40 a) (fun j t => t = (nI j, hp w) ∧ ∀ k, k < j → tp.getD (s + k) 0 = ws.getD k 0) (fun r => (∃ j, r = .inl (nI j, hp w) ∧ wdP tp s ws = false) ∨ (∃ j, r = .inr (nI j, hp w) ∧ wdP tp s ws = true)) ws.length (s0 := (0, hp w)) (by omega) ⟨rfl, fun k hk => absurd hk (by omega)⟩ (by
        rintro j t hj ⟨rfl, hm⟩
        have hc : ¬ nI ws.length ≤ nI j := nI_ge hj (by omega)
        have l1 := ld41 hw hT (k := s + j) (by omega)
        have hb := hT.2.2 (s + j) (by omega)
        have hv := k5 j hj
        have ee : nI s + nI j = nI (s + j) := nI_add _ _
        have pre : Tape_isWord_b28 40 a (nI j, hp w) = (if (w.1 41).getD (s + j) 0 = ws.getD j 0 then some (Sum.inl (nI j + 1, hp w)) else some (Sum.inr (Sum.inl (nI j, hp w)))) := by
          unfold Tape_isWord_b28
          dsimp only
          rw [k1, Option.bind_some, k2, bnd2_some]
          rw [if_neg hc, c40_0, Option.bind_some, c40_3, Option.bind_some, hs.2.1, ee, l1, Option.bind_some, Option.bind_some, k3 j _ hj, bnd2_some]
        by_cases hx : tp.getD (s + j) 0 = ws.getD j 0
        · left
          refine ⟨(nI (j + 1), hp w), ?_, rfl, fun k hk' => ?_⟩
          · rw [pre, if_pos ((btR_eq hb ⟨by omega, by omega⟩).mpr hx), nI_1]
          · by_cases hkj : k = j
            · rw [hkj]; exact hx
            · exact hm k (by omega)
        · right
          refine ⟨.inl (nI j, hp w), ?_, .inl ⟨j, rfl, ?_⟩⟩
          · rw [pre, if_neg (fun hh => hx ((btR_eq hb ⟨by omega, by omega⟩).mp hh))]
          · unfold wdP
            exact decide_eq_false (fun hh => hx (hh.2 j hj))) (by
        rintro t ⟨rfl, hm⟩
        refine ⟨.inr (nI ws.length, hp w), ?_, .inr ⟨_, rfl, ?_⟩⟩
        · unfold Tape_isWord_b28
          dsimp only
          rw [k1, Option.bind_some, k2, bnd2_some]
          rw [if_pos (nI_le (Nat.le_refl _) (by omega))]
        · unfold wdP
          exact decide_eq_true ⟨hlen, hm⟩)
      unfold Tape_isWord
      rw [c40_5, Option.bind_some, hs.2.2.2, hk, if_neg (fun hh => hh rfl), c40_4, Option.bind_some, c40_3, Option.bind_some, k1, Option.bind_some, k2, bnd2_some, hs.2.1, hs.2.2.1, hd, if_pos (nIc (by omega)), i1, Option.bind_some]
      rcases hq with ⟨j, rfl, hq⟩ | ⟨j, rfl, hq⟩
      · rw [hq, Sum.elim_inl]
        unfold Tape_isWord_j55
        rw [bz0, Option.bind_some, b2f]
      · rw [hq, Sum.elim_inr]
        unfold Tape_isWord_j63
        rw [bz1, Option.bind_some, b2t]
    · have hq : wdP tp s ws = false := by
        unfold wdP
        exact decide_eq_false (fun hh => hlen hh.1)
      unfold Tape_isWord
      rw [c40_5, Option.bind_some, hs.2.2.2, hk, if_neg (fun hh => hh rfl), c40_4, Option.bind_some, c40_3, Option.bind_some, k1, Option.bind_some, k2, bnd2_some, hs.2.1, hs.2.2.1, hd, if_neg (fun hh => by have := (nI_eq (by omega) (by omega)).mp hh; omega), hq]
      unfold Tape_isWord_j24
      rw [bz0, Option.bind_some, b2f]
  · have hq : wdP tp s ws = false := by
      unfold wdP
      refine decide_eq_false (fun hh => hk ?_)
      have h0 := hh.2 0 (by omega)
      rw [Nat.add_zero] at h0
      have hsl : s < tp.length := by have := hh.1; omega
      unfold kdA
      rw [if_pos hsl, h0]
      exact kdB_1.mpr (k5 0 (by omega))
    unfold Tape_isWord
    rw [c40_5, Option.bind_some, hs.2.2.2, if_pos hk, hq]
    unfold Tape_isWord_j24
    rw [bz0, Option.bind_some, b2f]
theorem word_R {w : Wd} {tp : List Int32} {s a : Nat} {ws : List Int32} (hw : WL w) (hT : tpR w tp) (hs : tkR w tp s) (hW : wdS a ws) : Mod_isWord 274 a (hp w) = some (b2i (wdP tp s ws), hp w) := by
  obtain ⟨k1, k2, k3, k4, k5⟩ := hW
  have hn := hT.2.1.1
  have hE := tkE_rng hs.1
  have hd : nI (tkE tp s) - nI s = nI (tkE tp s - s) := nI_sb hE.1 (by omega)
  by_cases hlen : tkE tp s = s + ws.length
  · obtain ⟨q, i1, hq⟩ := iter_I (body := Mod_isWord_b20 274 a) (fun j t => t = (nI j, hp w) ∧ ∀ k, k < j → tp.getD (s + k) 0 = ws.getD k 0) (fun r => (∃ j, r = .inl (nI j, hp w) ∧ wdP tp s ws = false) ∨ (∃ j, r = .inr (nI j, hp w) ∧ wdP tp s ws = true)) ws.length (s0 := (0, hp w)) (by omega) ⟨rfl, fun k hk => absurd hk (by omega)⟩ (by
      rintro j t hj ⟨rfl, hm⟩
      have hc : ¬ nI ws.length ≤ nI j := nI_ge hj (by omega)
      have l1 := ld282 hw hT (k := s + j) (by omega)
      have ee : nI s + nI j = nI (s + j) := nI_add _ _
      have pre : Mod_isWord_b20 274 a (nI j, hp w) = (if tp.getD (s + j) 0 = ws.getD j 0 then some (Sum.inl (nI j + 1, hp w)) else some (Sum.inr (Sum.inl (nI j, hp w)))) := by
        unfold Mod_isWord_b20
        dsimp only
        rw [k1, Option.bind_some, k2, bnd2_some]
        rw [if_neg hc, c274_8, Option.bind_some, c274_18, Option.bind_some, hs.2.1, ee, l1, Option.bind_some, Option.bind_some, k3 j _ hj, bnd2_some]
      by_cases hx : tp.getD (s + j) 0 = ws.getD j 0
      · left
        refine ⟨(nI (j + 1), hp w), ?_, rfl, fun k hk' => ?_⟩
        · rw [pre, if_pos hx, nI_1]
        · by_cases hkj : k = j
          · rw [hkj]; exact hx
          · exact hm k (by omega)
      · right
        refine ⟨.inl (nI j, hp w), ?_, .inl ⟨j, rfl, ?_⟩⟩
        · rw [pre, if_neg hx]
        · unfold wdP
          exact decide_eq_false (fun hh => hx (hh.2 j hj))) (by
      rintro t ⟨rfl, hm⟩
      refine ⟨.inr (nI ws.length, hp w), ?_, .inr ⟨_, rfl, ?_⟩⟩
      · unfold Mod_isWord_b20
        dsimp only
        rw [k1, Option.bind_some, k2, bnd2_some]
        rw [if_pos (nI_le (Nat.le_refl _) (by omega))]
      · unfold wdP
        exact decide_eq_true ⟨hlen, hm⟩)
    unfold Mod_isWord
    rw [c274_19, Option.bind_some, c274_18, Option.bind_some, k1, Option.bind_some, k2, bnd2_some, hs.2.1, hs.2.2, hd, if_pos (nIc (by omega)), i1, Option.bind_some]
    rcases hq with ⟨j, rfl, hq⟩ | ⟨j, rfl, hq⟩
    · rw [hq, Sum.elim_inl]
      unfold Mod_isWord_j47
      rw [bz0, Option.bind_some, b2f]
    · rw [hq, Sum.elim_inr]
      unfold Mod_isWord_j55
      rw [bz1, Option.bind_some, b2t]
  · have hq : wdP tp s ws = false := by
      unfold wdP
      exact decide_eq_false (fun hh => hlen hh.1)
    unfold Mod_isWord
    rw [c274_19, Option.bind_some, c274_18, Option.bind_some, k1, Option.bind_some, k2, bnd2_some, hs.2.1, hs.2.2, hd, if_neg (fun hh => by have := (nI_eq (by omega) (by omega)).mp hh; omega), hq, bz0, Option.bind_some, b2f]
