/-! the tape: tokens -/
def gnN (P : Int32 → Bool) (tp : List Int32) : Nat → Nat → Nat
  | 0, i => i
  | f + 1, i => if P (tp.getD i 0) = true then gnN P tp f (i + 1) else i
def gn (P : Int32 → Bool) (tp : List Int32) (i : Nat) : Nat := gnN P tp (tp.length - i) i
theorem gn_eq {P : Int32 → Bool} {tp : List Int32} {i : Nat} : gn P tp i = if i < tp.length ∧ P (tp.getD i 0) = true then gn P tp (i + 1) else i := by
  unfold gn
  by_cases h : i < tp.length
  · rw [show tp.length - i = (tp.length - (i + 1)) + 1 by omega]
    show (if P (tp.getD i 0) = true then gnN P tp (tp.length - (i + 1)) (i + 1) else i) = _
    by_cases h2 : P (tp.getD i 0) = true
    · rw [if_pos h2, if_pos ⟨h, h2⟩]
    · rw [if_neg h2, if_neg (fun hh => h2 hh.2)]
  · rw [show tp.length - i = 0 by omega, if_neg (fun hh => h hh.1)]; rfl
theorem gnN_rng {P : Int32 → Bool} {tp : List Int32} : ∀ (f i : Nat), i ≤ gnN P tp f i ∧ gnN P tp f i ≤ i + f ∧ ∀ k, i ≤ k → k < gnN P tp f i → P (tp.getD k 0) = true
  | 0, i => ⟨Nat.le_refl _, Nat.le_refl _, fun k h1 h2 => by
      have h2' : k < i := h2
      omega⟩
  | f + 1, i => by
    obtain ⟨h1, h2, h3⟩ := gnN_rng (P := P) (tp := tp) f (i + 1)
    show i ≤ (if P (tp.getD i 0) = true then gnN P tp f (i + 1) else i) ∧ (if P (tp.getD i 0) = true then gnN P tp f (i + 1) else i) ≤ i + (f + 1) ∧ ∀ k, i ≤ k → k < (if P (tp.getD i 0) = true then gnN P tp f (i + 1) else i) → P (tp.getD k 0) = true
    by_cases h : P (tp.getD i 0) = true
    · rw [if_pos h]
      refine ⟨by omega, by omega, fun k k1 k2 => ?_⟩
      by_cases hk : k = i
      · rw [hk]; exact h
      · exact h3 k (by omega) k2
    · rw [if_neg h]
      exact ⟨Nat.le_refl _, by omega, fun k k1 k2 => absurd k1 (by omega)⟩
theorem gn_rng {P : Int32 → Bool} {tp : List Int32} {i : Nat} : i ≤ gn P tp i ∧ (i ≤ tp.length → gn P tp i ≤ tp.length) ∧ ∀ k, i ≤ k → k < gn P tp i → P (tp.getD k 0) = true := by
  obtain ⟨h1, h2, h3⟩ := gnN_rng (P := P) (tp := tp) (tp.length - i) i
  refine ⟨h1, fun h => ?_, h3⟩
  show gnN P tp (tp.length - i) i ≤ _
  omega
def kdB (d : Int32) : Int32 := if 97 ≤ d.toInt ∧ d.toInt ≤ 122 then 1 else if 48 ≤ d.toInt ∧ d.toInt ≤ 57 then 2 else 3
def kdA (tp : List Int32) (s : Nat) : Int32 := if s < tp.length then kdB (tp.getD s 0) else 0
def spB (d : Int32) : Bool := decide (d = 32)
def knB (k d : Int32) : Bool := decide (kdB d = k)
def tkE (tp : List Int32) (s : Nat) : Nat := if s < tp.length then (if kdB (tp.getD s 0) = 3 then s + 1 else gn (knB (kdB (tp.getD s 0))) tp (s + 1)) else s
def nxT (tp : List Int32) (s : Nat) : Nat := gn spB tp (tkE tp s)
theorem kdB_cases (d : Int32) : kdB d = 1 ∨ kdB d = 2 ∨ kdB d = 3 := by
  unfold kdB
  split
  · exact .inl rfl
  · split
    · exact .inr (.inl rfl)
    · exact .inr (.inr rfl)
theorem kdB_2 {d : Int32} : kdB d = 2 ↔ 48 ≤ d.toInt ∧ d.toInt ≤ 57 := by
  unfold kdB
  by_cases h1 : 97 ≤ d.toInt ∧ d.toInt ≤ 122
  · rw [if_pos h1]
    exact ⟨fun hh => absurd hh (by decide), fun hh => by omega⟩
  · rw [if_neg h1]
    by_cases h2 : 48 ≤ d.toInt ∧ d.toInt ≤ 57
    · rw [if_pos h2]; exact ⟨fun _ => h2, fun _ => rfl⟩
    · rw [if_neg h2]; exact ⟨fun hh => absurd hh (by decide), fun hh => absurd hh h2⟩
theorem kdB_1 {d : Int32} : kdB d = 1 ↔ 97 ≤ d.toInt ∧ d.toInt ≤ 122 := by
  unfold kdB
  by_cases h1 : 97 ≤ d.toInt ∧ d.toInt ≤ 122
  · rw [if_pos h1]; exact ⟨fun _ => h1, fun _ => rfl⟩
  · rw [if_neg h1]
    by_cases h2 : 48 ≤ d.toInt ∧ d.toInt ≤ 57
    · rw [if_pos h2]; exact ⟨fun hh => absurd hh (by decide), fun hh => absurd hh h1⟩
    · rw [if_neg h2]; exact ⟨fun hh => absurd hh (by decide), fun hh => absurd hh h1⟩
theorem tkE_rng {tp : List Int32} {s : Nat} (h : s ≤ tp.length) : s ≤ tkE tp s ∧ tkE tp s ≤ tp.length ∧ (s < tp.length → s + 1 ≤ tkE tp s) := by
  unfold tkE
  by_cases h1 : s < tp.length
  · rw [if_pos h1]
    by_cases h2 : kdB (tp.getD s 0) = 3
    · rw [if_pos h2]; omega
    · rw [if_neg h2]
      have := gn_rng (P := knB (kdB (tp.getD s 0))) (tp := tp) (i := s + 1)
      have h3 := this.2.1 (by omega)
      omega
  · rw [if_neg h1]; omega
theorem nxT_rng {tp : List Int32} {s : Nat} (h : s ≤ tp.length) : tkE tp s ≤ nxT tp s ∧ nxT tp s ≤ tp.length := by
  have h1 := tkE_rng h
  have := gn_rng (P := spB) (tp := tp) (i := tkE tp s)
  exact ⟨this.1, this.2.1 h1.2.1⟩
theorem tk_dig {tp : List Int32} {s : Nat} (hk : kdA tp s = 2) : s < tp.length ∧ ∀ k, s ≤ k → k < tkE tp s → 48 ≤ (tp.getD k 0).toInt ∧ (tp.getD k 0).toInt ≤ 57 := by
  unfold kdA at hk
  by_cases h1 : s < tp.length
  · rw [if_pos h1] at hk
    refine ⟨h1, fun k k1 k2 => ?_⟩
    unfold tkE at k2
    rw [if_pos h1, if_neg (by rw [hk]; decide), hk] at k2
    by_cases e : k = s
    · rw [e]; exact kdB_2.mp hk
    · have := (gn_rng (P := knB 2) (tp := tp) (i := s + 1)).2.2 k (by omega) k2
      unfold knB at this
      exact kdB_2.mp (of_decide_eq_true this)
  · rw [if_neg h1] at hk
    exact absurd hk (by decide)
theorem btR_eq {c d : Int32} (h : btR c d) {v : Int32} (hv : 0 ≤ v.toInt ∧ v.toInt < 128) : c = v ↔ d = v := by
  obtain ⟨h1, h2, h3⟩ := h
  rw [ti_eq, ti_eq]
  split at h3 <;> omega
theorem kindOf_w {c d : Int32} {h : AHeap} (hb : btR c d) : Tape_kindOf c h = some (kdB d, h) := by
  obtain ⟨h1, h2, h3⟩ := hb
  have t97 : (97 : Int32).toInt = 97 := rfl
  have t122 : (122 : Int32).toInt = 122 := rfl
  have t48 : (48 : Int32).toInt = 48 := rfl
  have t57 : (57 : Int32).toInt = 57 := rfl
  have j14 : ¬ (97 ≤ d.toInt ∧ d.toInt ≤ 122) → Tape_kindOf_j14 c h = some (kdB d, h) := by
    intro hn
    unfold Tape_kindOf_j14 Tape_kindOf_j30 Tape_kindOf_j31 kdB
    rw [if_neg hn]
    by_cases a : c < 48
    · rw [if_pos a]
      rw [ti_lt, t48] at a
      rw [if_neg (by split at h3 <;> omega)]
    · rw [if_neg a]
      rw [ti_lt, t48] at a
      by_cases b : 57 < c
      · rw [if_pos b]
        rw [ti_lt, t57] at b
        rw [if_neg (by split at h3 <;> omega)]
      · rw [if_neg b]
        rw [ti_lt, t57] at b
        rw [if_pos (by split at h3 <;> omega)]
  unfold Tape_kindOf
  by_cases a : c < 97
  · rw [if_pos a]
    rw [ti_lt, t97] at a
    refine j14 ?_
    split at h3 <;> omega
  · rw [if_neg a]
    rw [ti_lt, t97] at a
    by_cases b : 122 < c
    · rw [if_pos b]
      rw [ti_lt, t122] at b
      refine j14 ?_
      split at h3 <;> omega
    · rw [if_neg b]
      rw [ti_lt, t122] at b
      have : kdB d = 1 := kdB_1.mpr (by split at h3 <;> omega)
      rw [this]
/-! the tape in the class -/
def tpC (w : Wd) (tp : List Int32) : Prop := w.2 40 1 = nI tp.length ∧ tp.length ≤ 400 ∧ ∀ k, k < tp.length → btR ((w.1 41).getD k 0) (tp.getD k 0)
def tkC (w : Wd) (tp : List Int32) (s : Nat) : Prop := s ≤ tp.length ∧ w.2 40 3 = nI s ∧ w.2 40 4 = nI (tkE tp s) ∧ w.2 40 5 = kdA tp s
def frT (w w' : Wd) : Prop := w'.1 = w.1 ∧ (∀ k, k ≠ 3 → k ≠ 4 → k ≠ 5 → w'.2 40 k = w.2 40 k) ∧ ∀ i, i ≠ 40 → w'.2 i = w.2 i
theorem frT.rfl' {w : Wd} : frT w w := ⟨rfl, fun _ _ _ _ => rfl, fun _ _ => rfl⟩
theorem frT.tr {w w' w'' : Wd} (h : frT w w') (h' : frT w' w'') : frT w w'' := ⟨h'.1.trans h.1, fun k a b c => (h'.2.1 k a b c).trans (h.2.1 k a b c), fun i hi => (h'.2.2 i hi).trans (h.2.2 i hi)⟩
theorem frT.tpC {w w' : Wd} {tp : List Int32} (h : frT w w') (hT : tpC w tp) : tpC w' tp := by
  obtain ⟨h1, h2, h3⟩ := hT
  exact ⟨by rw [h.2.1 1 (by omega) (by omega) (by omega)]; exact h1, h2, by rw [h.1]; exact h3⟩
theorem pfT {w : Wd} {k : Nat} {x : Int32} (hk : k = 3 ∨ k = 4 ∨ k = 5) (hw : WL w) (e : pfV (hp w) 40 9 k (.int x) = some (hp (wF w 40 k x))) : ∃ V, pfV (hp w) 40 9 k (.int x) = some (hp V) ∧ WL V ∧ V.2 40 k = x ∧ (∀ j, j ≠ k → V.2 40 j = w.2 40 j) ∧ frT w V := by
  obtain ⟨V, v1, v2, v3, v4, v5, v6⟩ := pf_eq hw e
  exact ⟨V, v1, v2, v4, v5, v3, fun j a b c => v5 j (by omega), fun i hi => (v6 i (by omega)).2⟩
theorem ld41 {w : Wd} {tp : List Int32} {k : Nat} (hw : WL w) (hT : tpC w tp) (hk : k < tp.length) : ald 2 (hp w) 41 (nI k) = some ((w.1 41).getD k 0) := ald_w (j := k) s41 rfl (by rw [l41 hw]; have := hT.2.1; omega) (by have := hT.2.1; omega)
theorem Tape_step_w {w : Wd} {tp : List Int32} {e : Nat} (hw : WL w) (hT : tpC w tp) (he : w.2 40 4 = nI e) (hle : e ≤ tp.length) : ∃ w', Tape_step 40 (hp w) = some ((), hp w') ∧ WL w' ∧ tkC w' tp (gn spB tp e) ∧ frT w w' := by
  have hn := hT.2.1
  obtain ⟨w1, a1, b1, c1, d1, f1⟩ := pfT (x := nI e) (by omega) hw p40_3
  have hT1 := f1.tpC hT
  obtain ⟨q, i1, w2, rfl, b2, f2, c2⟩ := iter_I (body := Tape_step_b8 40) (fun j s => ∃ W, hp W = s ∧ WL W ∧ frT w1 W ∧ W.2 40 3 = nI (e + j) ∧ gn spB tp (e + j) = gn spB tp e) (fun r => ∃ W, hp W = r ∧ WL W ∧ frT w1 W ∧ W.2 40 3 = nI (gn spB tp e)) (tp.length - e) (s0 := hp w1) (by omega) ⟨w1, rfl, b1, frT.rfl', c1, rfl⟩ (by
    rintro j s hj ⟨W, rfl, hW, hF, h3, hg⟩
    have hTW := hF.tpC hT1
    have l1 := ld41 hW hTW (k := e + j) (by omega)
    have hb := hTW.2.2 (e + j) (by omega)
    rw [gn_eq] at hg
    have hc : ¬ nI tp.length ≤ nI (e + j) := nI_ge (by omega) (by omega)
    by_cases h32 : tp.getD (e + j) 0 = 32
    · left
      rw [if_pos ⟨by omega, by unfold spB; exact decide_eq_true h32⟩] at hg
      obtain ⟨V, v1, v2, v3, v4, v5⟩ := pfT (x := nI (e + j) + 1) (by omega) hW p40_3
      refine ⟨hp V, ?_, V, rfl, v2, hF.tr v5, by rw [v3, nI_1]; rfl, hg⟩
      unfold Tape_step_b8
      rw [c40_3, Option.bind_some, c40_1, Option.bind_some, h3, hTW.1, if_neg hc, c40_0, Option.bind_some, Option.bind_some, l1, Option.bind_some, if_neg (fun hh => hh ((btR_eq hb (v := 32) ⟨by decide, by decide⟩).mpr h32)), Option.bind_some, v1, Option.bind_some]
    · right
      rw [if_neg (fun hh => h32 (of_decide_eq_true hh.2))] at hg
      refine ⟨hp W, ?_, W, rfl, hW, hF, by rw [h3, hg]⟩
      unfold Tape_step_b8
      rw [c40_3, Option.bind_some, c40_1, Option.bind_some, h3, hTW.1, if_neg hc, c40_0, Option.bind_some, Option.bind_some, l1, Option.bind_some, if_pos (fun hh => h32 ((btR_eq hb (v := 32) ⟨by decide, by decide⟩).mp hh))]) (by
    rintro s ⟨W, rfl, hW, hF, h3, hg⟩
    have hTW := hF.tpC hT1
    have ee : e + (tp.length - e) = tp.length := by omega
    rw [ee] at h3 hg
    rw [gn_eq, if_neg (by omega)] at hg
    refine ⟨hp W, ?_, W, rfl, hW, hF, by rw [h3, hg]⟩
    unfold Tape_step_b8
    rw [c40_3, Option.bind_some, c40_1, Option.bind_some, h3, hTW.1, if_pos (nI_le (Nat.le_refl _) (by omega))])
  obtain ⟨s, hs⟩ : ∃ s, s = gn spB tp e := ⟨_, rfl⟩
  have hsn : s ≤ tp.length := by rw [hs]; exact gn_rng.2.1 hle
  rw [← hs] at c2 ⊢
  have hT2 := f2.tpC hT1
  obtain ⟨w3, a3, b3, c3, d3, f3⟩ := pfT (x := nI s) (by omega) b2 p40_4
  obtain ⟨w4, a4, b4, c4, d4, f4⟩ := pfT (x := 0) (by omega) b3 p40_5
  have hT4 := f4.tpC (f3.tpC hT2)
  have g3 : w4.2 40 3 = nI s := by rw [d4 3 (by omega), d3 3 (by omega), c2]
  have g4 : w4.2 40 4 = nI s := by rw [d4 4 (by omega), c3]
  by_cases h1 : s < tp.length
  · have hc : ¬ nI tp.length ≤ nI s := nI_ge h1 (by omega)
    have l1 := ld41 b4 hT4 h1
    have hb := hT4.2.2 s h1
    obtain ⟨w5, a5, b5, c5, d5, f5⟩ := pfT (x := kdB (tp.getD s 0)) (by omega) b4 p40_5
    have g45 : w5.2 40 4 = nI s := by rw [d5 4 (by omega), g4]
    obtain ⟨w6, a6, b6, c6, d6, f6⟩ := pfT (x := nI s + 1) (by omega) b5 p40_4
    rw [nI_1] at c6
    have hT6 := f6.tpC (f5.tpC hT4)
    have k6 : w6.2 40 5 = kdB (tp.getD s 0) := by rw [d6 5 (by omega), c5]
    obtain ⟨K, hK⟩ : ∃ K, K = kdB (tp.getD s 0) := ⟨_, rfl⟩
    have hE : tkE tp s = if K = 3 then s + 1 else gn (knB K) tp (s + 1) := by unfold tkE; rw [if_pos h1, hK]
    have hA : kdA tp s = K := by unfold kdA; rw [if_pos h1, hK]
    rw [← hK] at a5 c5 k6
    obtain ⟨q, i7, w7, rfl, b7, f7, c7⟩ := iter_I (body := Tape_step_b96 40) (fun j t => ∃ W, hp W = t ∧ WL W ∧ frT w6 W ∧ W.2 40 4 = nI (s + 1 + j) ∧ (∀ k, k ≠ 4 → W.2 40 k = w6.2 40 k) ∧ (j ≠ 0 → K ≠ 3) ∧ gn (knB K) tp (s + 1 + j) = gn (knB K) tp (s + 1)) (fun r => ∃ W, hp W = r ∧ WL W ∧ (frT w6 W ∧ ∀ k, k ≠ 4 → W.2 40 k = w6.2 40 k) ∧ W.2 40 4 = nI (tkE tp s)) (tp.length - (s + 1)) (s0 := hp w6) (by omega) ⟨w6, rfl, b6, frT.rfl', c6, fun _ _ => rfl, fun hh => absurd rfl hh, rfl⟩ (by
      rintro j t hj ⟨W, rfl, hW, hF, h4, hk, h30, hg⟩
      have hTW := hF.tpC hT6
      have k5 : W.2 40 5 = K := by rw [hk 5 (by omega), k6]
      by_cases h3 : K = 3
      · right
        have j0 : j = 0 := by
          by_cases hj0 : j = 0
          · exact hj0
          · exact absurd h3 (h30 hj0)
        subst j0
        refine ⟨hp W, ?_, W, rfl, hW, ⟨hF, hk⟩, by rw [h4, hE, if_pos h3]⟩
        unfold Tape_step_b96
        rw [c40_5, Option.bind_some, k5, if_pos h3]
      · have l1 := ld41 hW hTW (k := s + 1 + j) (by omega)
        have hb := hTW.2.2 (s + 1 + j) (by omega)
        have hc : ¬ nI tp.length ≤ nI (s + 1 + j) := nI_ge (by omega) (by omega)
        rw [gn_eq] at hg
        by_cases hkd : kdB (tp.getD (s + 1 + j) 0) = K
        · left
          rw [if_pos ⟨by omega, by unfold knB; exact decide_eq_true hkd⟩] at hg
          obtain ⟨V, v1, v2, v3, v4, v5⟩ := pfT (x := nI (s + 1 + j) + 1) (by omega) hW p40_4
          refine ⟨hp V, ?_, V, rfl, v2, hF.tr v5, by rw [v3, nI_1]; rfl, fun k hk' => by rw [v4 k hk', hk k hk'], fun _ => h3, hg⟩
          unfold Tape_step_b96
          rw [c40_5, Option.bind_some, k5, if_neg h3, c40_4, Option.bind_some, c40_1, Option.bind_some, h4, hTW.1, if_neg hc, c40_0, Option.bind_some, Option.bind_some, l1, Option.bind_some, kindOf_w hb, bnd2_some, c40_5, Option.bind_some, k5, hkd, if_neg (fun hh => hh rfl), c40_4, Option.bind_some, h4, v1, Option.bind_some]
        · right
          rw [if_neg (fun hh => hkd (of_decide_eq_true hh.2))] at hg
          refine ⟨hp W, ?_, W, rfl, hW, ⟨hF, hk⟩, by rw [h4, hE, if_neg h3, hg]⟩
          unfold Tape_step_b96
          rw [c40_5, Option.bind_some, k5, if_neg h3, c40_4, Option.bind_some, c40_1, Option.bind_some, h4, hTW.1, if_neg hc, c40_0, Option.bind_some, Option.bind_some, l1, Option.bind_some, kindOf_w hb, bnd2_some, c40_5, Option.bind_some, k5, if_pos hkd]) (by
      rintro t ⟨W, rfl, hW, hF, h4, hk, h30, hg⟩
      have hTW := hF.tpC hT6
      have k5 : W.2 40 5 = K := by rw [hk 5 (by omega), k6]
      have ee : s + 1 + (tp.length - (s + 1)) = tp.length := by omega
      rw [ee] at h4 hg
      by_cases h3 : K = 3
      · have j0 : tp.length - (s + 1) = 0 := by
          by_cases hj0 : tp.length - (s + 1) = 0
          · exact hj0
          · exact absurd h3 (h30 hj0)
        refine ⟨hp W, ?_, W, rfl, hW, ⟨hF, hk⟩, by rw [h4, hE, if_pos h3, show tp.length = s + 1 by omega]⟩
        unfold Tape_step_b96
        rw [c40_5, Option.bind_some, k5, if_pos h3]
      · rw [gn_eq, if_neg (by omega)] at hg
        refine ⟨hp W, ?_, W, rfl, hW, ⟨hF, hk⟩, by rw [h4, hE, if_neg h3, ← hg]⟩
        unfold Tape_step_b96
        rw [c40_5, Option.bind_some, k5, if_neg h3, c40_4, Option.bind_some, c40_1, Option.bind_some, h4, hTW.1, if_pos (nI_le (Nat.le_refl _) (by omega))])
    refine ⟨w7, ?_, b7, ⟨hsn, ?_, c7, ?_⟩, (((((f1.tr f2).tr f3).tr f4).tr f5).tr f6).tr f7.1⟩
    · unfold Tape_step
      rw [c40_4, Option.bind_some, he, a1, Option.bind_some, i1, Option.bind_some]
      unfold Tape_step_j46
      rw [c40_3, Option.bind_some, c2, a3, Option.bind_some, a4, Option.bind_some, c40_3, Option.bind_some, c40_1, Option.bind_some, g3, hT4.1, if_neg hc, c40_0, Option.bind_some, Option.bind_some, l1, Option.bind_some, kindOf_w hb, bnd2_some, ← hK, a5, Option.bind_some, c40_4, Option.bind_some, g45, a6, Option.bind_some, i7, Option.bind_some]
      rfl
    · rw [f7.2 3 (by omega), d6 3 (by omega), d5 3 (by omega), g3]
    · rw [f7.2 5 (by omega), k6, hA]
  · have hE : tkE tp s = s := by unfold tkE; rw [if_neg h1]
    have hA : kdA tp s = 0 := by unfold kdA; rw [if_neg h1]
    refine ⟨w4, ?_, b4, ⟨hsn, g3, by rw [hE]; exact g4, by rw [hA]; exact c4⟩, ((f1.tr f2).tr f3).tr f4⟩
    unfold Tape_step
    rw [c40_4, Option.bind_some, he, a1, Option.bind_some, i1, Option.bind_some]
    unfold Tape_step_j46
    rw [c40_3, Option.bind_some, c2, a3, Option.bind_some, a4, Option.bind_some, c40_3, Option.bind_some, c40_1, Option.bind_some, g3, hT4.1, if_pos (nI_le (by omega) (by omega))]
    rfl
theorem Tape_next {w : Wd} {tp : List Int32} {s : Nat} (hw : WL w) (hT : tpC w tp) (hs : tkC w tp s) : ∃ w', Tape_step 40 (hp w) = some ((), hp w') ∧ WL w' ∧ tkC w' tp (nxT tp s) ∧ frT w w' := Tape_step_w hw hT hs.2.2.1 (tkE_rng hs.1).2.1
