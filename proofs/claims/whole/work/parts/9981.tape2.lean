/-! the tape in the reference -/
def byOk (tp : List Int32) : Prop := tp.length ≤ 400 ∧ ∀ k, k < tp.length → 0 ≤ (tp.getD k 0).toInt ∧ (tp.getD k 0).toInt ≤ 255
def tpR (w : Wd) (tp : List Int32) : Prop := w.2 274 17 = nI tp.length ∧ byOk tp ∧ ∀ k, k < tp.length → (w.1 282).getD k 0 = tp.getD k 0
def tkR (w : Wd) (tp : List Int32) (s : Nat) : Prop := s ≤ tp.length ∧ w.2 274 18 = nI s ∧ w.2 274 19 = nI (tkE tp s)
def frU (w w' : Wd) : Prop := w'.1 = w.1 ∧ (∀ k, k ≠ 18 → k ≠ 19 → w'.2 274 k = w.2 274 k) ∧ ∀ i, i ≠ 274 → w'.2 i = w.2 i
theorem frU.rfl' {w : Wd} : frU w w := ⟨rfl, fun _ _ _ => rfl, fun _ _ => rfl⟩
theorem frU.tr {w w' w'' : Wd} (h : frU w w') (h' : frU w' w'') : frU w w'' := ⟨h'.1.trans h.1, fun k a b => (h'.2.1 k a b).trans (h.2.1 k a b), fun i hi => (h'.2.2 i hi).trans (h.2.2 i hi)⟩
theorem frU.tpR {w w' : Wd} {tp : List Int32} (h : frU w w') (hT : tpR w tp) : tpR w' tp := by
  obtain ⟨h1, h2, h3⟩ := hT
  exact ⟨by rw [h.2.1 17 (by omega) (by omega)]; exact h1, h2, by rw [h.1]; exact h3⟩
theorem pfU {w : Wd} {k : Nat} {x : Int32} (hk : k = 18 ∨ k = 19) (hw : WL w) (e : pfV (hp w) 274 11 k (.int x) = some (hp (wF w 274 k x))) : ∃ V, pfV (hp w) 274 11 k (.int x) = some (hp V) ∧ WL V ∧ V.2 274 k = x ∧ (∀ j, j ≠ k → V.2 274 j = w.2 274 j) ∧ frU w V := by
  obtain ⟨V, v1, v2, v3, v4, v5, v6⟩ := pf_eq hw e
  exact ⟨V, v1, v2, v4, v5, v3, fun j a b => v5 j (by omega), fun i hi => (v6 i (by omega)).2⟩
theorem ld282 {w : Wd} {tp : List Int32} {k : Nat} (hw : WL w) (hT : tpR w tp) (hk : k < tp.length) : ald 0 (hp w) 282 (nI k) = some (tp.getD k 0) := by
  have := hT.2.1.1
  rw [ald_w (j := k) s282 rfl (by rw [l282 hw]; omega) (by omega), hT.2.2 k hk]
theorem isLetter_w {d : Int32} {h : AHeap} : Mod_isLetter d h = some (b2i (knB 1 d), h) := by
  unfold Mod_isLetter
  rw [Mod_isIn_w, bnd2_some]
  have : isInP d 97 122 = knB 1 d := by
    unfold knB
    rw [Bool.eq_iff_iff, isIn_iff, decide_eq_true_iff, kdB_1]
    exact Iff.rfl
  rw [this]
  cases knB 1 d <;> rfl
theorem isDigit_w {d : Int32} {h : AHeap} : Mod_isDigit d h = some (b2i (knB 2 d), h) := by
  unfold Mod_isDigit
  rw [Mod_isIn_w, bnd2_some]
  have : isInP d 48 57 = knB 2 d := by
    unfold knB
    rw [Bool.eq_iff_iff, isIn_iff, decide_eq_true_iff, kdB_2]
    exact Iff.rfl
  rw [this]
  cases knB 2 d <;> rfl
/-- a loop over the tape, on the one field -/
theorem reads_run {w1 : Wd} {tp : List Int32} {e : Nat} {K : Int32} {body : AHeap → Option (AHeap ⊕ AHeap)} (b1 : WL w1) (hT1 : tpR w1 tp) (c1 : w1.2 274 19 = nI e) (hle : e ≤ tp.length)
    (hb : ∀ (W : Wd) (i : Nat), WL W → tpR W tp → W.2 274 19 = nI i → i ≤ tp.length → body (hp W) = if i < tp.length ∧ knB K (tp.getD i 0) = true then (pfV (hp W) 274 11 19 (.int (nI i + 1))).bind fun h => some (Sum.inl h) else some (Sum.inr (hp W))) :
    ∃ w2, iter body Lmax (hp w1) = some (hp w2) ∧ WL w2 ∧ frU w1 w2 ∧ w2.2 274 19 = nI (gn (knB K) tp e) ∧ ∀ k, k ≠ 19 → w2.2 274 k = w1.2 274 k := by
  have hn := hT1.2.1.1
  obtain ⟨q, i1, w2, rfl, b2, f2, c2, d2⟩ := iter_I (body := body) (fun j s => ∃ W, hp W = s ∧ WL W ∧ frU w1 W ∧ W.2 274 19 = nI (e + j) ∧ (∀ k, k ≠ 19 → W.2 274 k = w1.2 274 k) ∧ gn (knB K) tp (e + j) = gn (knB K) tp e) (fun r => ∃ W, hp W = r ∧ WL W ∧ frU w1 W ∧ W.2 274 19 = nI (gn (knB K) tp e) ∧ ∀ k, k ≠ 19 → W.2 274 k = w1.2 274 k) (tp.length - e) (s0 := hp w1) (by omega) ⟨w1, rfl, b1, frU.rfl', c1, fun _ _ => rfl, rfl⟩ (by
    rintro j s hj ⟨W, rfl, hW, hF, h3, hk, hg⟩
    have hTW := hF.tpR hT1
    rw [gn_eq] at hg
    have hbW := hb W (e + j) hW hTW h3 (by omega)
    by_cases hP : knB K (tp.getD (e + j) 0) = true
    · left
      rw [if_pos ⟨by omega, hP⟩] at hg
      obtain ⟨V, v1, v2, v3, v4, v5⟩ := pfU (x := nI (e + j) + 1) (by omega) hW p274_19
      refine ⟨hp V, ?_, V, rfl, v2, hF.tr v5, by rw [v3, nI_1]; rfl, fun k hk' => by rw [v4 k hk', hk k hk'], hg⟩
      rw [hbW, if_pos ⟨by omega, hP⟩, v1, Option.bind_some]
    · right
      rw [if_neg (fun hh => hP hh.2)] at hg
      refine ⟨hp W, ?_, W, rfl, hW, hF, by rw [h3, hg], hk⟩
      rw [hbW, if_neg (fun hh => hP hh.2)]) (by
    rintro s ⟨W, rfl, hW, hF, h3, hk, hg⟩
    have hTW := hF.tpR hT1
    have ee : e + (tp.length - e) = tp.length := by omega
    rw [ee] at h3 hg
    rw [gn_eq, if_neg (by omega)] at hg
    refine ⟨hp W, ?_, W, rfl, hW, hF, by rw [h3, hg], hk⟩
    rw [hb W _ hW hTW h3 (Nat.le_refl _), if_neg (by omega)])
  exact ⟨w2, i1, b2, f2, c2, d2⟩
theorem reads_b145 {tp : List Int32} (W : Wd) (i : Nat) (hW : WL W) (hTW : tpR W tp) (h3 : W.2 274 19 = nI i) (hi : i ≤ tp.length) : Mod_reads_b145 274 (hp W) = if i < tp.length ∧ knB 2 (tp.getD i 0) = true then (pfV (hp W) 274 11 19 (.int (nI i + 1))).bind fun h => some (Sum.inl h) else some (Sum.inr (hp W)) := by
  have hn := hTW.2.1.1
  unfold Mod_reads_b145
  rw [c274_19, Option.bind_some, c274_17, Option.bind_some, h3, hTW.1]
  by_cases h1 : i < tp.length
  · rw [if_neg (nI_ge h1 (by omega)), c274_8, Option.bind_some, Option.bind_some, ld282 hW hTW h1, Option.bind_some, isDigit_w, bnd2_some]
    by_cases hP : knB 2 (tp.getD i 0) = true
    · rw [b2i_t hP, if_neg (by decide), if_pos ⟨h1, hP⟩, c274_19, Option.bind_some, h3]
    · rw [b2i_f hP, if_pos rfl, if_neg (fun hh => hP hh.2)]
  · rw [if_pos (nI_le (by omega) (by omega)), if_neg (fun hh => h1 hh.1)]
theorem reads_b91 {tp : List Int32} (W : Wd) (i : Nat) (hW : WL W) (hTW : tpR W tp) (h3 : W.2 274 19 = nI i) (hi : i ≤ tp.length) : Mod_reads_b91 274 (hp W) = if i < tp.length ∧ knB 1 (tp.getD i 0) = true then (pfV (hp W) 274 11 19 (.int (nI i + 1))).bind fun h => some (Sum.inl h) else some (Sum.inr (hp W)) := by
  have hn := hTW.2.1.1
  unfold Mod_reads_b91
  rw [c274_19, Option.bind_some, c274_17, Option.bind_some, h3, hTW.1]
  by_cases h1 : i < tp.length
  · rw [if_neg (nI_ge h1 (by omega)), c274_8, Option.bind_some, Option.bind_some, ld282 hW hTW h1, Option.bind_some, isLetter_w, bnd2_some]
    by_cases hP : knB 1 (tp.getD i 0) = true
    · rw [b2i_t hP, if_neg (by decide), if_pos ⟨h1, hP⟩, c274_19, Option.bind_some, h3]
    · rw [b2i_f hP, if_pos rfl, if_neg (fun hh => hP hh.2)]
  · rw [if_pos (nI_le (by omega) (by omega)), if_neg (fun hh => h1 hh.1)]
theorem Mod_reads_w {w : Wd} {tp : List Int32} {e : Nat} (hw : WL w) (hT : tpR w tp) (he : w.2 274 19 = nI e) (hle : e ≤ tp.length) : ∃ w', Mod_reads 274 (hp w) = some ((), hp w') ∧ WL w' ∧ tkR w' tp (gn spB tp e) ∧ frU w w' := by
  have hn := hT.2.1.1
  obtain ⟨w1, a1, b1, c1, d1, f1⟩ := pfU (x := nI e) (by omega) hw p274_18
  have hT1 := f1.tpR hT
  obtain ⟨q, i1, w2, rfl, b2, f2, c2⟩ := iter_I (body := Mod_reads_b8 274) (fun j s => ∃ W, hp W = s ∧ WL W ∧ frU w1 W ∧ W.2 274 18 = nI (e + j) ∧ gn spB tp (e + j) = gn spB tp e) (fun r => ∃ W, hp W = r ∧ WL W ∧ frU w1 W ∧ W.2 274 18 = nI (gn spB tp e)) (tp.length - e) (s0 := hp w1) (by omega) ⟨w1, rfl, b1, frU.rfl', c1, rfl⟩ (by
    rintro j s hj ⟨W, rfl, hW, hF, h3, hg⟩
    have hTW := hF.tpR hT1
    have l1 := ld282 hW hTW (k := e + j) (by omega)
    rw [gn_eq] at hg
    have hc : ¬ nI tp.length ≤ nI (e + j) := nI_ge (by omega) (by omega)
    by_cases h32 : tp.getD (e + j) 0 = 32
    · left
      rw [if_pos ⟨by omega, by unfold spB; exact decide_eq_true h32⟩] at hg
      obtain ⟨V, v1, v2, v3, v4, v5⟩ := pfU (x := nI (e + j) + 1) (by omega) hW p274_18
      refine ⟨hp V, ?_, V, rfl, v2, hF.tr v5, by rw [v3, nI_1]; rfl, hg⟩
      unfold Mod_reads_b8
      rw [c274_18, Option.bind_some, c274_17, Option.bind_some, h3, hTW.1, if_neg hc, c274_8, Option.bind_some, Option.bind_some, l1, Option.bind_some, if_neg (fun hh => hh h32), Option.bind_some, v1, Option.bind_some]
    · right
      rw [if_neg (fun hh => h32 (of_decide_eq_true hh.2))] at hg
      refine ⟨hp W, ?_, W, rfl, hW, hF, by rw [h3, hg]⟩
      unfold Mod_reads_b8
      rw [c274_18, Option.bind_some, c274_17, Option.bind_some, h3, hTW.1, if_neg hc, c274_8, Option.bind_some, Option.bind_some, l1, Option.bind_some, if_pos h32]) (by
    rintro s ⟨W, rfl, hW, hF, h3, hg⟩
    have hTW := hF.tpR hT1
    have ee : e + (tp.length - e) = tp.length := by omega
    rw [ee] at h3 hg
    rw [gn_eq, if_neg (by omega)] at hg
    refine ⟨hp W, ?_, W, rfl, hW, hF, by rw [h3, hg]⟩
    unfold Mod_reads_b8
    rw [c274_18, Option.bind_some, c274_17, Option.bind_some, h3, hTW.1, if_pos (nI_le (Nat.le_refl _) (by omega))])
  obtain ⟨s, hs⟩ : ∃ s, s = gn spB tp e := ⟨_, rfl⟩
  have hsn : s ≤ tp.length := by rw [hs]; exact gn_rng.2.1 hle
  rw [← hs] at c2 ⊢
  have hT2 := f2.tpR hT1
  obtain ⟨w3, a3, b3, c3, d3, f3⟩ := pfU (x := nI s) (by omega) b2 p274_19
  have hT3 := f3.tpR hT2
  have g3 : w3.2 274 18 = nI s := by rw [d3 18 (by omega), c2]
  by_cases h1 : s < tp.length
  · have hne : ¬ nI s = nI tp.length := fun hh => by
      have := (nI_eq (by omega) (by omega)).mp hh
      omega
    obtain ⟨w4, a4, b4, c4, d4, f4⟩ := pfU (x := nI s + 1) (by omega) b3 p274_19
    rw [nI_1] at c4
    have hT4 := f4.tpR hT3
    have g4 : w4.2 274 18 = nI s := by rw [d4 18 (by omega), g3]
    have l4 := ld282 b4 hT4 h1
    have pre : ∀ R : Option (Unit × AHeap), (if b2i (knB 1 (tp.getD s 0)) = 0 then (if b2i (knB 2 (tp.getD s 0)) = 0 then Mod_reads_j184 274 (hp w4) else (iter (Mod_reads_b145 274) Lmax (hp w4)).bind (fun (q145 : AHeap) => Mod_reads_j184 274 q145)) else (iter (Mod_reads_b91 274) Lmax (hp w4)).bind (fun (q91 : AHeap) => Mod_reads_j184 274 q91)) = R → Mod_reads 274 (hp w) = R := by
      rintro R rfl
      unfold Mod_reads
      rw [c274_19, Option.bind_some, he, a1, Option.bind_some, i1, Option.bind_some]
      unfold Mod_reads_j46
      rw [c274_18, Option.bind_some, c2, a3, Option.bind_some, c274_18, Option.bind_some, c274_17, Option.bind_some, g3, hT3.1, if_pos hne, c274_19, Option.bind_some, c3, a4, Option.bind_some, c274_8, Option.bind_some, c274_18, Option.bind_some, g4, l4, Option.bind_some, isLetter_w, bnd2_some, c274_8, Option.bind_some, c274_18, Option.bind_some, g4, l4, Option.bind_some, isDigit_w, bnd2_some]
    rcases kdB_cases (tp.getD s 0) with hk | hk | hk
    · obtain ⟨w5, i5, b5, f5, c5, d5⟩ := reads_run (K := 1) b4 hT4 c4 (by omega) (fun W i => reads_b91 W i)
      refine ⟨w5, pre _ ?_, b5, ⟨hsn, by rw [d5 18 (by omega), g4], ?_⟩, (((f1.tr f2).tr f3).tr f4).tr f5⟩
      · rw [b2i_t (b := knB 1 _) (by unfold knB; exact decide_eq_true hk), if_neg (by decide), i5, Option.bind_some]; rfl
      · rw [c5]; unfold tkE; rw [if_pos h1, hk, if_neg (by decide)]
    · obtain ⟨w5, i5, b5, f5, c5, d5⟩ := reads_run (K := 2) b4 hT4 c4 (by omega) (fun W i => reads_b145 W i)
      refine ⟨w5, pre _ ?_, b5, ⟨hsn, by rw [d5 18 (by omega), g4], ?_⟩, (((f1.tr f2).tr f3).tr f4).tr f5⟩
      · rw [b2i_f (b := knB 1 _) (by unfold knB; rw [hk]; decide), if_pos rfl, b2i_t (b := knB 2 _) (by unfold knB; exact decide_eq_true hk), if_neg (by decide), i5, Option.bind_some]; rfl
      · rw [c5]; unfold tkE; rw [if_pos h1, hk, if_neg (by decide)]
    · refine ⟨w4, pre _ ?_, b4, ⟨hsn, g4, ?_⟩, ((f1.tr f2).tr f3).tr f4⟩
      · rw [b2i_f (b := knB 1 _) (by unfold knB; rw [hk]; decide), if_pos rfl, b2i_f (b := knB 2 _) (by unfold knB; rw [hk]; decide), if_pos rfl]; rfl
      · rw [c4]; unfold tkE; rw [if_pos h1, if_pos hk]
  · have hsl : s = tp.length := by omega
    refine ⟨w3, ?_, b3, ⟨hsn, g3, by rw [c3]; unfold tkE; rw [if_neg h1]⟩, (f1.tr f2).tr f3⟩
    unfold Mod_reads
    rw [c274_19, Option.bind_some, he, a1, Option.bind_some, i1, Option.bind_some]
    unfold Mod_reads_j46
    rw [c274_18, Option.bind_some, c2, a3, Option.bind_some, c274_18, Option.bind_some, c274_17, Option.bind_some, g3, hT3.1, if_neg (fun hh => hh (by rw [hsl]))]
theorem Mod_next {w : Wd} {tp : List Int32} {s : Nat} (hw : WL w) (hT : tpR w tp) (hs : tkR w tp s) : ∃ w', Mod_reads 274 (hp w) = some ((), hp w') ∧ WL w' ∧ tkR w' tp (nxT tp s) ∧ frU w w' := Mod_reads_w hw hT hs.2.2 (tkE_rng hs.1).2.1
