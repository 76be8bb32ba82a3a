/-! a round, pure -/
theorem rateR_uni {g : PD} {c : Nat} {plan : Int32} {U V U' V' : Nat → Int32} (h : rateR g c plan U V) (h' : rateR g c plan U' V') : (∀ p, p < 4 → U p = U' p) ∧ ∀ s, s < 6 → V s = V' s := by
  rcases h with ⟨h1, h2, h3⟩ | ⟨h1, u, h2, h3, h4⟩
  · rcases h' with ⟨k1, k2, k3⟩ | ⟨k1, u, k2, k3, k4⟩
    · exact ⟨fun p hp' => by rw [h2 p hp', k2 p hp'], fun s hs => by rw [h3 s hs, k3 s hs]⟩
    · exact absurd k1 h1
  · rcases h' with ⟨k1, k2, k3⟩ | ⟨k1, u', k2, k3, k4⟩
    · exact absurd h1 k1
    · have e := (LM_uni h2 k2).2
      refine ⟨fun p hp' => ?_, fun s hs => ?_⟩
      · rw [ti_eq, (h3 p hp').1, (k3 p hp').1, e p hp']
      · rw [ti_eq, h4 s hs, k4 s hs]
        exact vZ_congr e
def cutUV (g : PD) (c : Nat) (plan : Int32) (U V : Nat → Int32) : List Int32 := (List.range 13).map (fun k => if k = 0 then nI c else if k = 1 then b2i (!decide (lackP g c plan ≤ 0)) else if k = 2 then 0 else if k < 7 then U (k - 3) else V (k - 7))
noncomputable def rateC (g : PD) (c : Nat) (plan : Int32) : List Int32 := Classical.epsilon (fun cut => ∃ U V, rateR g c plan U V ∧ cut = cutUV g c plan U V)
theorem cutUV_congr {g : PD} {c : Nat} {plan : Int32} {U V U' V' : Nat → Int32} (h1 : ∀ p, p < 4 → U p = U' p) (h2 : ∀ s, s < 6 → V s = V' s) : cutUV g c plan U V = cutUV g c plan U' V' := by
  unfold cutUV
  apply List.map_congr_left
  intro k hk
  have hk' : k < 13 := List.mem_range.mp hk
  by_cases k7 : k < 7
  · by_cases k3 : k < 3
    · have : k = 0 ∨ k = 1 ∨ k = 2 := by omega
      rcases this with rfl | rfl | rfl <;> rfl
    · simp only [show ¬ k = 0 by omega, show ¬ k = 1 by omega, show ¬ k = 2 by omega, k7, if_false, if_true]
      exact h1 _ (by omega)
  · simp only [show ¬ k = 0 by omega, show ¬ k = 1 by omega, show ¬ k = 2 by omega, k7, if_false]
    exact h2 _ (by omega)
theorem rateC_eq {g : PD} {c : Nat} {plan : Int32} {U V : Nat → Int32} (h : rateR g c plan U V) : rateC g c plan = cutUV g c plan U V := by
  have hs := Classical.epsilon_spec (p := fun cut => ∃ U V, rateR g c plan U V ∧ cut = cutUV g c plan U V) ⟨_, U, V, h, rfl⟩
  obtain ⟨U', V', h1, h2⟩ := hs
  have e := rateR_uni h1 h
  show Classical.epsilon _ = _
  rw [h2]
  exact cutUV_congr e.1 e.2
def setAge (x : Int32) (c : List Int32) : List Int32 := (List.range 13).map (fun k => if k = 2 then x else cK c k)
theorem setAge_k {x : Int32} {c : List Int32} {k : Nat} (hk : k < 13) : cK (setAge x c) k = if k = 2 then x else cK c k := by
  unfold setAge cK
  exact map_range_getD hk
noncomputable def newsP (g : PD) (cs : List (List Int32)) (plan way : Int32) : List (List Int32) := ((List.range (pNc g)).filter (pkB (keyZ g cs plan) (pNc g) way)).map (fun c => rateC g c plan)
def agedP (g : PD) (cs : List (List Int32)) (plan : Int32) : List (List Int32) := cs.map (fun c => setAge (ageP g cs plan c) c)
def dropP (keep : Int32) (cs : List (List Int32)) : List (List Int32) := cs.filter (fun c => decide (¬ keep ≤ cK c 2))
def leftP (ris : Bool) (keep : Int32) (ag : List (List Int32)) : List (List Int32) := if ris = false ∨ keep = 0 then ag else dropP keep ag
/-- a round by a master -/
noncomputable def rndM (g : PD) (cs : List (List Int32)) (sr tm : List Int32) (M : Int32) : Option (Int32 × List (List Int32) × List Int32) := if judP (lowP (sr.getD 1 0) (floorP g cs M)) (uppP (sr.getD 2 0) (totalP g M)) (tm.getD 2 0) = 0 then (if tm.getD 3 0 < nI ((leftP (risP (sr.getD 1 0) (floorP g cs M)) (tm.getD 1 0) (agedP g cs M)).length + (newsP g cs M (tm.getD 0 0)).length) then none else some (nI (newsP g cs M (tm.getD 0 0)).length, leftP (risP (sr.getD 1 0) (floorP g cs M)) (tm.getD 1 0) (agedP g cs M) ++ newsP g cs M (tm.getD 0 0), [0, lowP (sr.getD 1 0) (floorP g cs M), uppP (sr.getD 2 0) (totalP g M), besP (sr.getD 2 0) (totalP g M) (sr.getD 3 0) M, M, sr.getD 5 0 + 1, sr.getD 6 0 + (nI cs.length - nI (leftP (risP (sr.getD 1 0) (floorP g cs M)) (tm.getD 1 0) (agedP g cs M)).length)])) else some (0, agedP g cs M, [judP (lowP (sr.getD 1 0) (floorP g cs M)) (uppP (sr.getD 2 0) (totalP g M)) (tm.getD 2 0), lowP (sr.getD 1 0) (floorP g cs M), uppP (sr.getD 2 0) (totalP g M), besP (sr.getD 2 0) (totalP g M) (sr.getD 3 0) M, M, sr.getD 5 0 + 1, sr.getD 6 0])
noncomputable def rndP (g : PD) (cs : List (List Int32)) (sr tm : List Int32) : Option (Int32 × List (List Int32) × List Int32) := if (loP g cs 256).1 = -1 then some (0, cs, [2, sr.getD 1 0, sr.getD 2 0, sr.getD 3 0, -1, sr.getD 5 0 + 1, sr.getD 6 0]) else rndM g cs sr tm (loP g cs 256).1
theorem filter_cnt {P : Nat → Bool} : ∀ n, ((List.range n).filter P).length = cntB P n := by
  intro n
  induction n with
  | zero => rfl
  | succ n ih =>
    rw [List.range_succ, List.filter_append, List.length_append, ih, cntB]
    by_cases h : P n = true
    · simp [List.filter, h]
    · simp [List.filter, h]
theorem map_filter_cnt {f : Nat → List Int32} {P : List Int32 → Bool} : ∀ n, (((List.range n).map f).filter P).length = cntB (fun i => P (f i)) n := by
  intro n
  induction n with
  | zero => rfl
  | succ n ih =>
    rw [List.range_succ, List.map_append, List.filter_append, List.length_append, ih, cntB]
    by_cases h : P (f n) = true
    · simp [List.filter, h]
    · simp [List.filter, h]
theorem news_len {g : PD} {cs : List (List Int32)} {plan way : Int32} : (newsP g cs plan way).length = cntB (pkB (keyZ g cs plan) (pNc g) way) (pNc g) := by
  unfold newsP
  rw [List.length_map, filter_cnt]
theorem aged_W {w : Wd} {a : Nat} {g : PD} {plan : Int32} : agedP g (cutsW w a) plan = (List.range (cN w a)).map (fun i => setAge (ageP g (cutsW w a) plan (ctW w a i)) (ctW w a i)) := by
  have : ∀ cs, agedP g cs plan = cs.map (fun c => setAge (ageP g cs plan c) c) := fun _ => rfl
  rw [this]
  generalize hq : (fun c => setAge (ageP g (cutsW w a) plan c) c) = q
  unfold cutsW
  rw [List.map_map, ← hq]
  rfl
theorem stay_len {w : Wd} {a : Nat} {g : PD} {plan keep : Int32} {ris : Bool} : (leftP ris keep (agedP g (cutsW w a) plan)).length = stayP ris keep (cN w a) (fun i => ageP g (cutsW w a) plan (ctW w a i)) := by
  unfold leftP stayP
  split
  · rw [aged_W, List.length_map, List.length_range]
  · unfold dropP
    rw [aged_W, map_filter_cnt]
    refine cntB_congr _ (fun i hi => ?_)
    rw [setAge_k (by omega), if_pos rfl]
    by_cases h : keep ≤ ageP g (cutsW w a) plan (ctW w a i)
    · rw [decide_eq_false (fun h' => h' h), decide_eq_true h]; rfl
    · rw [decide_eq_true h, decide_eq_false h]; rfl
