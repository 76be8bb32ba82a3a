/-! plant -/
theorem canBe_0 {v : Int32} {h : AHeap} : Sp_canBe 0 v h = some (b2i (isInP v 0 999), h) := by
  unfold Sp_canBe
  rw [show ∀ A B C D : Option (Int32 × AHeap), swi (0 : Int32) 0 [A, B, C] D = A from fun _ _ _ _ => rfl]
  unfold Sp_canBe_j43 Sp_canBe_j44 isInP
  by_cases h1 : v < 0
  · rw [if_pos h1, bz0, bd_f (fun hh => hh.1 h1)]; rfl
  · rw [if_neg h1]
    by_cases h2 : 999 < v
    · rw [if_pos h2, bz0, bd_f (fun hh => hh.2 h2)]; rfl
    · rw [if_neg h2, bz1, bd_t ⟨h1, h2⟩]; rfl
theorem canBe_1 {v : Int32} {h : AHeap} : Sp_canBe 1 v h = some (b2i (isInP v 1 20), h) := by
  unfold Sp_canBe
  rw [show ∀ A B C D : Option (Int32 × AHeap), swi (1 : Int32) 0 [A, B, C] D = B from fun _ _ _ _ => rfl]
  unfold Sp_canBe_j60 Sp_canBe_j61 isInP
  by_cases h1 : v < 1
  · rw [if_pos h1, bz0, bd_f (fun hh => hh.1 h1)]; rfl
  · rw [if_neg h1]
    by_cases h2 : 20 < v
    · rw [if_pos h2, bz0, bd_f (fun hh => hh.2 h2)]; rfl
    · rw [if_neg h2, bz1, bd_t ⟨h1, h2⟩]; rfl
theorem canBe_2 {v : Int32} {h : AHeap} : Sp_canBe 2 v h = some (b2i (isInP v 0 3), h) := by
  unfold Sp_canBe
  rw [show ∀ A B C D : Option (Int32 × AHeap), swi (2 : Int32) 0 [A, B, C] D = C from fun _ _ _ _ => rfl]
  unfold Sp_canBe_j75 Sp_canBe_j76 isInP
  by_cases h1 : v < 0
  · rw [if_pos h1, bz0, bd_f (fun hh => hh.1 h1)]; rfl
  · rw [if_neg h1]
    by_cases h2 : 3 < v
    · rw [if_pos h2, bz0, bd_f (fun hh => hh.2 h2)]; rfl
    · rw [if_neg h2, bz1, bd_t ⟨h1, h2⟩]; rfl
theorem addPlant_wf {g : PD} {f s m : Int32} (hg : wfP g) (h : pNp g < 4) (hf : rng 0 999 f) (hs : rng 1 20 s) (hm : rng 0 3 m) : wfP (pdAddPlant g f s m) ∧ pNp (pdAddPlant g f s m) = pNp g + 1 := by
  have e : (pdAddPlant g f s m).1 = nI (pNp g + 1) := by
    show g.1 + 1 = _
    rw [hg.1.1.1, nI_1]
  have en : pNp (pdAddPlant g f s m) = pNp g + 1 := by unfold pNp; rw [e, nI_clamp (by omega)]; rfl
  obtain ⟨⟨h1, h2, h3⟩, ⟨l1, l2, l3, l4⟩, h5, h6, h7, h8, h9, h10⟩ := hg
  have eF : ∀ p, pFee (pdAddPlant g f s m) p = if pNp g = p then f else pFee g p := by
    intro p
    show (g.2.2.2.1.set (pNp g) f).getD p 0 = _
    rw [gD_set, l1]
    by_cases hp' : pNp g = p
    · rw [if_pos ⟨hp', h⟩, if_pos hp']
    · rw [if_neg (fun hh => hp' hh.1), if_neg hp']; rfl
  have eS : ∀ p, pSize (pdAddPlant g f s m) p = if pNp g = p then s else pSize g p := by
    intro p
    show (g.2.2.2.2.1.set (pNp g) s).getD p 0 = _
    rw [gD_set, l2]
    by_cases hp' : pNp g = p
    · rw [if_pos ⟨hp', h⟩, if_pos hp']
    · rw [if_neg (fun hh => hp' hh.1), if_neg hp']; rfl
  have eM : ∀ p, pMost (pdAddPlant g f s m) p = if pNp g = p then m else pMost g p := by
    intro p
    show (g.2.2.2.2.2.1.set (pNp g) m).getD p 0 = _
    rw [gD_set, l3]
    by_cases hp' : pNp g = p
    · rw [if_pos ⟨hp', h⟩, if_pos hp']
    · rw [if_neg (fun hh => hp' hh.1), if_neg hp']; rfl
  refine ⟨⟨⟨⟨by rw [en]; exact e, by omega⟩, h2, h3⟩, ⟨by show (g.2.2.2.1.set (pNp g) f).length = 4; rw [List.length_set]; exact l1, by show (g.2.2.2.2.1.set (pNp g) s).length = 4; rw [List.length_set]; exact l2, by show (g.2.2.2.2.2.1.set (pNp g) m).length = 4; rw [List.length_set]; exact l3, l4⟩, fun p hp' => ?_, fun p hp' => ?_, fun p hp' hp4 => ?_, h8, fun p s' hp' hs' ho => h9 p s' hp' hs' ?_, h10⟩, en⟩
  · rw [eF, eS, eM]
    by_cases hp2 : pNp g = p
    · rw [if_pos hp2, if_pos hp2, if_pos hp2]
      exact ⟨hf, ⟨by have := hs.1; omega, hs.2⟩, hm⟩
    · rw [if_neg hp2, if_neg hp2, if_neg hp2]
      exact h5 p hp'
  · rw [en] at hp'
    rw [eS]
    by_cases hp2 : pNp g = p
    · rw [if_pos hp2]; exact hs
    · rw [if_neg hp2]; exact h6 p (by omega)
  · rw [en] at hp'
    rw [eF, eS, eM, if_neg (by omega), if_neg (by omega), if_neg (by omega)]
    exact h7 p (by omega) hp4
  · rcases ho with ho | ho
    · left; rw [en] at ho; omega
    · exact .inr ho
