/-! plant, both -/
section Rd
variable {w : Wd} {st : ST} {tm : List Int32} {x : Nat} {hi : List (ST × Int32)} {im : Nat → Option (ST × List Int32)} {rf : Nat → Int32} {ss : Int32} {tp : List Int32} {ft : Int32}
theorem slc_off {r : List Int32} {a n k : Nat} {x : Int32} (h : k < a ∨ a + n ≤ k) : slc (r.set k x) a n = slc r a n := slc_cg (fun j h1 h2 => by rw [gD_set, if_neg (by omega)])
theorem slc_on {r : List Int32} {a n j : Nat} {x : Int32} (hj : j < n) (h : a + j < r.length) : slc (r.set (a + j) x) a n = (slc r a n).set j x := by
  rw [slc_set h, if_pos (by omega), show a + j - a = j by omega]
theorem ref_comesPlant {w : Wd} {g : PD} {cs : List (List Int32)} {sr : List Int32} {f s m : Int32} (hw : WL w) (hg : wfP g) (hn : pNp g < 4) (hr : rowIs (w.1 279) g cs sr) : ∃ w', Mod_comesPlant 274 f s m (hp w) = some ((), hp w') ∧ WL w' ∧ rowIs (w'.1 279) (pdAddPlant g f s m) cs sr ∧ Fr w w' 279 280 := by
  have hG := hr.1
  have d0 : (w.1 279).getD 0 0 = nI (pNp g) := by
    have : (w.1 279).getD 0 0 = g.1 := by rw [← hG]; rfl
    rw [this]; exact hg.1.1.1
  have l0 : ald 0 (hp w) 279 0 = some (nI (pNp g)) := by rw [ldN hw (i := 0) (j := 0) rfl (by omega), d0]
  obtain ⟨w1, a1, b1, c1, k1, e1⟩ := st_at (i := 11 + nI (pNp g)) (x := f) (j := 11 + pNp g) hw s279 (nI_add 11 _) (show 11 + pNp g < 1427 by omega) (by omega)
  obtain ⟨w2, a2, b2, c2, k2, e2⟩ := st_at (i := 15 + nI (pNp g)) (x := s) (j := 15 + pNp g) b1 s279 (nI_add 15 _) (show 15 + pNp g < 1427 by omega) (by omega)
  obtain ⟨w3, a3, b3, c3, k3, e3⟩ := st_at (i := 19 + nI (pNp g)) (x := m) (j := 19 + pNp g) b2 s279 (nI_add 19 _) (show 19 + pNp g < 1427 by omega) (by omega)
  have l3 : ald 0 (hp w3) 279 0 = some (nI (pNp g)) := by
    rw [ldN b3 (i := 0) (j := 0) rfl (by omega), c3, gD_set, if_neg (by omega), c2, gD_set, if_neg (by omega), c1, gD_set, if_neg (by omega), d0]
  obtain ⟨w4, a4, b4, c4, k4, e4⟩ := st_at (i := 0) (x := nI (pNp g) + 1) (j := 0) b3 s279 rfl (by decide) (by omega)
  refine ⟨w4, ?_, b4, ?_, ((e1.tr e2).tr e3).tr e4⟩
  · unfold Mod_comesPlant
    rw [c274_5, Option.bind_some, l0, Option.bind_some, Option.bind_some, a1, Option.bind_some, c274_5, Option.bind_some, a2, Option.bind_some, c274_5, Option.bind_some, a3, Option.bind_some, c274_5, Option.bind_some, l3, Option.bind_some, a4, Option.bind_some]
  · refine row_prog hr ?_ (fun k hk => ?_)
    · rw [c4, mdG_low (k := 0) (by omega), gD_set, gD_set, gD_set, if_pos ⟨rfl, by rw [l279 b3]; omega⟩, if_neg (by omega), if_neg (by omega), c3, c2, c1]
      obtain ⟨r, hrr⟩ : ∃ r, r = w.1 279 := ⟨_, rfl⟩
      have L : r.length = 1427 := by rw [hrr]; exact l279 hw
      rw [← hrr] at hG ⊢
      have eg : mdG (((r.set (11 + pNp g) f).set (15 + pNp g) s).set (19 + pNp g) m) = ((r.getD 0 0), (r.getD 1 0), (r.getD 2 0), (slc r 11 4).set (pNp g) f, (slc r 15 4).set (pNp g) s, (slc r 19 4).set (pNp g) m, slc r 23 24, slc r 47 4, slc r 51 24) := by
        unfold mdG
        rw [gD_set, if_neg (by omega), gD_set, if_neg (by omega), gD_set, if_neg (by omega), gD_set, if_neg (by omega), gD_set, if_neg (by omega), gD_set, if_neg (by omega), gD_set, if_neg (by omega), gD_set, if_neg (by omega), gD_set, if_neg (by omega)]
        rw [slc_off (a := 11) (by omega), slc_off (a := 11) (by omega), slc_on (by omega) (by omega)]
        rw [slc_off (a := 15) (by omega), slc_on (by omega) (by rw [List.length_set]; omega), slc_off (a := 15) (by omega)]
        rw [slc_on (a := 19) (by omega) (by rw [List.length_set, List.length_set]; omega), slc_off (a := 19) (by omega), slc_off (a := 19) (by omega)]
        rw [slc_off (a := 23) (by omega), slc_off (a := 23) (by omega), slc_off (a := 23) (by omega), slc_off (a := 47) (by omega), slc_off (a := 47) (by omega), slc_off (a := 47) (by omega), slc_off (a := 51) (by omega), slc_off (a := 51) (by omega), slc_off (a := 51) (by omega)]
      rw [eg, gD_set, if_neg (by omega), gD_set, if_neg (by omega), gD_set, if_neg (by omega), gD_set, if_neg (by omega), gD_set, if_neg (by omega), gD_set, if_neg (by omega)]
      have e1' : nI (pNp g) + 1 = g.1 + 1 := by rw [← hg.1.1.1]
      rw [e1', ← hG]
      rfl
    · rw [c4, gD_set, if_neg (by omega), c3, gD_set, if_neg (by omega), c2, gD_set, if_neg (by omega), c1, gD_set, if_neg (by omega)]
end Rd
