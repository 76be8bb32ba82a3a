/-! the lines of a text -/
def plantP (tp : List Int32) (g : PD) (s : Nat) : Nat × Option PD :=
  if pNp g < 4 then
    (match nmP tp (nxT tp s) 0 999 with
    | none => (nxT tp s, none)
    | some f => match nmP tp (nxT tp (nxT tp s)) 1 20 with
      | none => (nxT tp (nxT tp s), none)
      | some z => match nmP tp (nxT tp (nxT tp (nxT tp s))) 0 3 with
        | none => (nxT tp (nxT tp (nxT tp s)), none)
        | some m => (nxT tp (nxT tp (nxT tp (nxT tp s))), some (pdAddPlant g (nI f) (nI z) (nI m))))
  else (s, none)
def siteP (tp : List Int32) (g : PD) (s : Nat) : Nat × Option PD := if pNs g < 6 then (nxT tp s, some (gSite g)) else (s, none)
def roadP (tp : List Int32) (g : PD) (s : Nat) : Nat × Option PD :=
  match nmP tp (nxT tp s) 0 ((pNp g : Int) - 1) with
  | none => (nxT tp s, none)
  | some p => match nmP tp (nxT tp (nxT tp s)) 0 ((pNs g : Int) - 1) with
    | none => (nxT tp (nxT tp s), none)
    | some q => if pToll g p q = -1 then
        (match nmP tp (nxT tp (nxT tp (nxT tp s))) 0 99 with
        | none => (nxT tp (nxT tp (nxT tp s)), none)
        | some t => (nxT tp (nxT tp (nxT tp (nxT tp s))), some (gRoad g p q (nI t))))
      else (nxT tp (nxT tp s), none)
section LC
variable {w : Wd} {tp : List Int32} {g : PD} {s : Nat}
theorem liveC.n (h : liveC w tp g s) (hg : wfP g) : w.2 42 0 = nI (pNp g) ∧ w.2 42 1 = nI (pNs g) ∧ w.2 42 2 = nI (pNc g) := by
  have e := h.2.2.2
  refine ⟨?_, ?_, ?_⟩
  · rw [← hg.1.1.1, ← e]; rfl
  · rw [← hg.1.2.1.1, ← e]; rfl
  · rw [← hg.1.2.2.1, ← e]; rfl
theorem liveR.n (h : liveR w tp g s) (hg : wfP g) : ald 0 (hp w) 279 0 = some (nI (pNp g)) ∧ ald 0 (hp w) 279 1 = some (nI (pNs g)) ∧ ald 0 (hp w) 279 2 = some (nI (pNc g)) := by
  have e := h.2.2.2.2.2.1
  refine ⟨?_, ?_, ?_⟩
  · rw [ldN h.1 (i := 0) (j := 0) rfl (by omega), ← hg.1.1.1, ← e]; rfl
  · rw [ldN h.1 (i := 1) (j := 1) rfl (by omega), ← hg.1.2.1.1, ← e]; rfl
  · rw [ldN h.1 (i := 2) (j := 2) rfl (by omega), ← hg.1.2.2.1, ← e]; rfl
theorem j55_f {a b : Int32} {h : AHeap} : Tape_takePlant_j55 40 42 a b (-1) h = some (0, h) := by
  unfold Tape_takePlant_j55
  rw [if_neg (fun hh => hh rfl), bz0, Option.bind_some]
theorem j39_f {a : Int32} {h : AHeap} : Tape_takePlant_j39 40 42 a (-1) h = some (0, h) := by
  unfold Tape_takePlant_j39
  rw [if_neg (fun hh => hh rfl), j55_f]
theorem plant_C (h : liveC w tp g s) (hg : wfP g) : ∃ w', Tape_takePlant 40 42 (hp w) = some (b2i (plantP tp g s).2.isSome, hp w') ∧ resC w' tp (plantP tp g s) ∧ frC w w' := by
  have n0 := (h.n hg).1
  by_cases h4 : pNp g < 4
  · have c4 : nI (pNp g) < 4 := nI_lt (b := 4) h4 (by omega)
    obtain ⟨w1, a1, l1, f1⟩ := h.next
    have pre : Tape_takePlant 40 42 (hp w) = bnd2 (Tape_takeNumber 40 0 999 (hp w1)) fun x4 h3 => (if ¬ x4 = (-1) then (chk h3 40 9).bind fun _ => bnd2 (Tape_takeNumber 40 1 20 h3) fun x6 h5 => Tape_takePlant_j39 40 42 x4 x6 h5 else Tape_takePlant_j39 40 42 x4 (-1) h3) := by
      unfold Tape_takePlant
      rw [c42_0, Option.bind_some, n0, if_pos c4, k40, Option.bind_some, a1, bnd2_some, k40, Option.bind_some]
    cases e1 : nmP tp (nxT tp s) 0 999 with
    | none =>
      have hP : plantP tp g s = (nxT tp s, none) := by simp only [plantP, if_pos h4, e1]
      rw [hP]
      refine ⟨w1, ?_, l1.fail, f1⟩
      rw [pre, l1.num_none (lo := 0) (hi := 999) (by decide) (by decide) e1, bnd2_some, if_neg (fun hh => hh rfl), j39_f, Option.isSome_none, b2f]
    | some f =>
      obtain ⟨w2, a2, l2, f2⟩ := l1.num_some (lo := 0) (hi := 999) (by decide) (by decide) e1
      have r1 := nmP_some e1
      cases e2 : nmP tp (nxT tp (nxT tp s)) 1 20 with
      | none =>
        have hP : plantP tp g s = (nxT tp (nxT tp s), none) := by simp only [plantP, if_pos h4, e1, e2]
        rw [hP]
        refine ⟨w2, ?_, l2.fail, f1.tr f2⟩
        rw [pre, a2, bnd2_some, if_pos (ne_m1 (by omega)), k40, Option.bind_some, l2.num_none (lo := 1) (hi := 20) (by decide) (by decide) e2, bnd2_some, j39_f, Option.isSome_none, b2f]
      | some z =>
        obtain ⟨w3, a3, l3, f3⟩ := l2.num_some (lo := 1) (hi := 20) (by decide) (by decide) e2
        have r2 := nmP_some e2
        cases e3 : nmP tp (nxT tp (nxT tp (nxT tp s))) 0 3 with
        | none =>
          have hP : plantP tp g s = (nxT tp (nxT tp (nxT tp s)), none) := by simp only [plantP, if_pos h4, e1, e2, e3]
          rw [hP]
          refine ⟨w3, ?_, l3.fail, (f1.tr f2).tr f3⟩
          rw [pre, a2, bnd2_some, if_pos (ne_m1 (by omega)), k40, Option.bind_some, a3, bnd2_some]
          unfold Tape_takePlant_j39
          rw [if_pos (ne_m1 (by omega)), k40, Option.bind_some, l3.num_none (lo := 0) (hi := 3) (by decide) (by decide) e3, bnd2_some, j55_f, Option.isSome_none, b2f]
        | some m =>
          obtain ⟨w4, a4, l4, f4⟩ := l3.num_some (lo := 0) (hi := 3) (by decide) (by decide) e3
          have r3 := nmP_some e3
          have hP : plantP tp g s = (nxT tp (nxT tp (nxT tp (nxT tp s))), some (pdAddPlant g (nI f) (nI z) (nI m))) := by simp only [plantP, if_pos h4, e1, e2, e3]
          rw [hP]
          obtain ⟨w5, a5, b5, p5, e5⟩ := Prog_addPlant_w (f := nI f) (s := nI z) (m := nI m) isPg_42 l4.1 (by rw [l4.2.2.2]; exact hg) (by rw [l4.2.2.2]; exact h4)
          rw [l4.2.2.2] at p5
          obtain ⟨l5, f5⟩ := l4.upd b5 e5 p5
          refine ⟨w5, ?_, l5, (((f1.tr f2).tr f3).tr f4).tr f5⟩
          rw [pre, a2, bnd2_some, if_pos (ne_m1 (by omega)), k40, Option.bind_some, a3, bnd2_some]
          unfold Tape_takePlant_j39
          rw [if_pos (ne_m1 (by omega)), k40, Option.bind_some, a4, bnd2_some]
          unfold Tape_takePlant_j55
          rw [if_pos (ne_m1 (by omega)), k42, Option.bind_some, a5, bnd2_some, bz1, Option.bind_some, Option.isSome_some, b2t]
  · have hP : plantP tp g s = (s, none) := by simp only [plantP, if_neg h4]
    rw [hP]
    have n4 := hg.1.1.2
    refine ⟨w, ?_, h.fail, frC.rfl'⟩
    unfold Tape_takePlant
    rw [c42_0, Option.bind_some, n0, if_neg (show ¬ nI (pNp g) < 4 from nI_nlt (b := 4) (by omega) (by omega)), bz0, Option.bind_some, Option.isSome_none, b2f]
theorem plant_R (h : liveR w tp g s) (hg : wfP g) : ∃ w', Mod_plantLine 274 (hp w) = some ((), hp w') ∧ resR w' tp (plantP tp g s) ∧ frL w w' := by
  have n0 := (h.n hg).1
  have n4 := hg.1.1.2
  by_cases h4 : pNp g < 4
  · have c4 : ¬ nI (pNp g) = 4 := fun hh => by have := (nI_eq (b := 4) (by omega) (by omega)).mp hh; omega
    obtain ⟨w1, a1, l1, f1⟩ := h.next
    have pre : Mod_plantLine 274 (hp w) = bnd2 (Mod_number 274 0 999 (hp w1)) fun x6 h5 => (chk h5 274 11).bind fun _ => bnd2 (Mod_number 274 1 20 h5) fun x8 h7 => (chk h7 274 11).bind fun _ => bnd2 (Mod_number 274 0 3 h7) fun x10 h9 => (gfI h9 274 11 20).bind fun x11 => (if ¬ x11 = 0 then Mod_plantLine_j64 274 x6 x8 x10 h9 else (chk h9 274 11).bind fun _ => bnd2 (Mod_comesPlant 274 x6 x8 x10 h9) fun _ h12 => Mod_plantLine_j64 274 x6 x8 x10 h12) := by
      unfold Mod_plantLine
      rw [c274_5, Option.bind_some, n0, Option.bind_some, if_pos c4]
      unfold Mod_plantLine_j14
      rw [c274_20, Option.bind_some, h.2.2.2.1, if_pos rfl, k274, Option.bind_some, a1, bnd2_some, k274, Option.bind_some]
    cases e1 : nmP tp (nxT tp s) 0 999 with
    | none =>
      have hP : plantP tp g s = (nxT tp s, none) := by simp only [plantP, if_pos h4, e1]
      rw [hP]
      obtain ⟨w2, a2, l2, f2⟩ := l1.num_none (lo := 0) (hi := 999) (by decide) (by decide) e1
      refine ⟨w2, ?_, l2, f1.tr f2⟩
      rw [pre, a2, bnd2_some, k274, Option.bind_some, l2.num, bnd2_some, k274, Option.bind_some, l2.num, bnd2_some, c274_20, Option.bind_some, l2.2.2.2.1, if_pos (by decide)]
      rfl
    | some f =>
      obtain ⟨w2, a2, l2, f2⟩ := l1.num_some (lo := 0) (hi := 999) (by decide) (by decide) e1
      have r1 := nmP_some e1
      cases e2 : nmP tp (nxT tp (nxT tp s)) 1 20 with
      | none =>
        have hP : plantP tp g s = (nxT tp (nxT tp s), none) := by simp only [plantP, if_pos h4, e1, e2]
        rw [hP]
        obtain ⟨w3, a3, l3, f3⟩ := l2.num_none (lo := 1) (hi := 20) (by decide) (by decide) e2
        refine ⟨w3, ?_, l3, (f1.tr f2).tr f3⟩
        rw [pre, a2, bnd2_some, k274, Option.bind_some, a3, bnd2_some, k274, Option.bind_some, l3.num, bnd2_some, c274_20, Option.bind_some, l3.2.2.2.1, if_pos (by decide)]
        rfl
      | some z =>
        obtain ⟨w3, a3, l3, f3⟩ := l2.num_some (lo := 1) (hi := 20) (by decide) (by decide) e2
        have r2 := nmP_some e2
        cases e3 : nmP tp (nxT tp (nxT tp (nxT tp s))) 0 3 with
        | none =>
          have hP : plantP tp g s = (nxT tp (nxT tp (nxT tp s)), none) := by simp only [plantP, if_pos h4, e1, e2, e3]
          rw [hP]
          obtain ⟨w4, a4, l4, f4⟩ := l3.num_none (lo := 0) (hi := 3) (by decide) (by decide) e3
          refine ⟨w4, ?_, l4, ((f1.tr f2).tr f3).tr f4⟩
          rw [pre, a2, bnd2_some, k274, Option.bind_some, a3, bnd2_some, k274, Option.bind_some, a4, bnd2_some, c274_20, Option.bind_some, l4.2.2.2.1, if_pos (by decide)]
          rfl
        | some m =>
          obtain ⟨w4, a4, l4, f4⟩ := l3.num_some (lo := 0) (hi := 3) (by decide) (by decide) e3
          have hP : plantP tp g s = (nxT tp (nxT tp (nxT tp (nxT tp s))), some (pdAddPlant g (nI f) (nI z) (nI m))) := by simp only [plantP, if_pos h4, e1, e2, e3]
          rw [hP]
          obtain ⟨w5, a5, b5, p5, e5⟩ := ref_comesPlant (f := nI f) (s := nI z) (m := nI m) l4.1 hg h4 l4.2.2.2.2.2
          obtain ⟨l5, f5⟩ := l4.upd b5 e5 p5
          refine ⟨w5, ?_, l5, (((f1.tr f2).tr f3).tr f4).tr f5⟩
          rw [pre, a2, bnd2_some, k274, Option.bind_some, a3, bnd2_some, k274, Option.bind_some, a4, bnd2_some, c274_20, Option.bind_some, l4.2.2.2.1, if_neg (fun hh => hh rfl), k274, Option.bind_some, a5, bnd2_some]
          rfl
  · have hP : plantP tp g s = (s, none) := by simp only [plantP, if_neg h4]
    rw [hP]
    have e4 : pNp g = 4 := by omega
    obtain ⟨w1, a1, l1, f1, _⟩ := h.wrong
    refine ⟨w1, ?_, l1, f1⟩
    unfold Mod_plantLine
    rw [c274_5, Option.bind_some, n0, Option.bind_some, e4, if_neg (fun hh => hh rfl), k274, Option.bind_some, a1, bnd2_some]
    unfold Mod_plantLine_j14
    rw [c274_20, Option.bind_some, l1.2.2.2.1, if_neg (by decide)]
theorem site_C (h : liveC w tp g s) (hg : wfP g) : ∃ w', Tape_takeSite 40 42 (hp w) = some (b2i (siteP tp g s).2.isSome, hp w') ∧ resC w' tp (siteP tp g s) ∧ frC w w' := by
  have n1 := (h.n hg).2.1
  have n6 := hg.1.2.1.2
  by_cases h6 : pNs g < 6
  · have hP : siteP tp g s = (nxT tp s, some (gSite g)) := by simp only [siteP, if_pos h6]
    rw [hP]
    obtain ⟨w1, a1, l1, f1⟩ := h.next
    have m1 := (l1.n hg).2.1
    obtain ⟨w2, a2, b2, c2, d2, d2', e2⟩ := pf_eq (x := nI (pNs g) + 1) l1.1 p42_1
    have p2 : pdW w2 42 = gSite g := by
      rw [← l1.2.2.2]
      unfold pdW gSite
      simp only [c2, d2, d2' 0 (by omega), d2' 2 (by omega), m1]
    obtain ⟨l2, f2⟩ := l1.upd b2 (e2.mono (by omega) (by omega)) p2
    refine ⟨w2, ?_, l2, f1.tr f2⟩
    unfold Tape_takeSite
    rw [c42_1, Option.bind_some, n1, if_pos (show nI (pNs g) < 6 from nI_lt (b := 6) h6 (by omega)), k40, Option.bind_some, a1, bnd2_some, c42_1, Option.bind_some, m1, a2, Option.bind_some, bz1, Option.bind_some, Option.isSome_some, b2t]
  · have hP : siteP tp g s = (s, none) := by simp only [siteP, if_neg h6]
    rw [hP]
    refine ⟨w, ?_, h.fail, frC.rfl'⟩
    unfold Tape_takeSite
    rw [c42_1, Option.bind_some, n1, if_neg (show ¬ nI (pNs g) < 6 from nI_nlt (b := 6) (by omega) (by omega)), bz0, Option.bind_some, Option.isSome_none, b2f]
theorem row_site {r : List Int32} {g : PD} (hg : wfP g) (L : r.length = 1427) (hr : rowIs r g [] sr0) : rowIs (r.set 1 (nI (pNs g) + 1)) (gSite g) [] sr0 := by
  refine row_prog hr ?_ (fun k hk => by rw [gD_set, if_neg (by omega)])
  rw [mdG_low (k := 1) (by omega), gD_set, gD_set, gD_set, if_neg (by omega), if_pos ⟨rfl, by omega⟩, if_neg (by omega)]
  have e1 : nI (pNs g) + 1 = g.2.1 + 1 := by rw [← hg.1.2.1.1]
  rw [e1, ← hr.1]
  rfl
theorem site_R (h : liveR w tp g s) (hg : wfP g) : ∃ w', ((gfR (hp w) 274 11 5).bind fun a12 => (ald 0 (hp w) a12 1).bind fun x13 => (if ¬ x13 = 6 then Mod_line_j40 274 (hp w) else (chk (hp w) 274 11).bind fun _ => bnd2 (Mod_wrong 274 (hp w)) fun _ h19 => Mod_line_j40 274 h19)) = some ((), hp w') ∧ resR w' tp (siteP tp g s) ∧ frL w w' := by
  have n1 := (h.n hg).2.1
  have n6 := hg.1.2.1.2
  by_cases h6 : pNs g < 6
  · have hP : siteP tp g s = (nxT tp s, some (gSite g)) := by simp only [siteP, if_pos h6]
    rw [hP]
    obtain ⟨w1, a1, b1, c1, k1, e1⟩ := st_at (i := 1) (x := nI (pNs g) + 1) (j := 1) h.1 s279 rfl (by decide) (by omega)
    obtain ⟨l1, f1⟩ := h.upd b1 e1 (by rw [c1]; exact row_site hg (l279 h.1) h.2.2.2.2.2)
    obtain ⟨w2, a2, l2, f2⟩ := l1.next
    refine ⟨w2, ?_, l2, f1.tr f2⟩
    rw [c274_5, Option.bind_some, n1, Option.bind_some, if_pos (fun hh => by have := (nI_eq (b := 6) (by omega) (by omega)).mp hh; omega)]
    unfold Mod_line_j40
    rw [c274_5, Option.bind_some, n1, Option.bind_some, c274_20, Option.bind_some, h.2.2.2.1, if_pos rfl]
    unfold Mod_line_j59
    rw [a1, Option.bind_some, k274, Option.bind_some, a2, bnd2_some]
    rfl
  · have hP : siteP tp g s = (s, none) := by simp only [siteP, if_neg h6]
    rw [hP]
    have e6 : pNs g = 6 := by omega
    obtain ⟨w1, a1, l1, f1, k1⟩ := h.wrong
    have n1' : ald 0 (hp w1) 279 1 = some (nI (pNs g)) := by
      rw [ldN h.1 (i := 1) (j := 1) rfl (by omega)] at n1
      rw [ldN l1.1 (i := 1) (j := 1) rfl (by omega), k1]; exact n1
    obtain ⟨w2, a2, b2, c2, k2, e2⟩ := st_at (i := 1) (x := nI (pNs g) + 0) (j := 1) l1.1 s279 rfl (by decide) (by omega)
    obtain ⟨l2, f2⟩ := l1.upd b2 e2
    obtain ⟨w3, a3, l3, f3⟩ := l2.next
    refine ⟨w3, ?_, l3, (f1.tr f2).tr f3⟩
    rw [c274_5, Option.bind_some, n1, Option.bind_some, if_neg (fun hh => hh (by rw [e6]; rfl)), k274, Option.bind_some, a1, bnd2_some]
    unfold Mod_line_j40
    rw [c274_5, Option.bind_some, n1', Option.bind_some, c274_20, Option.bind_some, l1.2.2.2.1, if_neg (by decide)]
    unfold Mod_line_j59
    rw [a2, Option.bind_some, k274, Option.bind_some, a3, bnd2_some]
    rfl
end LC
