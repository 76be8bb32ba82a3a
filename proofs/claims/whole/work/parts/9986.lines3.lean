/-! case lines -/
def needsP (tp : List Int32) (c : Nat) : Nat → Nat → PD → Nat → Nat × Option PD
  | 0, _, g, s => (s, some g)
  | f + 1, k, g, s => if kdA tp s = 2 then (match nmP tp s 0 20 with
    | none => (s, none)
    | some v => needsP tp c f (k + 1) (gNeed g c k (nI v)) (nxT tp s)) else (s, some g)
theorem needsP_0 {tp : List Int32} {c k : Nat} {g : PD} {s : Nat} : needsP tp c 0 k g s = (s, some g) := rfl
theorem needsP_n {tp : List Int32} {c f k : Nat} {g : PD} {s : Nat} (h : ¬ kdA tp s = 2) : needsP tp c (f + 1) k g s = (s, some g) := by
  show (if kdA tp s = 2 then _ else (s, some g)) = _
  rw [if_neg h]
theorem needsP_f {tp : List Int32} {c f k : Nat} {g : PD} {s : Nat} (h : kdA tp s = 2) (e : nmP tp s 0 20 = none) : needsP tp c (f + 1) k g s = (s, none) := by
  simp only [needsP, if_pos h, e]
theorem needsP_s {tp : List Int32} {c f k v : Nat} {g : PD} {s : Nat} (h : kdA tp s = 2) (e : nmP tp s 0 20 = some v) : needsP tp c (f + 1) k g s = needsP tp c f (k + 1) (gNeed g c k (nI v)) (nxT tp s) := by
  simp only [needsP, if_pos h, e]
def caseP (tp : List Int32) (g : PD) (s : Nat) : Nat × Option PD :=
  if pNc g < 4 then
    (match nmP tp (nxT tp s) 1 9 with
    | none => (nxT tp s, none)
    | some v => needsP tp (pNc g) (pNs g) 0 (pdAddCase g (nI v)) (nxT tp (nxT tp s)))
  else (s, none)
def unC (c : Nat) (g : PD) : PD := (g.1, g.2.1, nI c, g.2.2.2)
theorem rng_n {v : Nat} {lo hi : Int} (h : lo ≤ (v : Int) ∧ (v : Int) ≤ hi) (hh : v < 2 ^ 31) : rng lo hi (nI v) := by
  unfold rng
  rw [nI_toInt hh]
  exact h
section LC
variable {w : Wd} {tp : List Int32} {g : PD} {s : Nat}
theorem case_C (h : liveC w tp g s) (hg : wfP g) : ∃ w', Tape_takeCase 40 42 (hp w) = some (b2i (caseP tp g s).2.isSome, hp w') ∧ resC w' tp (caseP tp g s) ∧ frC w w' := by
  have n2 := (h.n hg).2.2
  have n4 := hg.1.2.2.2
  have n6 := hg.1.2.1.2
  by_cases h4 : pNc g < 4
  · obtain ⟨w1, a1, l1, f1⟩ := h.next
    have pre : Tape_takeCase 40 42 (hp w) = bnd2 (Tape_takeNumber 40 1 9 (hp w1)) fun x4 h3 => (if ¬ x4 = (-1) then (chk h3 42 6).bind fun _ => bnd2 (Prog_addCase 42 x4 h3) fun _ h5 => (iter (Tape_takeCase_b36 40 42 x4) Lmax (0, h5)).bind (Sum.elim (fun (q36 : Int32 × Int32 × AHeap) => Tape_takeCase_j67 40 42 x4 q36.1 q36.2.1 q36.2.2) (fun (q36 : Int32 × AHeap) => Tape_takeCase_j93 40 42 x4 q36.1 q36.2)) else (bz 0).bind fun z => some (z, h3)) := by
      unfold Tape_takeCase
      rw [c42_2, Option.bind_some, n2, if_pos (show nI (pNc g) < 4 from nI_lt (b := 4) h4 (by omega)), k40, Option.bind_some, a1, bnd2_some, k40, Option.bind_some]
    cases e1 : nmP tp (nxT tp s) 1 9 with
    | none =>
      have hP : caseP tp g s = (nxT tp s, none) := by simp only [caseP, if_pos h4, e1]
      rw [hP]
      refine ⟨w1, ?_, l1.fail, f1⟩
      rw [pre, l1.num_none (lo := 1) (hi := 9) (by decide) (by decide) e1, bnd2_some, if_neg (fun hh => hh rfl), bz0, Option.bind_some, Option.isSome_none, b2f]
    | some v =>
      obtain ⟨w2, a2, l2, f2⟩ := l1.num_some (lo := 1) (hi := 9) (by decide) (by decide) e1
      have r1 := nmP_some e1
      have hP : caseP tp g s = needsP tp (pNc g) (pNs g) 0 (pdAddCase g (nI v)) (nxT tp (nxT tp s)) := by simp only [caseP, if_pos h4, e1]
      rw [hP]
      obtain ⟨w3, a3, b3, p3, e3⟩ := Prog_addCase_w (x := nI v) isPg_42 l2.1 (by rw [l2.2.2.2]; exact hg) (by rw [l2.2.2.2]; exact h4)
      rw [l2.2.2.2] at p3
      obtain ⟨l3, f3⟩ := l2.upd b3 e3 p3
      obtain ⟨gw, gn⟩ := addCase_wf (v := nI v) hg h4 (rng_n ⟨r1.2.1, r1.2.2.1⟩ (by omega))
      obtain ⟨c, hc⟩ : ∃ c, c = pNc g := ⟨_, rfl⟩
      obtain ⟨ns, hns⟩ : ∃ ns, ns = pNs g := ⟨_, rfl⟩
      rw [← hc] at gn h4 ⊢
      rw [← hns] at n6 ⊢
      have gs : pNs (pdAddCase g (nI v)) = ns := by rw [hns]; rfl
      generalize pdAddCase g (nI v) = g1 at l3 gw gn gs ⊢
      obtain ⟨R, hR⟩ : ∃ R, R = needsP tp c ns 0 g1 (nxT tp (nxT tp s)) := ⟨_, rfl⟩
      rw [← hR]
      obtain ⟨q, i1, hq⟩ := iter_I (body := Tape_takeCase_b36 40 42 (nI v)) (fun j t => ∃ W gj sj, t = (nI j, hp W) ∧ liveC W tp gj sj ∧ frC w3 W ∧ (wfP gj ∧ pNs gj = ns ∧ pNc gj = c + 1) ∧ needsP tp c (ns - j) j gj sj = R) (fun q => (∃ i x W, q = .inl (i, x, hp W) ∧ R.2 = none ∧ resC W tp R ∧ frC w3 W) ∨ (∃ i W, q = .inr (i, hp W) ∧ R.2.isSome = true ∧ resC W tp R ∧ frC w3 W)) ns (s0 := (0, hp w3)) (by omega) ⟨w3, g1, _, rfl, l3, frC.rfl', ⟨gw, gs, gn⟩, hR.symm⟩ (by
        rintro j t hj ⟨W, gj, sj, rfl, lW, fW, ⟨wj, sj', cj⟩, hN⟩
        have m1 := (lW.n wj).2.1
        have m2 := (lW.n wj).2.2
        rw [sj'] at m1
        rw [cj] at m2
        have hcn : ¬ nI ns ≤ nI j := nI_ge hj (by omega)
        have pr : Tape_takeCase_b36 40 42 (nI v) (nI j, hp W) = (if ¬ kdA tp sj = 2 then some (Sum.inr (Sum.inr (nI j, hp W))) else bnd2 (Tape_takeNumber 40 0 20 (hp W)) fun x9 h8 => (if ¬ x9 = (-1) then (gfR h8 42 6 8).bind fun a10 => (gfI h8 42 6 2).bind fun x11 => (ast 0 h8 a10 (((x11 - 1) * 6) + nI j) x9).bind fun h12 => some (Sum.inl (nI j + 1, h12)) else some (Sum.inr (Sum.inl (nI j, x9, h8))))) := by
          unfold Tape_takeCase_b36
          dsimp only
          rw [c42_1, Option.bind_some, m1, if_neg hcn, c40_5, Option.bind_some, lW.2.2.1.2.2.2, k40, Option.bind_some]
        rw [show ns - j = (ns - (j + 1)) + 1 by omega] at hN
        by_cases hk : kdA tp sj = 2
        · cases e : nmP tp sj 0 20 with
          | none =>
            right
            rw [needsP_f hk e] at hN
            refine ⟨.inl (nI j, -1, hp W), ?_, .inl ⟨_, _, W, rfl, by rw [← hN], by rw [← hN]; exact lW.fail, fW⟩⟩
            rw [pr, if_neg (fun hh => hh hk), lW.num_none (lo := 0) (hi := 20) (by decide) (by decide) e, bnd2_some, if_neg (fun hh => hh rfl)]
          | some u =>
            left
            rw [needsP_s hk e] at hN
            have ru := nmP_some e
            obtain ⟨V, v1, lV, fV⟩ := lW.num_some (lo := 0) (hi := 20) (by decide) (by decide) e
            have m2' := (lV.n wj).2.2
            rw [cj] at m2'
            obtain ⟨U, u1, lU, fU⟩ := setneed_C (c := c) (k := j) (v := nI u) lV (by omega) (by omega)
            have ec : nI (c + 1) - 1 = nI c := nI_sb (b := 1) (by omega) (by omega)
            refine ⟨(nI (j + 1), hp U), ?_, U, _, _, rfl, lU, (fW.tr fV).tr fU, ⟨(gNeed_wf wj (by omega) (by omega) (rng_n ⟨ru.2.1, ru.2.2.1⟩ (by omega))).1, sj', cj⟩, hN⟩
            rw [pr, if_neg (fun hh => hh hk), v1, bnd2_some, if_pos (ne_m1 (by omega)), c42_8, Option.bind_some, c42_2, Option.bind_some, m2', ec, u1, Option.bind_some, nI_1]
        · right
          rw [needsP_n hk] at hN
          refine ⟨.inr (nI j, hp W), ?_, .inr ⟨_, W, rfl, by rw [← hN]; rfl, by rw [← hN]; exact lW, fW⟩⟩
          rw [pr, if_pos hk]) (by
        rintro t ⟨W, gj, sj, rfl, lW, fW, ⟨wj, sj', cj⟩, hN⟩
        have m1 := (lW.n wj).2.1
        rw [sj'] at m1
        rw [Nat.sub_self, needsP_0] at hN
        refine ⟨.inr (nI ns, hp W), ?_, .inr ⟨_, W, rfl, by rw [← hN]; rfl, by rw [← hN]; exact lW, fW⟩⟩
        unfold Tape_takeCase_b36
        dsimp only
        rw [c42_1, Option.bind_some, m1, if_pos (nI_le (Nat.le_refl _) (by omega))])
      have pre2 : Tape_takeCase 40 42 (hp w) = Sum.elim (fun (q36 : Int32 × Int32 × AHeap) => Tape_takeCase_j67 40 42 (nI v) q36.1 q36.2.1 q36.2.2) (fun (q36 : Int32 × AHeap) => Tape_takeCase_j93 40 42 (nI v) q36.1 q36.2) q := by
        rw [pre, a2, bnd2_some, if_pos (ne_m1 (by omega)), k42, Option.bind_some, a3, bnd2_some, i1, Option.bind_some]
      rcases hq with ⟨i, x, W, rfl, hn, hres, fW⟩ | ⟨i, W, rfl, hn, hres, fW⟩
      · refine ⟨W, ?_, hres, ((f1.tr f2).tr f3).tr fW⟩
        rw [pre2, Sum.elim_inl, hn]
        unfold Tape_takeCase_j67
        rw [bz0, Option.bind_some, Option.isSome_none, b2f]
      · refine ⟨W, ?_, hres, ((f1.tr f2).tr f3).tr fW⟩
        rw [pre2, Sum.elim_inr, hn]
        unfold Tape_takeCase_j93
        rw [bz1, Option.bind_some, b2t]
  · have hP : caseP tp g s = (s, none) := by simp only [caseP, if_neg h4]
    rw [hP]
    refine ⟨w, ?_, h.fail, frC.rfl'⟩
    unfold Tape_takeCase
    rw [c42_2, Option.bind_some, n2, if_neg (show ¬ nI (pNc g) < 4 from nI_nlt (b := 4) (by omega) (by omega)), bz0, Option.bind_some, Option.isSome_none, b2f]
theorem row_wt {r : List Int32} {v : Int32} (hg : wfP g) (h4 : pNc g < 4) (L : r.length = 1427) (hr : rowIs r g [] sr0) : rowIs (r.set (47 + pNc g) v) (unC (pNc g) (pdAddCase g v)) [] sr0 := by
  refine row_prog hr ?_ (fun k hk => by rw [gD_set, if_neg (by omega)])
  have e : nI (pNc g) = g.2.2.1 := hg.1.2.2.1.symm
  show _ = (g.1, g.2.1, nI (pNc g), g.2.2.2.1, g.2.2.2.2.1, g.2.2.2.2.2.1, g.2.2.2.2.2.2.1, g.2.2.2.2.2.2.2.1.set (pNc g) v, g.2.2.2.2.2.2.2.2)
  rw [e]
  obtain ⟨c, hc⟩ : ∃ c, c = pNc g := ⟨_, rfl⟩
  rw [← hc] at h4 ⊢
  rw [← hr.1]
  unfold mdG
  simp only
  rw [slc_off (a := 11) (by omega), slc_off (a := 15) (by omega), slc_off (a := 19) (by omega), slc_off (a := 23) (by omega), slc_on (by omega) (by omega), slc_off (a := 51) (by omega), gD_set, if_neg (by omega), gD_set, if_neg (by omega), gD_set, if_neg (by omega)]
theorem row_cnt {r : List Int32} {c : Nat} (L : r.length = 1427) (hr : rowIs r (unC c g) [] sr0) (e : g.2.2.1 = nI (c + 1)) : rowIs (r.set 2 (nI c + 1)) g [] sr0 := by
  refine row_prog hr ?_ (fun k hk => by rw [gD_set, if_neg (by omega)])
  rw [mdG_low (k := 2) (by omega), gD_set, gD_set, gD_set, if_neg (by omega), if_neg (by omega), if_pos ⟨rfl, by omega⟩, nI_1, ← e]
  have e0 : r.getD 0 0 = g.1 := by
    have : (mdG r).1 = (unC c g).1 := by rw [hr.1]
    exact this
  have e1 : r.getD 1 0 = g.2.1 := by
    have : (mdG r).2.1 = (unC c g).2.1 := by rw [hr.1]
    exact this
  rw [e0, e1, hr.1]
  rfl
theorem case_R (h : liveR w tp g s) (hg : wfP g) : ∃ w', Mod_caseLine 274 (hp w) = some ((), hp w') ∧ resR w' tp (caseP tp g s) ∧ frL w w' := by
  have n2 := (h.n hg).2.2
  have n4 := hg.1.2.2.2
  have n6 := hg.1.2.1.2
  by_cases h4 : pNc g < 4
  · have c4 : ¬ nI (pNc g) = 4 := fun hh => by have := (nI_eq (b := 4) (by omega) (by omega)).mp hh; omega
    obtain ⟨w1, a1, l1, f1⟩ := h.next
    have pre : Mod_caseLine 274 (hp w) = bnd2 (Mod_number 274 1 9 (hp w1)) fun x9 h8 => (ast 0 h8 279 (47 + nI (pNc g)) x9).bind fun h10 => (iter (Mod_caseLine_b51 274 (nI (pNc g))) Lmax (0, h10)).bind (fun (q51 : Int32 × AHeap) => Mod_caseLine_j102 274 (nI (pNc g)) q51.1 q51.2) := by
      unfold Mod_caseLine
      rw [c274_5, Option.bind_some, n2, Option.bind_some, if_pos c4]
      unfold Mod_caseLine_j14
      rw [c274_20, Option.bind_some, h.2.2.2.1, if_pos rfl, k274, Option.bind_some, a1, bnd2_some, c274_5, Option.bind_some, (l1.n hg).2.2, Option.bind_some, Option.bind_some, k274, Option.bind_some]
    obtain ⟨c, hc⟩ : ∃ c, c = pNc g := ⟨_, rfl⟩
    have hdead : ∀ (W : Wd) (i : Int32) (q : Nat), deadR W tp q → Mod_caseLine_b51 274 (nI c) (i, hp W) = some (.inr (i, hp W)) := by
      intro W i q hd
      unfold Mod_caseLine_b51
      dsimp only
      rw [c274_5, Option.bind_some, ldN hd.1 (i := 1) (j := 1) rfl (by omega), Option.bind_some]
      by_cases hx : (W.1 279).getD 1 0 ≤ i
      · rw [if_pos hx]
      · rw [if_neg hx, c274_20, Option.bind_some, hd.2.2.2.1, if_pos (by decide)]
    have hfin : ∀ (W : Wd) (i : Int32) (q : Nat), deadR W tp q → Mod_caseLine_j102 274 (nI c) i (hp W) = some ((), hp W) := by
      intro W i q hd
      unfold Mod_caseLine_j102
      rw [c274_20, Option.bind_some, hd.2.2.2.1, if_pos (by decide)]
      rfl
    cases e1 : nmP tp (nxT tp s) 1 9 with
    | none =>
      have hP : caseP tp g s = (nxT tp s, none) := by simp only [caseP, if_pos h4, e1]
      rw [hP]
      obtain ⟨w2, a2, l2, f2⟩ := l1.num_none (lo := 1) (hi := 9) (by decide) (by decide) e1
      obtain ⟨w3, a3, b3, c3, k3, e3⟩ := st_at (i := 47 + nI (pNc g)) (x := 0) (j := 47 + pNc g) l2.1 s279 (nI_add 47 _) (show 47 + pNc g < 1427 by omega) (by omega)
      obtain ⟨l3, f3⟩ := l2.upd b3 e3
      obtain ⟨q, i1, hq⟩ := iter_I (body := Mod_caseLine_b51 274 (nI c)) (fun j t => t = (0, hp w3)) (fun q => q = (0, hp w3)) 0 (s0 := (0, hp w3)) (by omega) rfl (by intro j t hj; omega) (by
        rintro t rfl
        exact ⟨_, hdead w3 0 _ l3, rfl⟩)
      subst hq
      refine ⟨w3, ?_, l3, (f1.tr f2).tr f3⟩
      rw [pre, a2, bnd2_some, a3, Option.bind_some, ← hc, i1, Option.bind_some]
      dsimp only
      rw [hfin w3 0 _ l3]
    | some v =>
      obtain ⟨w2, a2, l2, f2⟩ := l1.num_some (lo := 1) (hi := 9) (by decide) (by decide) e1
      have r1 := nmP_some e1
      have hP : caseP tp g s = needsP tp (pNc g) (pNs g) 0 (pdAddCase g (nI v)) (nxT tp (nxT tp s)) := by simp only [caseP, if_pos h4, e1]
      rw [hP]
      obtain ⟨w3, a3, b3, c3, k3, e3⟩ := st_at (i := 47 + nI (pNc g)) (x := nI v) (j := 47 + pNc g) l2.1 s279 (nI_add 47 _) (show 47 + pNc g < 1427 by omega) (by omega)
      obtain ⟨l3, f3⟩ := l2.upd b3 e3 (by rw [c3]; exact row_wt hg h4 (l279 l2.1) l2.2.2.2.2.2)
      obtain ⟨gw, gn⟩ := addCase_wf (v := nI v) hg h4 (rng_n ⟨r1.2.1, r1.2.2.1⟩ (by omega))
      obtain ⟨ns, hns⟩ : ∃ ns, ns = pNs g := ⟨_, rfl⟩
      rw [← hc] at gn h4 l3 a3 pre ⊢
      rw [← hns] at n6 ⊢
      have gs : pNs (pdAddCase g (nI v)) = ns := by rw [hns]; rfl
      generalize pdAddCase g (nI v) = g1 at l3 gw gn gs ⊢
      obtain ⟨R, hR⟩ : ∃ R, R = needsP tp c ns 0 g1 (nxT tp (nxT tp s)) := ⟨_, rfl⟩
      rw [← hR]
      obtain ⟨q, i1, hq⟩ := iter_I (body := Mod_caseLine_b51 274 (nI c)) (fun j t => (∃ W gj sj, t = (nI j, hp W) ∧ liveR W tp (unC c gj) sj ∧ frL w3 W ∧ (wfP gj ∧ pNs gj = ns ∧ pNc gj = c + 1) ∧ needsP tp c (ns - j) j gj sj = R) ∨ (∃ i W, t = (i, hp W) ∧ deadR W tp R.1 ∧ R.2 = none ∧ frL w3 W)) (fun q => (∃ i W gj, q = (i, hp W) ∧ liveR W tp (unC c gj) R.1 ∧ (wfP gj ∧ pNc gj = c + 1) ∧ R.2 = some gj ∧ frL w3 W) ∨ (∃ i W, q = (i, hp W) ∧ deadR W tp R.1 ∧ R.2 = none ∧ frL w3 W)) ns (s0 := (0, hp w3)) (by omega) (.inl ⟨w3, g1, _, rfl, l3, frL.rfl', ⟨gw, gs, gn⟩, hR.symm⟩) (by
        rintro j t hj (⟨W, gj, sj, rfl, lW, fW, ⟨wj, sj', cj⟩, hN⟩ | ⟨i, W, rfl, lW, hn, fW⟩)
        · have m1 : ald 0 (hp W) 279 1 = some (nI ns) := by
            have e := lW.2.2.2.2.2.1
            have : (mdG (W.1 279)).2.1 = (unC c gj).2.1 := by rw [e]
            have : (W.1 279).getD 1 0 = gj.2.1 := this
            rw [ldN lW.1 (i := 1) (j := 1) rfl (by omega), this, wj.1.2.1.1, sj']
          have hcn : ¬ nI ns ≤ nI j := nI_ge hj (by omega)
          have pr : Mod_caseLine_b51 274 (nI c) (nI j, hp W) = (if b2i (decide (kdA tp sj = 2)) = 0 then some (Sum.inr (nI j, hp W)) else bnd2 (Mod_number 274 0 20 (hp W)) fun x18 h17 => (ast 0 h17 279 ((51 + (6 * nI c)) + nI j) x18).bind fun h19 => some (Sum.inl (nI j + 1, h19))) := by
            unfold Mod_caseLine_b51
            dsimp only
            rw [c274_5, Option.bind_some, m1, Option.bind_some, if_neg hcn, c274_20, Option.bind_some, lW.2.2.2.1, if_neg (fun hh => hh rfl), k274, Option.bind_some, isNum_w lW.1 lW.2.1 lW.2.2.1, bnd2_some, c274_5, Option.bind_some, k274, Option.bind_some]
          rw [show ns - j = (ns - (j + 1)) + 1 by omega] at hN
          by_cases hk : kdA tp sj = 2
          · left
            cases e : nmP tp sj 0 20 with
            | none =>
              rw [needsP_f hk e] at hN
              obtain ⟨V, v1, lV, fV⟩ := lW.num_none (lo := 0) (hi := 20) (by decide) (by decide) e
              obtain ⟨U, u1, u2, u3, u4, u5⟩ := st_at (i := 51 + 6 * nI c + nI j) (x := 0) (j := 51 + 6 * c + j) lV.1 s279 (nI_abc 51 6 c j) (show 51 + 6 * c + j < 1427 by omega) (by omega)
              obtain ⟨lU, fU⟩ := lV.upd u2 u5
              refine ⟨(nI j + 1, hp U), ?_, .inr ⟨_, U, rfl, by rw [← hN]; exact lU, by rw [← hN], (fW.tr fV).tr fU⟩⟩
              rw [pr, bd_t hk, if_neg (by decide), v1, bnd2_some, u1, Option.bind_some]
            | some u =>
              rw [needsP_s hk e] at hN
              have ru := nmP_some e
              obtain ⟨V, v1, lV, fV⟩ := lW.num_some (lo := 0) (hi := 20) (by decide) (by decide) e
              obtain ⟨U, u1, u2, u3, u4, u5⟩ := st_at (i := 51 + 6 * nI c + nI j) (x := nI u) (j := 51 + 6 * c + j) lV.1 s279 (nI_abc 51 6 c j) (show 51 + 6 * c + j < 1427 by omega) (by omega)
              obtain ⟨lU, fU⟩ := lV.upd (g' := unC c (gNeed gj c j (nI u))) u2 u5 (by rw [u3]; exact row_need (l279 lV.1) (by omega) (by omega) lV.2.2.2.2.2)
              refine ⟨(nI (j + 1), hp U), ?_, .inl ⟨U, gNeed gj c j (nI u), _, rfl, lU, (fW.tr fV).tr fU, ⟨(gNeed_wf wj (by omega) (by omega) (rng_n ⟨ru.2.1, ru.2.2.1⟩ (by omega))).1, sj', cj⟩, hN⟩⟩
              rw [pr, bd_t hk, if_neg (by decide), v1, bnd2_some, u1, Option.bind_some, nI_1]
          · right
            rw [needsP_n hk] at hN
            refine ⟨(nI j, hp W), ?_, .inl ⟨_, W, gj, rfl, by rw [← hN]; exact lW, ⟨wj, cj⟩, by rw [← hN], fW⟩⟩
            rw [pr, bd_f hk, if_pos rfl]
        · right
          exact ⟨(i, hp W), hdead W i _ lW, .inr ⟨i, W, rfl, lW, hn, fW⟩⟩) (by
        rintro t (⟨W, gj, sj, rfl, lW, fW, ⟨wj, sj', cj⟩, hN⟩ | ⟨i, W, rfl, lW, hn, fW⟩)
        · have m1 : ald 0 (hp W) 279 1 = some (nI ns) := by
            have e := lW.2.2.2.2.2.1
            have : (mdG (W.1 279)).2.1 = (unC c gj).2.1 := by rw [e]
            have : (W.1 279).getD 1 0 = gj.2.1 := this
            rw [ldN lW.1 (i := 1) (j := 1) rfl (by omega), this, wj.1.2.1.1, sj']
          rw [Nat.sub_self, needsP_0] at hN
          refine ⟨(nI ns, hp W), ?_, .inl ⟨_, W, gj, rfl, by rw [← hN]; exact lW, ⟨wj, cj⟩, by rw [← hN], fW⟩⟩
          unfold Mod_caseLine_b51
          dsimp only
          rw [c274_5, Option.bind_some, m1, Option.bind_some, if_pos (nI_le (Nat.le_refl _) (by omega))]
        · exact ⟨(i, hp W), hdead W i _ lW, .inr ⟨i, W, rfl, lW, hn, fW⟩⟩)
      have pre2 : Mod_caseLine 274 (hp w) = Mod_caseLine_j102 274 (nI c) q.1 q.2 := by
        rw [pre, a2, bnd2_some, a3, Option.bind_some, i1, Option.bind_some]
      rcases hq with ⟨i, W, gj, rfl, lW, ⟨wj, cj⟩, hn, fW⟩ | ⟨i, W, rfl, lW, hn, fW⟩
      · have m2 : ald 0 (hp W) 279 2 = some (nI c) := by
          have e := lW.2.2.2.2.2.1
          have : (mdG (W.1 279)).2.2.1 = (unC c gj).2.2.1 := by rw [e]
          have : (W.1 279).getD 2 0 = nI c := this
          rw [ldN lW.1 (i := 2) (j := 2) rfl (by omega), this]
        obtain ⟨U, u1, u2, u3, u4, u5⟩ := st_at (i := 2) (x := nI c + 1) (j := 2) lW.1 s279 rfl (by decide) (by omega)
        obtain ⟨lU, fU⟩ := lW.upd (g' := gj) u2 u5 (by rw [u3]; exact row_cnt (l279 lW.1) lW.2.2.2.2.2 (by rw [← cj]; exact wj.1.2.2.1))
        refine ⟨U, ?_, ?_, (((f1.tr f2).tr f3).tr fW).tr fU⟩
        · rw [pre2]
          unfold Mod_caseLine_j102
          dsimp only
          rw [c274_20, Option.bind_some, lW.2.2.2.1, if_neg (fun hh => hh rfl), c274_5, Option.bind_some, m2, Option.bind_some, u1, Option.bind_some]
          rfl
        · unfold resR
          rw [hn]
          exact lU
      · refine ⟨W, ?_, ?_, ((f1.tr f2).tr f3).tr fW⟩
        · rw [pre2]
          dsimp only
          rw [hfin W i _ lW]
        · unfold resR
          rw [hn]
          exact lW
  · have hP : caseP tp g s = (s, none) := by simp only [caseP, if_neg h4]
    rw [hP]
    have e4 : pNc g = 4 := by omega
    obtain ⟨w1, a1, l1, f1, _⟩ := h.wrong
    refine ⟨w1, ?_, l1, f1⟩
    unfold Mod_caseLine
    rw [c274_5, Option.bind_some, n2, Option.bind_some, e4, if_neg (fun hh => hh rfl), k274, Option.bind_some, a1, bnd2_some]
    unfold Mod_caseLine_j14
    rw [c274_20, Option.bind_some, l1.2.2.2.1, if_neg (by decide)]
end LC
