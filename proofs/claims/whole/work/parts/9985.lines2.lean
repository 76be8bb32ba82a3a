/-! road lines -/
theorem row_road {r : List Int32} {g : PD} {p q : Nat} {v : Int32} (L : r.length = 1427) (hp' : p < 4) (hq : q < 6) (hr : rowIs r g [] sr0) : rowIs (r.set (23 + 6 * p + q) v) (gRoad g p q v) [] sr0 := by
  refine row_prog hr ?_ (fun k hk => by rw [gD_set, if_neg (by omega)])
  rw [show 23 + 6 * p + q = 23 + (p * 6 + q) by omega, ← hr.1]
  unfold gRoad mdG
  simp only
  rw [slc_off (a := 11) (by omega), slc_off (a := 15) (by omega), slc_off (a := 19) (by omega), slc_on (by omega) (by omega), slc_off (a := 47) (by omega), slc_off (a := 51) (by omega), gD_set, if_neg (by omega), gD_set, if_neg (by omega), gD_set, if_neg (by omega)]
theorem row_need {r : List Int32} {g : PD} {c k : Nat} {v : Int32} (L : r.length = 1427) (hc : c < 4) (hk : k < 6) (hr : rowIs r g [] sr0) : rowIs (r.set (51 + 6 * c + k) v) (gNeed g c k v) [] sr0 := by
  refine row_prog hr ?_ (fun k hk => by rw [gD_set, if_neg (by omega)])
  rw [show 51 + 6 * c + k = 51 + (c * 6 + k) by omega, ← hr.1]
  unfold gNeed mdG
  simp only
  rw [slc_off (a := 11) (by omega), slc_off (a := 15) (by omega), slc_off (a := 19) (by omega), slc_off (a := 23) (by omega), slc_off (a := 47) (by omega), slc_on (by omega) (by omega), gD_set, if_neg (by omega), gD_set, if_neg (by omega), gD_set, if_neg (by omega)]
theorem m1_i {n : Nat} (h : n ≤ 1000) : (nI n - 1).toInt = (n : Int) - 1 := by
  have t1 : (1 : Int32).toInt = 1 := rfl
  rw [ti_sub (by rw [nI_toInt (by omega), t1]; omega) (by rw [nI_toInt (by omega), t1]; omega), nI_toInt (by omega), t1]
theorem pd_at {w w' : Wd} {a : Nat} {l : List Int32} (ha : a < 49) (hA : w'.1 a = l) (h2 : w'.2 = w.2) (hF : Fr w w' a (a + 1)) : ∀ i, w'.1 i = if i = a then l else w.1 i := by
  intro i
  by_cases h : i = a
  · rw [if_pos h, h, hA]
  · rw [if_neg h, (hF i (by omega)).1]
section LC
variable {w : Wd} {tp : List Int32} {g : PD} {s : Nat}
theorem toll_C {p q : Nat} (h : liveC w tp g s) (hp' : p < 4) (hq : q < 6) : ald 0 (hp w) 46 (nI p * 6 + nI q) = some (pToll g p q) := by
  rw [ald_w (j := p * 6 + q) s46 (nI_m6 p q) (by rw [l46 h.1]; omega) (by omega), ← h.2.2.2]
  rfl
theorem setroad_C {p q : Nat} {v : Int32} (h : liveC w tp g s) (hp' : p < 4) (hq : q < 6) : ∃ w', ast 0 (hp w) 46 (nI p * 6 + nI q) v = some (hp w') ∧ liveC w' tp (gRoad g p q v) s ∧ frC w w' := by
  obtain ⟨w2, a2, b2, c2, k2', e2⟩ := st_at (i := nI p * 6 + nI q) (x := v) (j := p * 6 + q) h.1 s46 (nI_m6 p q) (show p * 6 + q < 24 by omega) (by omega)
  have p2 : pdW w2 42 = gRoad g p q v := by
    rw [← h.2.2.2]
    unfold pdW gRoad
    simp only
    rw [k2', (e2 (42 + 1) (by omega)).1, (e2 (42 + 2) (by omega)).1, (e2 (42 + 3) (by omega)).1, (e2 (42 + 5) (by omega)).1, (e2 (42 + 6) (by omega)).1, show (42 + 4 : Nat) = 46 from rfl, c2]
  obtain ⟨l, f⟩ := h.upd b2 (e2.mono (by omega) (by omega)) p2
  exact ⟨w2, a2, l, f⟩
theorem setneed_C {c k : Nat} {v : Int32} (h : liveC w tp g s) (hc : c < 4) (hk : k < 6) : ∃ w', ast 0 (hp w) 48 (nI c * 6 + nI k) v = some (hp w') ∧ liveC w' tp (gNeed g c k v) s ∧ frC w w' := by
  obtain ⟨w2, a2, b2, c2, k2', e2⟩ := st_at (i := nI c * 6 + nI k) (x := v) (j := c * 6 + k) h.1 s48 (nI_m6 c k) (show c * 6 + k < 24 by omega) (by omega)
  have p2 : pdW w2 42 = gNeed g c k v := by
    rw [← h.2.2.2]
    unfold pdW gNeed
    simp only
    rw [k2', (e2 (42 + 1) (by omega)).1, (e2 (42 + 2) (by omega)).1, (e2 (42 + 3) (by omega)).1, (e2 (42 + 4) (by omega)).1, (e2 (42 + 5) (by omega)).1, show (42 + 6 : Nat) = 48 from rfl, c2]
  obtain ⟨l, f⟩ := h.upd b2 (e2.mono (by omega) (by omega)) p2
  exact ⟨w2, a2, l, f⟩
theorem rj57 {a b : Int32} {h : AHeap} : Tape_takeRoad_j57 40 42 a b h = some (0, h) := by
  unfold Tape_takeRoad_j57
  rw [bz0, Option.bind_some]
theorem road_C (h : liveC w tp g s) (hg : wfP g) : ∃ w', Tape_takeRoad 40 42 (hp w) = some (b2i (roadP tp g s).2.isSome, hp w') ∧ resC w' tp (roadP tp g s) ∧ frC w w' := by
  have n4 := hg.1.1.2
  have n6 := hg.1.2.1.2
  obtain ⟨w1, a1, l1, f1⟩ := h.next
  have hx0 := m1_i (n := pNp g) (by omega)
  have hx1 := m1_i (n := pNs g) (by omega)
  have pre : Tape_takeRoad 40 42 (hp w) = bnd2 (Tape_takeNumber 40 0 (nI (pNp g) - 1) (hp w1)) fun x4 h3 => (if ¬ x4 = (-1) then (gfI h3 42 6 1).bind fun x5 => (chk h3 40 9).bind fun _ => bnd2 (Tape_peekNumber 40 0 (x5 - 1) h3) fun x7 h6 => Tape_takeRoad_j36 40 42 x4 x7 h6 else Tape_takeRoad_j36 40 42 x4 (-1) h3) := by
    unfold Tape_takeRoad
    rw [k40, Option.bind_some, a1, bnd2_some, c42_0, Option.bind_some, (l1.n hg).1, k40, Option.bind_some]
  cases e1 : nmP tp (nxT tp s) 0 ((pNp g : Int) - 1) with
  | none =>
    have hP : roadP tp g s = (nxT tp s, none) := by simp only [roadP, e1]
    rw [hP]
    refine ⟨w1, ?_, l1.fail, f1⟩
    rw [pre, l1.num_none (lo := 0) (hi := nI (pNp g) - 1) (by decide) (by omega) (by rw [hx0]; exact e1), bnd2_some, if_neg (fun hh => hh rfl)]
    unfold Tape_takeRoad_j36
    rw [if_pos rfl, rj57, Option.isSome_none, b2f]
  | some p =>
    obtain ⟨w2, a2, l2, f2⟩ := l1.num_some (lo := 0) (hi := nI (pNp g) - 1) (by decide) (by omega) (by rw [hx0]; exact e1)
    have r1 := nmP_some e1
    have pk := peek_w (lo := 0) (hi := nI (pNs g) - 1) l2.1 l2.2.1 l2.2.2.1 (by decide) (by omega)
    rw [hx1, ti_0] at pk
    cases e2 : nmP tp (nxT tp (nxT tp s)) 0 ((pNs g : Int) - 1) with
    | none =>
      have hP : roadP tp g s = (nxT tp (nxT tp s), none) := by simp only [roadP, e1, e2]
      rw [hP]
      rw [e2] at pk
      refine ⟨w2, ?_, l2.fail, f1.tr f2⟩
      rw [pre, a2, bnd2_some, if_pos (ne_m1 (by omega)), c42_1, Option.bind_some, (l2.n hg).2.1, k40, Option.bind_some, pk, bnd2_some]
      unfold Tape_takeRoad_j36
      rw [if_pos (show nmI none = -1 from rfl), rj57, Option.isSome_none, b2f]
    | some q =>
      rw [e2] at pk
      have r2 := nmP_some e2
      have tl := toll_C (p := p) (q := q) l2 (by omega) (by omega)
      have pre2 : Tape_takeRoad 40 42 (hp w) = (if pToll g p q = (-1) then (chk (hp w2) 40 9).bind fun _ => bnd2 (Tape_step 40 (hp w2)) fun _ h10 => (chk h10 40 9).bind fun _ => bnd2 (Tape_takeNumber 40 0 99 h10) fun x12 h11 => (gfR h11 42 6 6).bind fun a13 => (ast 0 h11 a13 ((nI p * 6) + nI q) x12).bind fun h14 => (if x12 = (-1) then Tape_takeRoad_j96 40 42 (nI p) (nI q) x12 0 h14 else Tape_takeRoad_j96 40 42 (nI p) (nI q) x12 1 h14) else Tape_takeRoad_j57 40 42 (nI p) (nI q) (hp w2)) := by
        rw [pre, a2, bnd2_some, if_pos (ne_m1 (by omega)), c42_1, Option.bind_some, (l2.n hg).2.1, k40, Option.bind_some, pk, bnd2_some]
        unfold Tape_takeRoad_j36
        rw [show nmI (some q) = nI q from rfl, if_neg (ne_m1 (by omega)), c42_6, Option.bind_some, tl, Option.bind_some, k40]
      by_cases ht : pToll g p q = -1
      · obtain ⟨w3, a3, l3, f3⟩ := l2.next
        cases e3 : nmP tp (nxT tp (nxT tp (nxT tp s))) 0 99 with
        | none =>
          have hP : roadP tp g s = (nxT tp (nxT tp (nxT tp s)), none) := by simp only [roadP, e1, e2, if_pos ht, e3]
          rw [hP]
          obtain ⟨w4, a4, l4, f4⟩ := setroad_C (p := p) (q := q) (v := -1) l3 (by omega) (by omega)
          refine ⟨w4, ?_, l4.fail, ((f1.tr f2).tr f3).tr f4⟩
          rw [pre2, if_pos ht, k40, Option.bind_some, a3, bnd2_some, k40, Option.bind_some, l3.num_none (lo := 0) (hi := 99) (by decide) (by decide) e3, bnd2_some, c42_6, Option.bind_some, a4, Option.bind_some, if_pos rfl]
          unfold Tape_takeRoad_j96
          rw [bz0, Option.bind_some, Option.isSome_none, b2f]
        | some t =>
          obtain ⟨w4, a4, l4, f4⟩ := l3.num_some (lo := 0) (hi := 99) (by decide) (by decide) e3
          have r3 := nmP_some e3
          have hP : roadP tp g s = (nxT tp (nxT tp (nxT tp (nxT tp s))), some (gRoad g p q (nI t))) := by simp only [roadP, e1, e2, if_pos ht, e3]
          rw [hP]
          obtain ⟨w5, a5, l5, f5⟩ := setroad_C (p := p) (q := q) (v := nI t) l4 (by omega) (by omega)
          refine ⟨w5, ?_, l5, (((f1.tr f2).tr f3).tr f4).tr f5⟩
          rw [pre2, if_pos ht, k40, Option.bind_some, a3, bnd2_some, k40, Option.bind_some, a4, bnd2_some, c42_6, Option.bind_some, a5, Option.bind_some, if_neg (ne_m1 (by omega))]
          unfold Tape_takeRoad_j96
          rw [bz1, Option.bind_some, Option.isSome_some, b2t]
      · have hP : roadP tp g s = (nxT tp (nxT tp s), none) := by simp only [roadP, e1, e2, if_neg ht]
        rw [hP]
        refine ⟨w2, ?_, l2.fail, f1.tr f2⟩
        rw [pre2, if_neg ht, rj57, Option.isSome_none, b2f]
theorem liveR.kill (h : liveR w tp g s) (x : Nat) : ∃ w1 w2, pfV (hp w) 274 11 10 (.int (nI x)) = some (hp w1) ∧ pfV (hp w1) 274 11 20 (.int 1) = some (hp w2) ∧ deadR w2 tp x ∧ frL w w2 := by
  obtain ⟨h1, h2, h3, h4, h5, h6⟩ := h
  obtain ⟨w1, a1, b1, c1, d1, d1', e1⟩ := pf_eq (x := nI x) h1 p274_10
  obtain ⟨w2, a2, b2, c2, d2, d2', e2⟩ := pf_eq (x := 1) b1 p274_20
  have hk : ∀ k, k ≠ 10 → k ≠ 20 → w2.2 274 k = w.2 274 k := fun k k1 k2 => by rw [d2' k k2, d1' k k1]
  have f : frL w w2 := ⟨fun i _ => by rw [c2, c1], fun k k1 _ _ k2 => hk k k1 k2, fun i hi _ => by rw [(e2 i (by omega)).2, (e1 i (by omega)).2]⟩
  exact ⟨w1, w2, a1, a2, ⟨b2, f.tpR h2, ⟨s, h3.1, by rw [hk 18 (by omega) (by omega)]; exact h3.2.1, by rw [hk 19 (by omega) (by omega)]; exact h3.2.2⟩, d2, by rw [d2' 10 (by omega), d1]⟩, f⟩
theorem road_R (h : liveR w tp g s) (hg : wfP g) : ∃ w', Mod_roadLine 274 (hp w) = some ((), hp w') ∧ resR w' tp (roadP tp g s) ∧ frL w w' := by
  have n4 := hg.1.1.2
  have n6 := hg.1.2.1.2
  obtain ⟨w1, a1, l1, f1⟩ := h.next
  have hx0 := m1_i (n := pNp g) (by omega)
  have hx1 := m1_i (n := pNs g) (by omega)
  have pre : Mod_roadLine 274 (hp w) = bnd2 (Mod_number 274 0 (nI (pNp g) - 1) (hp w1)) fun x5 h4 => (gfI h4 274 11 20).bind fun x6 => (if x6 = 0 then (gfI h4 274 11 18).bind fun x7 => (gfR h4 274 11 5).bind fun a8 => (ald 0 h4 a8 1).bind fun x9 => (chk h4 274 11).bind fun _ => bnd2 (Mod_number 274 0 (x9 - 1) h4) fun x11 h10 => (gfI h10 274 11 20).bind fun x12 => (if ¬ x12 = 0 then Mod_roadLine_j72 274 x5 x7 x11 h10 else (chk h10 274 11).bind fun _ => bnd2 (Mod_toll 274 x5 x11 h10) fun x19 h18 => (if x19 = (-1) then Mod_roadLine_j72 274 x5 x7 x11 h18 else (pfV h18 274 11 10 (.int x7)).bind fun h20 => (bz 1).bind fun x22 => (pfV h20 274 11 20 (.int x22)).bind fun h21 => Mod_roadLine_j72 274 x5 x7 x11 h21)) else some ((), h4)) := by
    unfold Mod_roadLine
    rw [k274, Option.bind_some, a1, bnd2_some, c274_5, Option.bind_some, (l1.n hg).1, Option.bind_some, k274, Option.bind_some]
  have j72d : ∀ (W : Wd) (a b c : Int32) (q : Nat), deadR W tp q → Mod_roadLine_j72 274 a b c (hp W) = some ((), hp W) := by
    intro W a b c q hd
    unfold Mod_roadLine_j72
    rw [k274, Option.bind_some, hd.num, bnd2_some, c274_20, Option.bind_some, hd.2.2.2.1, if_pos (by decide)]
    rfl
  cases e1 : nmP tp (nxT tp s) 0 ((pNp g : Int) - 1) with
  | none =>
    have hP : roadP tp g s = (nxT tp s, none) := by simp only [roadP, e1]
    rw [hP]
    obtain ⟨w2, a2, l2, f2⟩ := l1.num_none (lo := 0) (hi := nI (pNp g) - 1) (by decide) (by omega) (by rw [hx0]; exact e1)
    refine ⟨w2, ?_, l2, f1.tr f2⟩
    rw [pre, a2, bnd2_some, c274_20, Option.bind_some, l2.2.2.2.1, if_neg (by decide)]
  | some p =>
    obtain ⟨w2, a2, l2, f2⟩ := l1.num_some (lo := 0) (hi := nI (pNp g) - 1) (by decide) (by omega) (by rw [hx0]; exact e1)
    have r1 := nmP_some e1
    cases e2 : nmP tp (nxT tp (nxT tp s)) 0 ((pNs g : Int) - 1) with
    | none =>
      have hP : roadP tp g s = (nxT tp (nxT tp s), none) := by simp only [roadP, e1, e2]
      rw [hP]
      obtain ⟨w3, a3, l3, f3⟩ := l2.num_none (lo := 0) (hi := nI (pNs g) - 1) (by decide) (by omega) (by rw [hx1]; exact e2)
      refine ⟨w3, ?_, l3, (f1.tr f2).tr f3⟩
      rw [pre, a2, bnd2_some, c274_20, Option.bind_some, l2.2.2.2.1, if_pos rfl, c274_18, Option.bind_some, c274_5, Option.bind_some, (l2.n hg).2.1, Option.bind_some, k274, Option.bind_some, a3, bnd2_some, c274_20, Option.bind_some, l3.2.2.2.1, if_pos (by decide), j72d _ _ _ _ _ l3]
    | some q =>
      obtain ⟨w3, a3, l3, f3⟩ := l2.num_some (lo := 0) (hi := nI (pNs g) - 1) (by decide) (by omega) (by rw [hx1]; exact e2)
      have r2 := nmP_some e2
      have tl := Mod_toll_w (p := p) (s := q) l3.1 (by omega) (by omega)
      rw [l3.2.2.2.2.2.1] at tl
      have pre2 : Mod_roadLine 274 (hp w) = (if pToll g p q = (-1) then Mod_roadLine_j72 274 (nI p) (nI (nxT tp (nxT tp s))) (nI q) (hp w3) else (pfV (hp w3) 274 11 10 (.int (nI (nxT tp (nxT tp s))))).bind fun h20 => (bz 1).bind fun x22 => (pfV h20 274 11 20 (.int x22)).bind fun h21 => Mod_roadLine_j72 274 (nI p) (nI (nxT tp (nxT tp s))) (nI q) h21) := by
        rw [pre, a2, bnd2_some, c274_20, Option.bind_some, l2.2.2.2.1, if_pos rfl, c274_18, Option.bind_some, l2.2.2.1.2.1, c274_5, Option.bind_some, (l2.n hg).2.1, Option.bind_some, k274, Option.bind_some, a3, bnd2_some, c274_20, Option.bind_some, l3.2.2.2.1, if_neg (fun hh => hh rfl), k274, Option.bind_some, tl, bnd2_some]
      by_cases ht : pToll g p q = -1
      · cases e3 : nmP tp (nxT tp (nxT tp (nxT tp s))) 0 99 with
        | none =>
          have hP : roadP tp g s = (nxT tp (nxT tp (nxT tp s)), none) := by simp only [roadP, e1, e2, if_pos ht, e3]
          rw [hP]
          obtain ⟨w4, a4, l4, f4⟩ := l3.num_none (lo := 0) (hi := 99) (by decide) (by decide) e3
          refine ⟨w4, ?_, l4, ((f1.tr f2).tr f3).tr f4⟩
          rw [pre2, if_pos ht]
          unfold Mod_roadLine_j72
          rw [k274, Option.bind_some, a4, bnd2_some, c274_20, Option.bind_some, l4.2.2.2.1, if_pos (by decide)]
          rfl
        | some t =>
          obtain ⟨w4, a4, l4, f4⟩ := l3.num_some (lo := 0) (hi := 99) (by decide) (by decide) e3
          have hP : roadP tp g s = (nxT tp (nxT tp (nxT tp (nxT tp s))), some (gRoad g p q (nI t))) := by simp only [roadP, e1, e2, if_pos ht, e3]
          rw [hP]
          obtain ⟨w5, a5, b5, c5, k5, e5⟩ := st_at (i := 23 + 6 * nI p + nI q) (x := nI t) (j := 23 + 6 * p + q) l4.1 s279 (nI_abc 23 6 p q) (show 23 + 6 * p + q < 1427 by omega) (by omega)
          obtain ⟨l5, f5⟩ := l4.upd b5 e5 (by rw [c5]; exact row_road (l279 l4.1) (by omega) (by omega) l4.2.2.2.2.2)
          refine ⟨w5, ?_, l5, (((f1.tr f2).tr f3).tr f4).tr f5⟩
          rw [pre2, if_pos ht]
          unfold Mod_roadLine_j72
          rw [k274, Option.bind_some, a4, bnd2_some, c274_20, Option.bind_some, l4.2.2.2.1, if_neg (fun hh => hh rfl), c274_5, Option.bind_some, a5, Option.bind_some]
          rfl
      · have hP : roadP tp g s = (nxT tp (nxT tp s), none) := by simp only [roadP, e1, e2, if_neg ht]
        rw [hP]
        obtain ⟨w4, w5, a4, a5, l5, f5⟩ := l3.kill (nxT tp (nxT tp s))
        refine ⟨w5, ?_, l5, ((f1.tr f2).tr f3).tr f5⟩
        rw [pre2, if_neg ht, a4, Option.bind_some, bz1, Option.bind_some, a5, Option.bind_some, j72d _ _ _ _ _ l5]
end LC
