/-! feed, end -/
theorem and255i (y : Int32) : (y &&& 255).toInt = y.toInt % 256 := by
  have h1 : (y &&& 255).toBitVec.toNat = y.toBitVec.toNat % 256 := by
    rw [Int32.toBitVec_and, BitVec.toNat_and]
    exact Nat.and_two_pow_sub_one_eq_mod _ 8
  have h2 : (y &&& 255).toInt = (y &&& 255).toBitVec.toInt := rfl
  have h3 : y.toInt = y.toBitVec.toInt := rfl
  have h4 := y.toBitVec.isLt
  rw [h2, h3, BitVec.toInt_eq_toNat_cond, BitVec.toInt_eq_toNat_cond, h1]
  generalize y.toBitVec.toNat = n at h4
  split <;> split <;> omega
theorem nar_2 (y : Int32) : nar 2 y = y.toInt8.toInt32 := rfl
theorem bt_y (y : Int32) : btR (nar 2 y.toInt8.toInt32) (y &&& 255) := by
  have e : (nar 2 y.toInt8.toInt32).toInt = (y.toInt.bmod (2 ^ 8)) := by
    rw [nar_2, Int8.toInt_toInt32, Int32.toInt_toInt8, Int8.toInt_toInt32, Int32.toInt_toInt8, Int.bmod_bmod]
  have e8 : (2 : Nat) ^ 8 = 256 := by decide
  rw [e8] at e
  unfold btR
  rw [and255i, e]
  have hm := Int.emod_nonneg y.toInt (show (256 : Int) ≠ 0 by decide)
  have hm2 := Int.emod_lt_of_pos y.toInt (show (0 : Int) < 256 by decide)
  refine ⟨by omega, by omega, ?_⟩
  unfold Int.bmod
  show (if y.toInt % ((256 : Nat) : Int) < (((256 : Nat) : Int) + 1) / 2 then y.toInt % ((256 : Nat) : Int) else y.toInt % ((256 : Nat) : Int) - ((256 : Nat) : Int)) = _
  by_cases h : y.toInt % 256 < 128
  · rw [if_pos h, if_pos (by omega)]; rfl
  · rw [if_neg h, if_neg (by omega)]; rfl
def byB (v : Int32) (i : Nat) : Int32 := (v >>> nI (24 - 8 * i)) &&& 255
def by4 (v : Int32) : List Int32 := [byB v 0, byB v 1, byB v 2, byB v 3]
theorem by4_take {v : Int32} {j : Nat} (h : j < 4) : (by4 v).take (j + 1) = (by4 v).take j ++ [byB v j] := by
  have : j = 0 ∨ j = 1 ∨ j = 2 ∨ j = 3 := by omega
  rcases this with rfl | rfl | rfl | rfl <;> rfl
theorem app_gD {l : List Int32} {d : Int32} {k : Nat} : (l ++ [d]).getD k 0 = if k = l.length then d else l.getD k 0 := by
  rw [List.getD_eq_getElem?_getD, List.getD_eq_getElem?_getD]
  by_cases h : k < l.length
  · rw [List.getElem?_append_left h, if_neg (by omega)]
  · by_cases h2 : k = l.length
    · rw [if_pos h2, List.getElem?_append_right (by omega), h2, Nat.sub_self]; rfl
    · rw [if_neg h2, List.getElem?_append_right (by omega), List.getElem?_eq_none (by show 1 ≤ _; omega), List.getElem?_eq_none (by omega)]
theorem st_at2 {w : Wd} {a j : Nat} {i x : Int32} (hw : WL w) (h : shp[a]? = some (.inr (.inl 2))) (hi : i = nI j) (hj : j < lenT.getD a 0) (hb : j < 2 ^ 31) : ∃ V, ast 2 (hp w) a i x = some (hp V) ∧ WL V ∧ V.1 a = (w.1 a).set j (nar 2 x) ∧ V.2 = w.2 ∧ Fr w V a (a + 1) := by
  refine ⟨_, ast_w h hi (by rw [hw a]; exact hj) hb, hw.A (by rw [List.length_set]; exact hw a), ?_, rfl, Fr.A (by omega) (by omega)⟩
  show (if a = a then (w.1 a).set j (nar 2 x) else w.1 a) = _
  exact if_pos rfl
theorem sh_C : ∀ j : Fin 4, ((24 : Int32) - (8 * nI j.1)) &&& 31 = nI (24 - 8 * j.1) := by decide +kernel
theorem Tape_append_w {w : Wd} {tp : List Int32} {ft v : Int32} (hw : WL w) (hT : clsT w tp ft) (hn : tp.length + 4 ≤ 400) : ∃ w', Tape_append 40 v (hp w) = some ((), hp w') ∧ WL w' ∧ clsT w' (tp ++ by4 v) ft ∧ Fr w w' 40 49 := by
  obtain ⟨q, i1, W, rfl, hW, hTW, hF⟩ := iter_I (body := Tape_append_b2 40 v) (fun j s => ∃ W, s = (nI j, hp W) ∧ WL W ∧ clsT W (tp ++ (by4 v).take j) ft ∧ Fr w W 40 49) (fun r => ∃ W, r = (nI 4, hp W) ∧ WL W ∧ clsT W (tp ++ by4 v) ft ∧ Fr w W 40 49) 4 (s0 := (0, hp w)) (by omega) ⟨w, rfl, hw, by rw [List.take_zero, List.append_nil]; exact hT, Fr.rfl'⟩ (by
    rintro j s hj ⟨W, rfl, hW, hTW, hF⟩
    left
    have hcn : ¬ (4 : Int32) ≤ nI j := nI_ge (b := 4) hj (by omega)
    obtain ⟨L, hL⟩ : ∃ L, L = tp ++ (by4 v).take j := ⟨_, rfl⟩
    have hlen : L.length = tp.length + j := by
      rw [hL, List.length_append, List.length_take]
      show tp.length + min j 4 = _
      omega
    rw [← hL] at hTW
    obtain ⟨t1, t2, t3, t4⟩ := hTW
    have hc2 : ¬ (400 : Int32) ≤ nI L.length := nI_ge (b := 400) (by omega) (by omega)
    obtain ⟨V, v1, v2, v3, v4, v5⟩ := st_at2 (i := nI L.length) (x := (v >>> nI (24 - 8 * j)).toInt8.toInt32) (j := L.length) hW s41 rfl (show L.length < 400 by omega) (by omega)
    have g1 : V.2 40 1 = nI L.length := by rw [v4, t1]
    obtain ⟨U, u1, u2, u3, u4, u5, u6⟩ := pf_eq (x := nI L.length + 1) v2 p40_1
    refine ⟨(nI (j + 1), hp U), ?_, U, rfl, u2, ?_, hF.tr ((v5.mono (by omega) (by omega)).tr (u6.mono (by omega) (by omega)))⟩
    · unfold Tape_append_b2
      dsimp only
      rw [if_neg hcn, c40_1, Option.bind_some, t1, if_neg hc2, c40_0, Option.bind_some, Option.bind_some, sh_C ⟨j, hj⟩, v1, Option.bind_some, c40_1, Option.bind_some, g1, u1, Option.bind_some, nI_1]
    · rw [by4_take hj, ← List.append_assoc, ← hL]
      refine ⟨by rw [u4, nI_1, List.length_append]; rfl, by rw [List.length_append]; show L.length + 1 ≤ 400; omega, fun k hk => ?_, by rw [u5 2 (by omega), v4]; exact t4⟩
      rw [List.length_append] at hk
      have hk : k < L.length + 1 := hk
      rw [u3, v3, gD_set, app_gD, l41 hW]
      by_cases e : k = L.length
      · rw [if_pos ⟨e.symm, by omega⟩, if_pos e]
        exact bt_y _
      · rw [if_neg (fun hh => e hh.1.symm), if_neg e]
        exact t3 k (by omega)) (by
    rintro s ⟨W, rfl, hW, hTW, hF⟩
    refine ⟨(nI 4, hp W), ?_, W, rfl, hW, hTW, hF⟩
    unfold Tape_append_b2
    dsimp only
    rw [if_pos (show (4 : Int32) ≤ nI 4 by decide)])
  refine ⟨W, ?_, hW, hTW, hF⟩
  unfold Tape_append Tape_append_j52
  rw [i1, Option.bind_some]
def frY (w w' : Wd) : Prop := (∀ i, i ≠ 282 → w'.1 i = w.1 i) ∧ (∀ k, k ≠ 9 → w'.2 274 k = w.2 274 k) ∧ ∀ i, i ≠ 274 → i ≠ 282 → w'.2 i = w.2 i
theorem frY.rfl' {w : Wd} : frY w w := ⟨fun _ _ => rfl, fun _ _ => rfl, fun _ _ _ => rfl⟩
theorem frY.tr {w w' w'' : Wd} (h : frY w w') (h' : frY w' w'') : frY w w'' := ⟨fun i a => (h'.1 i a).trans (h.1 i a), fun k a => (h'.2.1 k a).trans (h.2.1 k a), fun i a b => (h'.2.2 i a b).trans (h.2.2 i a b)⟩
def shR (j : Nat) : Int32 := 24 - 8 * nI j
theorem sh_R1 : ∀ j : Fin 4, ¬ shR j.1 < 0 ∧ shR j.1 &&& 31 = nI (24 - 8 * j.1) ∧ shR j.1 + (-8) = shR (j.1 + 1) := by unfold shR; decide +kernel
theorem Mod_types_w {w : Wd} {tp : List Int32} {ft v : Int32} (hw : WL w) (hT : refT w tp ft) (hn : tp.length + 4 ≤ 400) : ∃ w', Mod_types 274 v (hp w) = some ((), hp w') ∧ WL w' ∧ refT w' (tp ++ by4 v) ft ∧ frY w w' := by
  obtain ⟨q, i1, W, rfl, hW, hTW, hF⟩ := iter_I (body := Mod_types_b3 274 v) (fun j s => ∃ W, s = (shR j, hp W) ∧ WL W ∧ refT W (tp ++ (by4 v).take j) ft ∧ frY w W) (fun r => ∃ W, r = (shR 4, hp W) ∧ WL W ∧ refT W (tp ++ by4 v) ft ∧ frY w W) 4 (s0 := (24, hp w)) (by omega) ⟨w, by rw [show shR 0 = 24 by decide +kernel], hw, by rw [List.take_zero, List.append_nil]; exact hT, frY.rfl'⟩ (by
    rintro j s hj ⟨W, rfl, hW, hTW, hF⟩
    left
    obtain ⟨s1, s2, s3⟩ := sh_R1 ⟨j, hj⟩
    obtain ⟨L, hL⟩ : ∃ L, L = tp ++ (by4 v).take j := ⟨_, rfl⟩
    have hlen : L.length = tp.length + j := by
      rw [hL, List.length_append, List.length_take]
      show tp.length + min j 4 = _
      omega
    rw [← hL] at hTW
    obtain ⟨t1, t3, t4⟩ := hTW
    obtain ⟨V, v1, v2, v3, v4, v5⟩ := st_at (i := nI L.length) (x := byB v j) (j := L.length) hW s282 rfl (show L.length < 400 by omega) (by omega)
    have g1 : V.2 274 9 = nI L.length := by rw [v4, t1]
    obtain ⟨U, u1, u2, u3, u4, u5, u6⟩ := pf_eq (x := nI L.length + 1) v2 p274_9
    refine ⟨(shR (j + 1), hp U), ?_, U, rfl, u2, ?_, hF.tr ⟨fun i hi => by rw [u3, (v5 i (by omega)).1], fun k hk => by rw [u5 k hk, v4], fun i a b => by rw [(u6 i (by omega)).2, v4]⟩⟩
    · unfold Mod_types_b3
      dsimp only
      rw [if_neg s1, c274_8, Option.bind_some, c274_9, Option.bind_some, t1, s2]
      show (ast 0 (hp W) 282 (nI L.length) (byB v j)).bind _ = _
      rw [v1, Option.bind_some, c274_9, Option.bind_some, g1, u1, Option.bind_some, s3]
    · rw [by4_take hj, ← List.append_assoc, ← hL]
      refine ⟨by rw [u4, nI_1, List.length_append]; rfl, fun k hk => ?_, by rw [u5 10 (by omega), v4]; exact t4⟩
      rw [List.length_append] at hk
      have hk : k < L.length + 1 := hk
      rw [u3, v3, gD_set, app_gD, l282 hW]
      by_cases e : k = L.length
      · rw [if_pos ⟨e.symm, by omega⟩, if_pos e]
      · rw [if_neg (fun hh => e hh.1.symm), if_neg e]
        exact t3 k (by omega)) (by
    rintro s ⟨W, rfl, hW, hTW, hF⟩
    refine ⟨(shR 4, hp W), ?_, W, rfl, hW, hTW, hF⟩
    unfold Mod_types_b3
    dsimp only
    rw [if_pos (show shR 4 < 0 by decide +kernel)])
  refine ⟨W, ?_, hW, hTW, hF⟩
  unfold Mod_types Mod_types_j39
  rw [i1, Option.bind_some]
section Rd
variable {w : Wd} {st st' : ST} {tm : List Int32} {x : Nat} {hi : List (ST × Int32)} {im : Nat → Option (ST × List Int32)} {rf : Nat → Int32} {ss : Int32} {tp tp' : List Int32} {ft ft' : Int32}
theorem refI_tp {w' : Wd} (h : refI w st tm x hi im rf ss tp ft) (hw' : WL w') (hF : frY w w') (hT : refT w' tp' ft) : refI w' st tm x hi im rf ss tp' ft ∧ Fr w w' 274 292 := by
  obtain ⟨h0, h1, h2, h3, h4, h5, h6, h7⟩ := h
  obtain ⟨hA, hB, hC⟩ := hF
  refine ⟨⟨hw', by rw [hA 279 (by omega)]; exact h1, by rw [hA 276 (by omega)]; exact h2, by rw [hA 277 (by omega), hA 278 (by omega)]; exact h3, ?_, ?_, ?_, hT⟩, fun i hi => ⟨hA i (by omega), hC i (by omega) (by omega)⟩⟩
  · unfold refH at h4 ⊢
    rw [hB 13 (by omega), hB 14 (by omega), hA 283 (by omega), hA 284 (by omega)]
    exact h4
  · unfold refM at h5 ⊢
    rw [hA 285 (by omega), hA 286 (by omega)]
    exact h5
  · unfold refR at h6 ⊢
    rw [hB 0 (by omega), hA 275 (by omega)]
    exact h6
theorem call_feed (h : lawJ w st tm x hi im rf ss tp ft) (a b c d e : Int32) : callOk w (Sp_feed 0 a b c d e) (Mod_feed 274 a b c d e) := by
  have hT := h.2.1.2.2.2.2.2.2
  have hn := hT.2.1
  have e20 : nI tp.length + 20 = nI (tp.length + 20) := nI_add _ 20
  have l4 : ∀ v, (by4 v).length = 4 := fun v => rfl
  by_cases hr : tp.length + 20 ≤ 400
  · refine law_step (y := nI (tp.length + 20)) (st' := st) (tm' := tm) (x' := x) (hi' := hi) (im' := im) (rf' := rf) (ss' := ss) (tp' := tp ++ by4 a ++ by4 b ++ by4 c ++ by4 d ++ by4 e) (ft' := ft) h ?_ (fun w1 hrr => ?_) h.1
    · obtain ⟨w1, a1, b1, t1, f1⟩ := Tape_append_w (v := a) h.2.1.1 hT (by omega)
      obtain ⟨w2, a2, b2, t2, f2⟩ := Tape_append_w (v := b) b1 t1 (by simp only [List.length_append, l4]; omega)
      obtain ⟨w3, a3, b3, t3, f3⟩ := Tape_append_w (v := c) b2 t2 (by simp only [List.length_append, l4]; omega)
      obtain ⟨w4, a4, b4, t4, f4⟩ := Tape_append_w (v := d) b3 t3 (by simp only [List.length_append, l4]; omega)
      obtain ⟨w5, a5, b5, t5, f5⟩ := Tape_append_w (v := e) b4 t4 (by simp only [List.length_append, l4]; omega)
      have F := (((f1.tr f2).tr f3).tr f4).tr f5
      have g5 : w5.2 40 1 = nI (tp.length + 20) := by
        rw [t5.1]
        exact nIc (by simp only [List.length_append, l4])
      refine ⟨w5, ?_, clsI_tp h.2.1 b5 F t5, F.mono (by omega) (by omega)⟩
      have hroom : Tape_hasRoomForFive 40 (hp w) = some (1, hp w) := by
        unfold Tape_hasRoomForFive Tape_hasRoomForFive_j18
        rw [c40_1, Option.bind_some, hT.1, e20, if_neg (show ¬ (400 : Int32) < nI (tp.length + 20) from nI_nlt (a := 400) hr (by omega)), bz1, Option.bind_some]
      unfold Sp_feed
      rw [c0_3, Option.bind_some, k40, Option.bind_some, hroom, bnd2_some, if_pos (by decide), c0_3, Option.bind_some, k40, Option.bind_some, a1, bnd2_some, c0_3, Option.bind_some, k40, Option.bind_some, a2, bnd2_some, c0_3, Option.bind_some, k40, Option.bind_some, a3, bnd2_some, c0_3, Option.bind_some, k40, Option.bind_some, a4, bnd2_some, c0_3, Option.bind_some, k40, Option.bind_some, a5, bnd2_some, c0_3, Option.bind_some, c40_1, Option.bind_some, g5]
    · have hT1 := hrr.2.2.2.2.2.2.2
      obtain ⟨v1, a1, b1, t1, f1⟩ := Mod_types_w (v := a) hrr.1 hT1 (by omega)
      obtain ⟨v2, a2, b2, t2, f2⟩ := Mod_types_w (v := b) b1 t1 (by simp only [List.length_append, l4]; omega)
      obtain ⟨v3, a3, b3, t3, f3⟩ := Mod_types_w (v := c) b2 t2 (by simp only [List.length_append, l4]; omega)
      obtain ⟨v4, a4, b4, t4, f4⟩ := Mod_types_w (v := d) b3 t3 (by simp only [List.length_append, l4]; omega)
      obtain ⟨v5, a5, b5, t5, f5⟩ := Mod_types_w (v := e) b4 t4 (by simp only [List.length_append, l4]; omega)
      have F := (((f1.tr f2).tr f3).tr f4).tr f5
      have g5 : v5.2 274 9 = nI (tp.length + 20) := by
        rw [t5.1]
        exact nIc (by simp only [List.length_append, l4])
      obtain ⟨hI, hFr⟩ := refI_tp hrr b5 F t5
      refine ⟨v5, ?_, hI, hFr⟩
      unfold Mod_feed
      rw [c274_9, Option.bind_some, hT1.1, if_pos (show nI tp.length ≤ 380 from nI_le (b := 380) (by omega) (by omega)), k274, Option.bind_some, a1, bnd2_some, k274, Option.bind_some, a2, bnd2_some, k274, Option.bind_some, a3, bnd2_some, k274, Option.bind_some, a4, bnd2_some, k274, Option.bind_some, a5, bnd2_some, c274_9, Option.bind_some, g5]
  · refine law_pp (y := -1) h ?_ (fun w1 hrr => ?_)
    · have hroom : Tape_hasRoomForFive 40 (hp w) = some (0, hp w) := by
        unfold Tape_hasRoomForFive Tape_hasRoomForFive_j18
        rw [c40_1, Option.bind_some, hT.1, e20, if_pos (show (400 : Int32) < nI (tp.length + 20) from nI_lt (a := 400) (by omega) (by omega)), bz0, Option.bind_some]
      unfold Sp_feed
      rw [c0_3, Option.bind_some, k40, Option.bind_some, hroom, bnd2_some, if_neg (fun hh => hh rfl)]
    · unfold Mod_feed
      rw [c274_9, Option.bind_some, hrr.2.2.2.2.2.2.2.1, if_neg (show ¬ nI tp.length ≤ 380 from nI_ge (a := 380) (by omega) (by omega))]
theorem take_gD {l : List Int32} {k j : Nat} (h : j < k) : (l.take k).getD j 0 = l.getD j 0 := by
  rw [List.getD_eq_getElem?_getD, List.getD_eq_getElem?_getD, List.getElem?_take, if_pos h]
theorem call_end (h : lawJ w st tm x hi im rf ss tp ft) (a : Int32) : callOk w (Sp_end 0 a) (Mod_end 274 a) := by
  have hT := h.2.1.2.2.2.2.2.2
  have hn := hT.2.1
  have hin : isInP a 0 (nI tp.length) = true ↔ 0 ≤ a.toInt ∧ a.toInt ≤ tp.length := by rw [isIn_iff, ti_0, nI_toInt (by omega)]
  by_cases h1 : 0 ≤ a.toInt ∧ a.toInt ≤ tp.length
  · obtain ⟨k, hk, rfl, hk2⟩ := i32_nat (i := a) (by omega)
    have hlk : (tp.take k).length = k := by rw [List.length_take]; omega
    refine law_step (y := nI k) (st' := st) (tm' := tm) (x' := x) (hi' := hi) (im' := im) (rf' := rf) (ss' := ss) (tp' := tp.take k) (ft' := ft) h ?_ (fun w1 hr => ?_) h.1
    · obtain ⟨w1, a1, b1, c1, d1, d1', e1⟩ := pf_eq (x := nI k) h.2.1.1 p40_1
      have F : Fr w w1 40 49 := e1.mono (by omega) (by omega)
      refine ⟨w1, ?_, clsI_tp h.2.1 b1 F ⟨by rw [hlk]; exact d1, by omega, fun j hj => ?_, by rw [d1' 2 (by omega)]; exact hT.2.2.2⟩, F.mono (by omega) (by omega)⟩
      · unfold Sp_end
        rw [if_neg (nI_pos (by omega)), c0_3, Option.bind_some, c40_1, Option.bind_some, hT.1, if_pos (nI_le (by omega) (by omega)), Option.bind_some, a1, Option.bind_some]
      · rw [c1, take_gD (by omega)]
        exact hT.2.2.1 j (by omega)
    · have hT1 := hr.2.2.2.2.2.2.2
      obtain ⟨w2, a2, b2, c2, d2, d2', e2⟩ := pf_eq (x := nI k) hr.1 p274_9
      obtain ⟨hI, hFr⟩ := refI_tp (tp' := tp.take k) hr b2 ⟨fun i _ => by rw [c2], fun j hj => d2' j hj, fun i hi _ => (e2 i (by omega)).2⟩ ⟨by rw [hlk]; exact d2, fun j hj => by rw [c2, take_gD (by omega)]; exact hT1.2.1 j (by omega), by rw [d2' 10 (by omega)]; exact hT1.2.2⟩
      refine ⟨w2, ?_, hI, hFr⟩
      unfold Mod_end
      rw [c274_9, Option.bind_some, hT1.1, Mod_isIn_w, bnd2_some, b2i_t (hin.mpr h1), if_pos (by decide), a2, Option.bind_some]
  · refine law_pp (y := -1) h ?_ (fun w1 hr => ?_)
    · unfold Sp_end Sp_end_j15
      by_cases h2 : a < 0
      · rw [if_pos h2]
      · rw [if_neg h2, c0_3, Option.bind_some, c40_1, Option.bind_some, hT.1, if_neg]
        rw [ti_lt, ti_0] at h2
        rw [ti_le, nI_toInt (by omega)]
        omega
    · unfold Mod_end
      rw [c274_9, Option.bind_some, hr.2.2.2.2.2.2.2.1, Mod_isIn_w, bnd2_some, b2i_f (fun hh => h1 (hin.mp hh)), if_neg (fun hh => hh rfl)]
end Rd
