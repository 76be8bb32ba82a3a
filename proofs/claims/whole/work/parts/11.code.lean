-- X7_reset
abbrev kSrch_reset : Cd := (yX7_reset, cX7_reset, 1, none, 0, 0)
theorem dX7_reset : dcheck cX7_reset [(0, .aload_n 0, 1), (1, .iconst 0, 1), (2, .putfield 24, 3), (5, .aload_n 0, 1), (6, .iconst (-1), 1), (7, .putfield 9, 3), (10, .aload_n 0, 1), (11, .iconst (-1), 1), (12, .putfield 15, 3), (15, .aload_n 0, 1), (16, .iconst (-1), 1), (17, .putfield 18, 3), (20, .aload_n 0, 1), (21, .iconst (-1), 1), (22, .putfield 21, 3), (25, .aload_n 0, 1), (26, .iconst 0, 1), (27, .putfield 27, 3), (30, .aload_n 0, 1), (31, .iconst 0, 1), (32, .putfield 30, 3), (35, .return_, 1)] = true := by decide +kernel
theorem cw_Srch_reset {k : Cd} (h1 : kSrch_reset.2.2.2.2.1 + 1 ≤ k.2.2.2.2.1) (h2 : 8 + (kSrch_reset.2.2.1 + 11) + kSrch_reset.2.2.2.2.2 ≤ k.2.2.2.2.2) : Cw k kSrch_reset 0 := ⟨wcode_X7_reset, wini_SplitProgram_Search, ⟨by decide, by decide, by decide +kernel⟩, h1, h2⟩
def Srch_reset (v0 : Nat) (h : AHeap) : Option (Unit × AHeap) :=
  (pfV h v0 7 0 (.int 0)).bind fun h1 => (pfV h1 v0 7 1 (.int (-1))).bind fun h2 => (pfV h2 v0 7 2 (.int (-1))).bind fun h3 => (pfV h3 v0 7 3 (.int (-1))).bind fun h4 => (pfV h4 v0 7 4 (.int (-1))).bind fun h5 => (pfV h5 v0 7 5 (.int 0)).bind fun h6 => (pfV h6 v0 7 6 (.int 0)).bind fun h7 => some ((), h7)
theorem t_Srch_reset {l : Launch} {G : GX} {v0 : Nat} {h : AHeap} {h1 : AHeap} (hf : Srch_reset v0 h = some ((), h1)) : CT l G kSrch_reset 0 0 [.ref v0] h none h1 := by
  refine CT_of (ls := [some (.ref v0)]) (Z := fun z => z = ((), h1)) (by decide +kernel) (Nat.le_of_ble_eq_true rfl) hf rfl ⟨rfl, trivial⟩ (fun E ok => ?_)
  unfold Srch_reset
  refine J_aload_n (pc' := 1) ok (dOf dX7_reset 0 rfl) rfl rfl rfl ?_
  refine J_iconst (v := 0) (pc' := 2) ok (dOf dX7_reset 1 rfl) rfl (by decide) ?_
  refine J_putI (ci := 7) (kf := 0) (C := RX7) (T := TX7) (N := 7) (pc' := 5) ok tyX7 (dOf dX7_reset 2 rfl) rfl rfl (by decide) win_7 tyX7_ok nmX7 rfl rfl wfl_X7_24 (fun h1 _ => ?_)
  refine J_aload_n (pc' := 6) ok (dOf dX7_reset 3 rfl) rfl rfl rfl ?_
  refine J_iconst (v := (-1)) (pc' := 7) ok (dOf dX7_reset 4 rfl) rfl (by decide) ?_
  refine J_putI (ci := 7) (kf := 1) (C := RX7) (T := TX7) (N := 7) (pc' := 10) ok tyX7 (dOf dX7_reset 5 rfl) rfl rfl (by decide) win_7 tyX7_ok nmX7 rfl rfl wfl_X7_9 (fun h2 _ => ?_)
  refine J_aload_n (pc' := 11) ok (dOf dX7_reset 6 rfl) rfl rfl rfl ?_
  refine J_iconst (v := (-1)) (pc' := 12) ok (dOf dX7_reset 7 rfl) rfl (by decide) ?_
  refine J_putI (ci := 7) (kf := 2) (C := RX7) (T := TX7) (N := 7) (pc' := 15) ok tyX7 (dOf dX7_reset 8 rfl) rfl rfl (by decide) win_7 tyX7_ok nmX7 rfl rfl wfl_X7_15 (fun h3 _ => ?_)
  refine J_aload_n (pc' := 16) ok (dOf dX7_reset 9 rfl) rfl rfl rfl ?_
  refine J_iconst (v := (-1)) (pc' := 17) ok (dOf dX7_reset 10 rfl) rfl (by decide) ?_
  refine J_putI (ci := 7) (kf := 3) (C := RX7) (T := TX7) (N := 7) (pc' := 20) ok tyX7 (dOf dX7_reset 11 rfl) rfl rfl (by decide) win_7 tyX7_ok nmX7 rfl rfl wfl_X7_18 (fun h4 _ => ?_)
  refine J_aload_n (pc' := 21) ok (dOf dX7_reset 12 rfl) rfl rfl rfl ?_
  refine J_iconst (v := (-1)) (pc' := 22) ok (dOf dX7_reset 13 rfl) rfl (by decide) ?_
  refine J_putI (ci := 7) (kf := 4) (C := RX7) (T := TX7) (N := 7) (pc' := 25) ok tyX7 (dOf dX7_reset 14 rfl) rfl rfl (by decide) win_7 tyX7_ok nmX7 rfl rfl wfl_X7_21 (fun h5 _ => ?_)
  refine J_aload_n (pc' := 26) ok (dOf dX7_reset 15 rfl) rfl rfl rfl ?_
  refine J_iconst (v := 0) (pc' := 27) ok (dOf dX7_reset 16 rfl) rfl (by decide) ?_
  refine J_putI (ci := 7) (kf := 5) (C := RX7) (T := TX7) (N := 7) (pc' := 30) ok tyX7 (dOf dX7_reset 17 rfl) rfl rfl (by decide) win_7 tyX7_ok nmX7 rfl rfl wfl_X7_27 (fun h6 _ => ?_)
  refine J_aload_n (pc' := 31) ok (dOf dX7_reset 18 rfl) rfl rfl rfl ?_
  refine J_iconst (v := 0) (pc' := 32) ok (dOf dX7_reset 19 rfl) rfl (by decide) ?_
  refine J_putI (ci := 7) (kf := 6) (C := RX7) (T := TX7) (N := 7) (pc' := 35) ok tyX7 (dOf dX7_reset 20 rfl) rfl rfl (by decide) win_7 tyX7_ok nmX7 rfl rfl wfl_X7_30 (fun h7 _ => ?_)
  exact J_vreturn ok (dOf dX7_reset 21 rfl) rfl (Nat.le_refl 0) (Nat.le_refl 0)
-- J7_fill_53178
abbrev kJ7_fill : Cd := (yJ7_fill_53178, cJ7_fill_53178, 4, none, 0, 0)
theorem dJ7_fill_53178 : dcheck cJ7_fill_53178 [(0, .iconst 0, 1), (1, .istore_n 2, 1), (2, .aload_n 0, 1), (3, .arraylength, 1), (4, .istore_n 3, 1), (5, .iload_n 2, 1), (6, .iload_n 3, 1), (7, .if_icmp .ge 13, 3), (10, .aload_n 0, 1), (11, .iload_n 2, 1), (12, .iload_n 1, 1), (13, .iastore, 1), (14, .iinc 2 1, 3), (17, .goto (-12), 3), (20, .return_, 1)] = true := by decide +kernel
theorem cw_J7_fill {k : Cd} (h1 : kJ7_fill.2.2.2.2.1 + 1 ≤ k.2.2.2.2.1) (h2 : 8 + (kJ7_fill.2.2.1 + 11) + kJ7_fill.2.2.2.2.2 ≤ k.2.2.2.2.2) : Cw k kJ7_fill 2 := ⟨wcode_J7_fill_53178, wini_java_util_Arrays, ⟨by decide, by decide, by decide +kernel⟩, h1, h2⟩
def J7_fill_b5 (v0 : Nat) (v1 : Int32) (v3 : Int32) (s : Int32 × AHeap) : Option ((Int32 × AHeap) ⊕ ((Int32 × AHeap))) :=
  (if v3 ≤ s.1 then some (.inr (s.1, s.2)) else (ast 0 s.2 v0 s.1 v1).bind fun h2 => some (.inl (s.1 + 1, h2)))
theorem J7_fill_b5_J {E : JE} {l : Launch} {G : GX} {r : Option Value} {h' : AHeap} (ok : JOK E l G kJ7_fill 0 0 r h') (v0 : Nat) (v1 : Int32) (v3 : Int32) {Y : (Int32 × AHeap) ⊕ ((Int32 × AHeap)) → Prop} (k1 : ∀ s' : Int32 × AHeap, Y (.inl s') → JW E kJ7_fill 5 [some (.ref v0), some (.int v1), some (.int s'.1), some (.int v3)] [] s'.2 0 0) (kx20 : ∀ q : Int32 × AHeap, Y (.inr q) → JW E kJ7_fill 20 [some (.ref v0), some (.int v1), some (.int q.1), some (.int v3)] [] q.2 0 0) (s : Int32 × AHeap) : J E kJ7_fill (J7_fill_b5 v0 v1 v3 s) Y 5 [some (.ref v0), some (.int v1), some (.int s.1), some (.int v3)] [] s.2 0 0 := by
  unfold J7_fill_b5
  refine J_iload_n (pc' := 6) ok (dOf dJ7_fill_53178 5 rfl) rfl rfl rfl ?_
  refine J_iload_n (pc' := 7) ok (dOf dJ7_fill_53178 6 rfl) rfl rfl rfl ?_
  refine J_icmp_ge (tgt := 20) (pc' := 10) ok (dOf dJ7_fill_53178 7 rfl) rfl (by decide) ?_ ?_
  · exact J_fin (kx20 (s.1, s.2))
  · refine J_aload_n (pc' := 11) ok (dOf dJ7_fill_53178 8 rfl) rfl rfl rfl ?_
    refine J_iload_n (pc' := 12) ok (dOf dJ7_fill_53178 9 rfl) rfl rfl rfl ?_
    refine J_iload_n (pc' := 13) ok (dOf dJ7_fill_53178 10 rfl) rfl rfl rfl ?_
    refine J_iast (pc' := 14) ok (dOf dJ7_fill_53178 11 rfl) rfl (fun h2 _ => ?_)
    refine J_iinc (v := s.1 + 1) (ls' := [some (.ref v0), some (.int v1), some (.int (s.1 + 1)), some (.int v3)]) (pc' := 17) ok (dOf dJ7_fill_53178 12 rfl) rfl rfl (by rfl) (Nat.le_of_ble_eq_true rfl) rfl rfl ?_
    refine J_goto (tgt := 5) ok (dOf dJ7_fill_53178 13 rfl) (by decide) ?_
    exact J_fin (k1 (s.1 + 1, h2))
def J7_fill_j20 (v0 : Nat) (v1 : Int32) (v2 : Int32) (v3 : Int32) (h : AHeap) : Option (Unit × AHeap) :=
  some ((), h)
theorem J7_fill_j20_J {E : JE} {l : Launch} {G : GX} {h' : AHeap} (ok : JOK E l G kJ7_fill 0 0 none h') (v0 : Nat) (v1 : Int32) (v2 : Int32) (v3 : Int32) (h : AHeap) : J E kJ7_fill (J7_fill_j20 v0 v1 v2 v3 h) (fun z => z = ((), h')) 20 [some (.ref v0), some (.int v1), some (.int v2), some (.int v3)] [] h 0 0 := by
  unfold J7_fill_j20
  exact J_vreturn ok (dOf dJ7_fill_53178 14 rfl) rfl (Nat.le_refl 0) (Nat.le_refl 0)
def J7_fill (v0 : Nat) (v1 : Int32) (h : AHeap) : Option (Unit × AHeap) :=
  (alen h v0).bind fun x1 => (iter (J7_fill_b5 v0 v1 x1) Lmax (0, h)).bind (fun q5 => J7_fill_j20 v0 v1 q5.1 x1 q5.2)
theorem t_J7_fill {l : Launch} {G : GX} {v0 : Nat} {v1 : Int32} {h : AHeap} {h1 : AHeap} (hf : J7_fill v0 v1 h = some ((), h1)) : CT l G kJ7_fill 0 0 [.ref v0, .int v1] h none h1 := by
  refine CT_of (ls := [some (.ref v0), some (.int v1), none, none]) (Z := fun z => z = ((), h1)) (by decide +kernel) (Nat.le_of_ble_eq_true rfl) hf rfl ⟨rfl, rfl, trivial⟩ (fun E ok => ?_)
  unfold J7_fill
  refine J_iconst (v := 0) (pc' := 1) ok (dOf dJ7_fill_53178 0 rfl) rfl (by decide) ?_
  refine J_istore_n (ls' := [some (.ref v0), some (.int v1), some (.int 0), none]) (pc' := 2) ok (dOf dJ7_fill_53178 1 rfl) rfl rfl (Nat.le_of_ble_eq_true rfl) rfl rfl ?_
  refine J_aload_n (pc' := 3) ok (dOf dJ7_fill_53178 2 rfl) rfl rfl rfl ?_
  refine J_alen (pc' := 4) ok (dOf dJ7_fill_53178 3 rfl) rfl (fun x1 => ?_)
  refine J_istore_n (ls' := [some (.ref v0), some (.int v1), some (.int 0), some (.int x1)]) (pc' := 5) ok (dOf dJ7_fill_53178 4 rfl) rfl rfl (Nat.le_of_ble_eq_true rfl) rfl rfl ?_
  refine J_iter (lf := fun z5 => [some (.ref v0), some (.int v1), some (.int z5.1), some (.int x1)]) (sf := fun _ => []) (hf := fun z5 => z5.2) (px := (fun q5 => 20)) (lx := (fun q5 => [some (.ref v0), some (.int v1), some (.int q5.1), some (.int x1)])) (sx := (fun q5 => [])) (hx := (fun q5 => q5.2)) (fun Y2 z5 m1 m2 => J7_fill_b5_J ok v0 v1 x1 m1 m2 z5) (fun q5 => ?_) Lmax _
  exact J7_fill_j20_J ok v0 v1 q5.1 x1 q5.2
-- X2_baseOf
abbrev kCuts_baseOf : Cd := (yX2_baseOf, cX2_baseOf, 5, (some .int), 0, 0)
theorem dX2_baseOf : dcheck cX2_baseOf [(0, .iconst 0, 1), (1, .istore_n 3, 1), (2, .iconst 0, 1), (3, .istore 4, 2), (5, .iload 4, 2), (7, .aload_n 1, 1), (8, .getfield 59, 3), (11, .if_icmp .ge 42, 3), (14, .iload_n 3, 1), (15, .aload_n 1, 1), (16, .getfield 65, 3), (19, .aload_n 0, 1), (20, .getfield 15, 3), (23, .iload_n 2, 1), (24, .iaload, 1), (25, .bipush 6, 2), (27, .imul, 1), (28, .iload 4, 2), (30, .iadd, 1), (31, .iaload, 1), (32, .aload_n 0, 1), (33, .getfield 28, 3), (36, .iload_n 2, 1), (37, .bipush 6, 2), (39, .imul, 1), (40, .iload 4, 2), (42, .iadd, 1), (43, .iaload, 1), (44, .imul, 1), (45, .iadd, 1), (46, .istore_n 3, 1), (47, .iinc 4 1, 3), (50, .goto (-45), 3), (53, .iload_n 3, 1), (54, .ireturn, 1)] = true := by decide +kernel
theorem cw_Cuts_baseOf {k : Cd} (h1 : kCuts_baseOf.2.2.2.2.1 + 1 ≤ k.2.2.2.2.1) (h2 : 8 + (kCuts_baseOf.2.2.1 + 11) + kCuts_baseOf.2.2.2.2.2 ≤ k.2.2.2.2.2) : Cw k kCuts_baseOf 2 := ⟨wcode_X2_baseOf, wini_SplitProgram_Cuts, ⟨by decide, by decide, by decide +kernel⟩, h1, h2⟩
def Cuts_baseOf_b5 (v0 : Nat) (v1 : Nat) (v2 : Int32) (h : AHeap) (s : Int32 × Int32) : Option ((Int32 × Int32) ⊕ ((Int32 × Int32))) :=
  (gfI h v1 6 1).bind fun x1 => (if x1 ≤ s.2 then some (.inr (s.1, s.2)) else (gfR h v1 6 8).bind fun a2 => (gfR h v0 2 2).bind fun a3 => (ald 0 h a3 v2).bind fun x4 => (ald 0 h a2 ((x4 * 6) + s.2)).bind fun x5 => (gfR h v0 2 6).bind fun a6 => (ald 0 h a6 ((v2 * 6) + s.2)).bind fun x7 => some (.inl (s.1 + (x5 * x7), s.2 + 1)))
theorem Cuts_baseOf_b5_J {E : JE} {l : Launch} {G : GX} {r : Option Value} {h' : AHeap} (ok : JOK E l G kCuts_baseOf 0 0 r h') (v0 : Nat) (v1 : Nat) (v2 : Int32) (h : AHeap) {Y : (Int32 × Int32) ⊕ ((Int32 × Int32)) → Prop} (k1 : ∀ s' : Int32 × Int32, Y (.inl s') → JW E kCuts_baseOf 5 [some (.ref v0), some (.ref v1), some (.int v2), some (.int s'.1), some (.int s'.2)] [] h 0 0) (kx53 : ∀ q : Int32 × Int32, Y (.inr q) → JW E kCuts_baseOf 53 [some (.ref v0), some (.ref v1), some (.int v2), some (.int q.1), some (.int q.2)] [] h 0 0) (s : Int32 × Int32) : J E kCuts_baseOf (Cuts_baseOf_b5 v0 v1 v2 h s) Y 5 [some (.ref v0), some (.ref v1), some (.int v2), some (.int s.1), some (.int s.2)] [] h 0 0 := by
  unfold Cuts_baseOf_b5
  refine J_iload (pc' := 7) ok (dOf dX2_baseOf 4 rfl) rfl rfl ?_
  refine J_aload_n (pc' := 8) ok (dOf dX2_baseOf 5 rfl) rfl rfl rfl ?_
  refine J_getI (ci := 6) (kf := 1) (C := RX6) (T := TX6) (N := 9) (pc' := 11) ok (dOf dX2_baseOf 6 rfl) rfl (by decide) rfl (by decide) win_6 wfl_X2_59 (fun x1 => ?_)
  refine J_icmp_ge (tgt := 53) (pc' := 14) ok (dOf dX2_baseOf 7 rfl) rfl (by decide) ?_ ?_
  · exact J_fin (kx53 (s.1, s.2))
  · refine J_iload_n (pc' := 15) ok (dOf dX2_baseOf 8 rfl) rfl rfl rfl ?_
    refine J_aload_n (pc' := 16) ok (dOf dX2_baseOf 9 rfl) rfl rfl rfl ?_
    refine J_getR (ci := 6) (kf := 8) (C := RX6) (T := TX6) (N := 9) (pc' := 19) ok (dOf dX2_baseOf 10 rfl) rfl (by decide) rfl (by decide) win_6 wfl_X2_65 (fun a2 => ?_)
    refine J_aload_n (pc' := 20) ok (dOf dX2_baseOf 11 rfl) rfl rfl rfl ?_
    refine J_getR (ci := 2) (kf := 2) (C := RX2) (T := TX2) (N := 7) (pc' := 23) ok (dOf dX2_baseOf 12 rfl) rfl (by decide) rfl (by decide) win_2 wfl_X2_15 (fun a3 => ?_)
    refine J_iload_n (pc' := 24) ok (dOf dX2_baseOf 13 rfl) rfl rfl rfl ?_
    refine J_iald (pc' := 25) ok (dOf dX2_baseOf 14 rfl) rfl (fun x4 => ?_)
    refine J_bipush (v := 6) (pc' := 27) ok (dOf dX2_baseOf 15 rfl) rfl (by decide) ?_
    refine J_imul (pc' := 28) ok (dOf dX2_baseOf 16 rfl) rfl ?_
    refine J_iload (pc' := 30) ok (dOf dX2_baseOf 17 rfl) rfl rfl ?_
    refine J_iadd (pc' := 31) ok (dOf dX2_baseOf 18 rfl) rfl ?_
    refine J_iald (pc' := 32) ok (dOf dX2_baseOf 19 rfl) rfl (fun x5 => ?_)
    refine J_aload_n (pc' := 33) ok (dOf dX2_baseOf 20 rfl) rfl rfl rfl ?_
    refine J_getR (ci := 2) (kf := 6) (C := RX2) (T := TX2) (N := 7) (pc' := 36) ok (dOf dX2_baseOf 21 rfl) rfl (by decide) rfl (by decide) win_2 wfl_X2_28 (fun a6 => ?_)
    refine J_iload_n (pc' := 37) ok (dOf dX2_baseOf 22 rfl) rfl rfl rfl ?_
    refine J_bipush (v := 6) (pc' := 39) ok (dOf dX2_baseOf 23 rfl) rfl (by decide) ?_
    refine J_imul (pc' := 40) ok (dOf dX2_baseOf 24 rfl) rfl ?_
    refine J_iload (pc' := 42) ok (dOf dX2_baseOf 25 rfl) rfl rfl ?_
    refine J_iadd (pc' := 43) ok (dOf dX2_baseOf 26 rfl) rfl ?_
    refine J_iald (pc' := 44) ok (dOf dX2_baseOf 27 rfl) rfl (fun x7 => ?_)
    refine J_imul (pc' := 45) ok (dOf dX2_baseOf 28 rfl) rfl ?_
    refine J_iadd (pc' := 46) ok (dOf dX2_baseOf 29 rfl) rfl ?_
    refine J_istore_n (ls' := [some (.ref v0), some (.ref v1), some (.int v2), some (.int (s.1 + (x5 * x7))), some (.int s.2)]) (pc' := 47) ok (dOf dX2_baseOf 30 rfl) rfl rfl (Nat.le_of_ble_eq_true rfl) rfl rfl ?_
    refine J_iinc (v := s.2 + 1) (ls' := [some (.ref v0), some (.ref v1), some (.int v2), some (.int (s.1 + (x5 * x7))), some (.int (s.2 + 1))]) (pc' := 50) ok (dOf dX2_baseOf 31 rfl) rfl rfl (by rfl) (Nat.le_of_ble_eq_true rfl) rfl rfl ?_
    refine J_goto (tgt := 5) ok (dOf dX2_baseOf 32 rfl) (by decide) ?_
    exact J_fin (k1 (s.1 + (x5 * x7), s.2 + 1))
def Cuts_baseOf_j53 (v0 : Nat) (v1 : Nat) (v2 : Int32) (v3 : Int32) (v4 : Int32) (h : AHeap) : Option (Int32 × AHeap) :=
  some (v3, h)
theorem Cuts_baseOf_j53_J {E : JE} {l : Launch} {G : GX} {v : Int32} {h' : AHeap} (ok : JOK E l G kCuts_baseOf 0 0 (some (.int v)) h') (v0 : Nat) (v1 : Nat) (v2 : Int32) (v3 : Int32) (v4 : Int32) (h : AHeap) : J E kCuts_baseOf (Cuts_baseOf_j53 v0 v1 v2 v3 v4 h) (fun z => z = (v, h')) 53 [some (.ref v0), some (.ref v1), some (.int v2), some (.int v3), some (.int v4)] [] h 0 0 := by
  unfold Cuts_baseOf_j53
  refine J_iload_n (pc' := 54) ok (dOf dX2_baseOf 33 rfl) rfl rfl rfl ?_
  exact J_ireturn ok (dOf dX2_baseOf 34 rfl) rfl (Nat.le_refl 0) (Nat.le_refl 0)
def Cuts_baseOf (v0 : Nat) (v1 : Nat) (v2 : Int32) (h : AHeap) : Option (Int32 × AHeap) :=
  (iter (Cuts_baseOf_b5 v0 v1 v2 h) Lmax (0, 0)).bind (fun q5 => Cuts_baseOf_j53 v0 v1 v2 q5.1 q5.2 h)
theorem t_Cuts_baseOf {l : Launch} {G : GX} {v0 : Nat} {v1 : Nat} {v2 : Int32} {h : AHeap} {v : Int32} {h1 : AHeap} (hf : Cuts_baseOf v0 v1 v2 h = some (v, h1)) : CT l G kCuts_baseOf 0 0 [.ref v0, .ref v1, .int v2] h (some (.int v)) h1 := by
  refine CT_of (ls := [some (.ref v0), some (.ref v1), some (.int v2), none, none]) (Z := fun z => z = (v, h1)) (by decide +kernel) (Nat.le_of_ble_eq_true rfl) hf rfl ⟨rfl, rfl, rfl, trivial⟩ (fun E ok => ?_)
  unfold Cuts_baseOf
  refine J_iconst (v := 0) (pc' := 1) ok (dOf dX2_baseOf 0 rfl) rfl (by decide) ?_
  refine J_istore_n (ls' := [some (.ref v0), some (.ref v1), some (.int v2), some (.int 0), none]) (pc' := 2) ok (dOf dX2_baseOf 1 rfl) rfl rfl (Nat.le_of_ble_eq_true rfl) rfl rfl ?_
  refine J_iconst (v := 0) (pc' := 3) ok (dOf dX2_baseOf 2 rfl) rfl (by decide) ?_
  refine J_istore (ls' := [some (.ref v0), some (.ref v1), some (.int v2), some (.int 0), some (.int 0)]) (pc' := 5) ok (dOf dX2_baseOf 3 rfl) rfl (Nat.le_of_ble_eq_true rfl) rfl rfl ?_
  refine J_iter (lf := fun z5 => [some (.ref v0), some (.ref v1), some (.int v2), some (.int z5.1), some (.int z5.2)]) (sf := fun _ => []) (hf := fun z5 => h) (px := (fun q5 => 53)) (lx := (fun q5 => [some (.ref v0), some (.ref v1), some (.int v2), some (.int q5.1), some (.int q5.2)])) (sx := (fun q5 => [])) (hx := (fun q5 => h)) (fun Y2 z5 m1 m2 => Cuts_baseOf_b5_J ok v0 v1 v2 h m1 m2 z5) (fun q5 => ?_) Lmax _
  exact Cuts_baseOf_j53_J ok v0 v1 v2 q5.1 q5.2 h
-- X2_slopeOf
abbrev kCuts_slopeOf : Cd := (yX2_slopeOf, cX2_slopeOf, 4, (some .int), 0, 0)
theorem dX2_slopeOf : dcheck cX2_slopeOf [(0, .aload_n 1, 1), (1, .getfield 68, 3), (4, .iload_n 3, 1), (5, .iaload, 1), (6, .aload_n 0, 1), (7, .getfield 25, 3), (10, .iload_n 2, 1), (11, .iconst 4, 1), (12, .imul, 1), (13, .iload_n 3, 1), (14, .iadd, 1), (15, .iaload, 1), (16, .imul, 1), (17, .ireturn, 1)] = true := by decide +kernel
theorem cw_Cuts_slopeOf {k : Cd} (h1 : kCuts_slopeOf.2.2.2.2.1 + 1 ≤ k.2.2.2.2.1) (h2 : 8 + (kCuts_slopeOf.2.2.1 + 11) + kCuts_slopeOf.2.2.2.2.2 ≤ k.2.2.2.2.2) : Cw k kCuts_slopeOf 3 := ⟨wcode_X2_slopeOf, wini_SplitProgram_Cuts, ⟨by decide, by decide, by decide +kernel⟩, h1, h2⟩
def Cuts_slopeOf (v0 : Nat) (v1 : Nat) (v2 : Int32) (v3 : Int32) (h : AHeap) : Option (Int32 × AHeap) :=
  (gfR h v1 6 4).bind fun a1 => (ald 0 h a1 v3).bind fun x2 => (gfR h v0 2 5).bind fun a3 => (ald 0 h a3 ((v2 * 4) + v3)).bind fun x4 => some (x2 * x4, h)
theorem t_Cuts_slopeOf {l : Launch} {G : GX} {v0 : Nat} {v1 : Nat} {v2 : Int32} {v3 : Int32} {h : AHeap} {v : Int32} {h1 : AHeap} (hf : Cuts_slopeOf v0 v1 v2 v3 h = some (v, h1)) : CT l G kCuts_slopeOf 0 0 [.ref v0, .ref v1, .int v2, .int v3] h (some (.int v)) h1 := by
  refine CT_of (ls := [some (.ref v0), some (.ref v1), some (.int v2), some (.int v3)]) (Z := fun z => z = (v, h1)) (by decide +kernel) (Nat.le_of_ble_eq_true rfl) hf rfl ⟨rfl, rfl, rfl, rfl, trivial⟩ (fun E ok => ?_)
  unfold Cuts_slopeOf
  refine J_aload_n (pc' := 1) ok (dOf dX2_slopeOf 0 rfl) rfl rfl rfl ?_
  refine J_getR (ci := 6) (kf := 4) (C := RX6) (T := TX6) (N := 9) (pc' := 4) ok (dOf dX2_slopeOf 1 rfl) rfl (by decide) rfl (by decide) win_6 wfl_X2_68 (fun a1 => ?_)
  refine J_iload_n (pc' := 5) ok (dOf dX2_slopeOf 2 rfl) rfl rfl rfl ?_
  refine J_iald (pc' := 6) ok (dOf dX2_slopeOf 3 rfl) rfl (fun x2 => ?_)
  refine J_aload_n (pc' := 7) ok (dOf dX2_slopeOf 4 rfl) rfl rfl rfl ?_
  refine J_getR (ci := 2) (kf := 5) (C := RX2) (T := TX2) (N := 7) (pc' := 10) ok (dOf dX2_slopeOf 5 rfl) rfl (by decide) rfl (by decide) win_2 wfl_X2_25 (fun a3 => ?_)
  refine J_iload_n (pc' := 11) ok (dOf dX2_slopeOf 6 rfl) rfl rfl rfl ?_
  refine J_iconst (v := 4) (pc' := 12) ok (dOf dX2_slopeOf 7 rfl) rfl (by decide) ?_
  refine J_imul (pc' := 13) ok (dOf dX2_slopeOf 8 rfl) rfl ?_
  refine J_iload_n (pc' := 14) ok (dOf dX2_slopeOf 9 rfl) rfl rfl rfl ?_
  refine J_iadd (pc' := 15) ok (dOf dX2_slopeOf 10 rfl) rfl ?_
  refine J_iald (pc' := 16) ok (dOf dX2_slopeOf 11 rfl) rfl (fun x4 => ?_)
  refine J_imul (pc' := 17) ok (dOf dX2_slopeOf 12 rfl) rfl ?_
  exact J_ireturn ok (dOf dX2_slopeOf 13 rfl) rfl (Nat.le_refl 0) (Nat.le_refl 0)
-- X1_include
abbrev kBnds_include : Cd := (yX1_include, cX1_include, 17, none, 1, 24)
theorem dX1_include : dcheck cX1_include [(0, .aload_n 2, 1), (1, .aload_n 1, 1), (2, .iload_n 3, 1), (3, .invokevirtual 39, 3), (6, .istore 4, 2), (8, .aload_n 2, 1), (9, .aload_n 1, 1), (10, .iload_n 3, 1), (11, .iconst 0, 1), (12, .invokevirtual 43, 3), (15, .istore 5, 2), (17, .aload_n 2, 1), (18, .aload_n 1, 1), (19, .iload_n 3, 1), (20, .iconst 1, 1), (21, .invokevirtual 43, 3), (24, .istore 6, 2), (26, .aload_n 2, 1), (27, .aload_n 1, 1), (28, .iload_n 3, 1), (29, .iconst 2, 1), (30, .invokevirtual 43, 3), (33, .istore 7, 2), (35, .aload_n 2, 1), (36, .aload_n 1, 1), (37, .iload_n 3, 1), (38, .iconst 3, 1), (39, .invokevirtual 43, 3), (42, .istore 8, 2), (44, .aload_n 2, 1), (45, .getfield 47, 3), (48, .iload_n 3, 1), (49, .iaload, 1), (50, .iconst 1, 1), (51, .if_icmp .ne 7, 3), (54, .iconst 1, 1), (55, .goto 4, 3), (58, .iconst 0, 1), (59, .istore 9, 2), (61, .aload_n 2, 1), (62, .getfield 50, 3), (65, .iload_n 3, 1), (66, .iaload, 1), (67, .sipush 256, 3), (70, .imul, 1), (71, .istore 10, 2), (73, .iconst 0, 1), (74, .istore 11, 2), (76, .iload 11, 2), (78, .aload_n 1, 1), (79, .getfield 53, 3), (82, .iconst 3, 1), (83, .iaload, 1), (84, .if_icmp .gt 190, 3), (87, .iconst 0, 1), (88, .istore 12, 2), (90, .iload 12, 2), (92, .aload_n 1, 1), (93, .getfield 53, 3), (96, .iconst 2, 1), (97, .iaload, 1), (98, .if_icmp .gt 170, 3), (101, .iconst 0, 1), (102, .istore 13, 2), (104, .iload 13, 2), (106, .aload_n 1, 1), (107, .getfield 53, 3), (110, .iconst 1, 1), (111, .iaload, 1), (112, .if_icmp .gt 150, 3), (115, .iload 4, 2), (117, .iload 11, 2), (119, .iload 8, 2), (121, .imul, 1), (122, .isub, 1), (123, .iload 12, 2), (125, .iload 7, 2), (127, .imul, 1), (128, .isub, 1), (129, .iload 13, 2), (131, .iload 6, 2), (133, .imul, 1), (134, .isub, 1), (135, .istore 14, 2), (137, .bipush 64, 2), (139, .iload 11, 2), (141, .imul, 1), (142, .bipush 16, 2), (144, .iload 12, 2), (146, .imul, 1), (147, .iadd, 1), (148, .iconst 4, 1), (149, .iload 13, 2), (151, .imul, 1), (152, .iadd, 1), (153, .istore 15, 2), (155, .iconst 0, 1), (156, .istore 16, 2), (158, .iload 16, 2), (160, .aload_n 1, 1), (161, .getfield 53, 3), (164, .iconst 0, 1), (165, .iaload, 1), (166, .if_icmp .gt 90, 3), (169, .iload 9, 2), (171, .ifCond .eq 39, 3), (174, .aload_n 0, 1), (175, .getfield 19, 3), (178, .iload 15, 2), (180, .iload 16, 2), (182, .iadd, 1), (183, .aload_n 0, 1), (184, .getfield 19, 3), (187, .iload 15, 2), (189, .iload 16, 2), (191, .iadd, 1), (192, .baload, 1), (193, .ifCond .ne 8, 3), (196, .iload 14, 2), (198, .ifCond .le 7, 3), (201, .iconst 1, 1), (202, .goto 4, 3), (205, .iconst 0, 1), (206, .bastore, 1), (207, .goto 36, 3), (210, .iload 14, 2), (212, .aload_n 0, 1), (213, .getfield 15, 3), (216, .iload 10, 2), (218, .iload 15, 2), (220, .iadd, 1), (221, .iload 16, 2), (223, .iadd, 1), (224, .iaload, 1), (225, .if_icmp .le 18, 3), (228, .aload_n 0, 1), (229, .getfield 15, 3), (232, .iload 10, 2), (234, .iload 15, 2), (236, .iadd, 1), (237, .iload 16, 2), (239, .iadd, 1), (240, .iload 14, 2), (242, .iastore, 1), (243, .iload 14, 2), (245, .iload 5, 2), (247, .isub, 1), (248, .istore 14, 2), (250, .iinc 16 1, 3), (253, .goto (-95), 3), (256, .iinc 13 1, 3), (259, .goto (-155), 3), (262, .iinc 12 1, 3), (265, .goto (-175), 3), (268, .iinc 11 1, 3), (271, .goto (-195), 3), (274, .return_, 1)] = true := by decide +kernel
theorem cw_Bnds_include {k : Cd} (h1 : kBnds_include.2.2.2.2.1 + 1 ≤ k.2.2.2.2.1) (h2 : 8 + (kBnds_include.2.2.1 + 11) + kBnds_include.2.2.2.2.2 ≤ k.2.2.2.2.2) : Cw k kBnds_include 3 := ⟨wcode_X1_include, wini_SplitProgram_Bounds, ⟨by decide, by decide, by decide +kernel⟩, h1, h2⟩
def Bnds_include_j243 (v0 : Nat) (v1 : Nat) (v2 : Nat) (v3 : Int32) (v4 : Int32) (v5 : Int32) (v6 : Int32) (v7 : Int32) (v8 : Int32) (v9 : Int32) (v10 : Int32) (v11 : Int32) (v12 : Int32) (v13 : Int32) (v14 : Int32) (v15 : Int32) (v16 : Int32) (h : AHeap) : Option ((Int32 × Int32 × AHeap) ⊕ ((Int32 × Int32 × AHeap))) :=
  some (.inl (v14 - v5, v16 + 1, h))
theorem Bnds_include_j243_J {E : JE} {l : Launch} {G : GX} {r : Option Value} {h' : AHeap} (ok : JOK E l G kBnds_include 0 0 r h') (v0 : Nat) (v1 : Nat) (v2 : Nat) (v3 : Int32) (v4 : Int32) (v5 : Int32) (v6 : Int32) (v7 : Int32) (v8 : Int32) (v9 : Int32) (v10 : Int32) (v11 : Int32) (v12 : Int32) (v13 : Int32) (v14 : Int32) (v15 : Int32) (v16 : Int32) (h : AHeap) {Y : (Int32 × Int32 × AHeap) ⊕ ((Int32 × Int32 × AHeap)) → Prop} (k1 : ∀ s' : Int32 × Int32 × AHeap, Y (.inl s') → JW E kBnds_include 158 [some (.ref v0), some (.ref v1), some (.ref v2), some (.int v3), some (.int v4), some (.int v5), some (.int v6), some (.int v7), some (.int v8), some (.int v9), some (.int v10), some (.int v11), some (.int v12), some (.int v13), some (.int s'.1), some (.int v15), some (.int s'.2.1)] [] s'.2.2 0 0) (kx256 : ∀ q : Int32 × Int32 × AHeap, Y (.inr q) → JW E kBnds_include 256 [some (.ref v0), some (.ref v1), some (.ref v2), some (.int v3), some (.int v4), some (.int v5), some (.int v6), some (.int v7), some (.int v8), some (.int v9), some (.int v10), some (.int v11), some (.int v12), some (.int v13), some (.int q.1), some (.int v15), some (.int q.2.1)] [] q.2.2 0 0) : J E kBnds_include (Bnds_include_j243 v0 v1 v2 v3 v4 v5 v6 v7 v8 v9 v10 v11 v12 v13 v14 v15 v16 h) Y 243 [some (.ref v0), some (.ref v1), some (.ref v2), some (.int v3), some (.int v4), some (.int v5), some (.int v6), some (.int v7), some (.int v8), some (.int v9), some (.int v10), some (.int v11), some (.int v12), some (.int v13), some (.int v14), some (.int v15), some (.int v16)] [] h 0 0 := by
  unfold Bnds_include_j243
  refine J_iload (pc' := 245) ok (dOf dX1_include 144 rfl) rfl rfl ?_
  refine J_iload (pc' := 247) ok (dOf dX1_include 145 rfl) rfl rfl ?_
  refine J_isub (pc' := 248) ok (dOf dX1_include 146 rfl) rfl ?_
  refine J_istore (ls' := [some (.ref v0), some (.ref v1), some (.ref v2), some (.int v3), some (.int v4), some (.int v5), some (.int v6), some (.int v7), some (.int v8), some (.int v9), some (.int v10), some (.int v11), some (.int v12), some (.int v13), some (.int (v14 - v5)), some (.int v15), some (.int v16)]) (pc' := 250) ok (dOf dX1_include 147 rfl) rfl (Nat.le_of_ble_eq_true rfl) rfl rfl ?_
  refine J_iinc (v := v16 + 1) (ls' := [some (.ref v0), some (.ref v1), some (.ref v2), some (.int v3), some (.int v4), some (.int v5), some (.int v6), some (.int v7), some (.int v8), some (.int v9), some (.int v10), some (.int v11), some (.int v12), some (.int v13), some (.int (v14 - v5)), some (.int v15), some (.int (v16 + 1))]) (pc' := 253) ok (dOf dX1_include 148 rfl) rfl rfl (by rfl) (Nat.le_of_ble_eq_true rfl) rfl rfl ?_
  refine J_goto (tgt := 158) ok (dOf dX1_include 149 rfl) (by decide) ?_
  exact J_fin (k1 (v14 - v5, v16 + 1, h))
def Bnds_include_j206 (v0 : Nat) (v1 : Nat) (v2 : Nat) (v3 : Int32) (v4 : Int32) (v5 : Int32) (v6 : Int32) (v7 : Int32) (v8 : Int32) (v9 : Int32) (v10 : Int32) (v11 : Int32) (v12 : Int32) (v13 : Int32) (v14 : Int32) (v15 : Int32) (v16 : Int32) (t0 : Nat) (t1 : Int32) (t2 : Int32) (h : AHeap) : Option ((Int32 × Int32 × AHeap) ⊕ ((Int32 × Int32 × AHeap))) :=
  (ast 1 h t0 t1 t2).bind fun h30 => Bnds_include_j243 v0 v1 v2 v3 v4 v5 v6 v7 v8 v9 v10 v11 v12 v13 v14 v15 v16 h30
theorem Bnds_include_j206_J {E : JE} {l : Launch} {G : GX} {r : Option Value} {h' : AHeap} (ok : JOK E l G kBnds_include 0 0 r h') (v0 : Nat) (v1 : Nat) (v2 : Nat) (v3 : Int32) (v4 : Int32) (v5 : Int32) (v6 : Int32) (v7 : Int32) (v8 : Int32) (v9 : Int32) (v10 : Int32) (v11 : Int32) (v12 : Int32) (v13 : Int32) (v14 : Int32) (v15 : Int32) (v16 : Int32) (t0 : Nat) (t1 : Int32) (t2 : Int32) (h : AHeap) {Y : (Int32 × Int32 × AHeap) ⊕ ((Int32 × Int32 × AHeap)) → Prop} (k1 : ∀ s' : Int32 × Int32 × AHeap, Y (.inl s') → JW E kBnds_include 158 [some (.ref v0), some (.ref v1), some (.ref v2), some (.int v3), some (.int v4), some (.int v5), some (.int v6), some (.int v7), some (.int v8), some (.int v9), some (.int v10), some (.int v11), some (.int v12), some (.int v13), some (.int s'.1), some (.int v15), some (.int s'.2.1)] [] s'.2.2 0 0) (kx256 : ∀ q : Int32 × Int32 × AHeap, Y (.inr q) → JW E kBnds_include 256 [some (.ref v0), some (.ref v1), some (.ref v2), some (.int v3), some (.int v4), some (.int v5), some (.int v6), some (.int v7), some (.int v8), some (.int v9), some (.int v10), some (.int v11), some (.int v12), some (.int v13), some (.int q.1), some (.int v15), some (.int q.2.1)] [] q.2.2 0 0) : J E kBnds_include (Bnds_include_j206 v0 v1 v2 v3 v4 v5 v6 v7 v8 v9 v10 v11 v12 v13 v14 v15 v16 t0 t1 t2 h) Y 206 [some (.ref v0), some (.ref v1), some (.ref v2), some (.int v3), some (.int v4), some (.int v5), some (.int v6), some (.int v7), some (.int v8), some (.int v9), some (.int v10), some (.int v11), some (.int v12), some (.int v13), some (.int v14), some (.int v15), some (.int v16)] [.int t2, .int t1, .ref t0] h 0 0 := by
  unfold Bnds_include_j206
  refine J_zast (pc' := 207) ok (dOf dX1_include 123 rfl) rfl (fun h30 _ => ?_)
  refine J_goto (tgt := 243) ok (dOf dX1_include 124 rfl) (by decide) ?_
  exact Bnds_include_j243_J ok v0 v1 v2 v3 v4 v5 v6 v7 v8 v9 v10 v11 v12 v13 v14 v15 v16 h30 k1 kx256
def Bnds_include_j201 (v0 : Nat) (v1 : Nat) (v2 : Nat) (v3 : Int32) (v4 : Int32) (v5 : Int32) (v6 : Int32) (v7 : Int32) (v8 : Int32) (v9 : Int32) (v10 : Int32) (v11 : Int32) (v12 : Int32) (v13 : Int32) (v14 : Int32) (v15 : Int32) (v16 : Int32) (t0 : Nat) (t1 : Int32) (h : AHeap) : Option ((Int32 × Int32 × AHeap) ⊕ ((Int32 × Int32 × AHeap))) :=
  Bnds_include_j206 v0 v1 v2 v3 v4 v5 v6 v7 v8 v9 v10 v11 v12 v13 v14 v15 v16 t0 t1 1 h
theorem Bnds_include_j201_J {E : JE} {l : Launch} {G : GX} {r : Option Value} {h' : AHeap} (ok : JOK E l G kBnds_include 0 0 r h') (v0 : Nat) (v1 : Nat) (v2 : Nat) (v3 : Int32) (v4 : Int32) (v5 : Int32) (v6 : Int32) (v7 : Int32) (v8 : Int32) (v9 : Int32) (v10 : Int32) (v11 : Int32) (v12 : Int32) (v13 : Int32) (v14 : Int32) (v15 : Int32) (v16 : Int32) (t0 : Nat) (t1 : Int32) (h : AHeap) {Y : (Int32 × Int32 × AHeap) ⊕ ((Int32 × Int32 × AHeap)) → Prop} (k1 : ∀ s' : Int32 × Int32 × AHeap, Y (.inl s') → JW E kBnds_include 158 [some (.ref v0), some (.ref v1), some (.ref v2), some (.int v3), some (.int v4), some (.int v5), some (.int v6), some (.int v7), some (.int v8), some (.int v9), some (.int v10), some (.int v11), some (.int v12), some (.int v13), some (.int s'.1), some (.int v15), some (.int s'.2.1)] [] s'.2.2 0 0) (kx256 : ∀ q : Int32 × Int32 × AHeap, Y (.inr q) → JW E kBnds_include 256 [some (.ref v0), some (.ref v1), some (.ref v2), some (.int v3), some (.int v4), some (.int v5), some (.int v6), some (.int v7), some (.int v8), some (.int v9), some (.int v10), some (.int v11), some (.int v12), some (.int v13), some (.int q.1), some (.int v15), some (.int q.2.1)] [] q.2.2 0 0) : J E kBnds_include (Bnds_include_j201 v0 v1 v2 v3 v4 v5 v6 v7 v8 v9 v10 v11 v12 v13 v14 v15 v16 t0 t1 h) Y 201 [some (.ref v0), some (.ref v1), some (.ref v2), some (.int v3), some (.int v4), some (.int v5), some (.int v6), some (.int v7), some (.int v8), some (.int v9), some (.int v10), some (.int v11), some (.int v12), some (.int v13), some (.int v14), some (.int v15), some (.int v16)] [.int t1, .ref t0] h 0 0 := by
  unfold Bnds_include_j201
  refine J_iconst (v := 1) (pc' := 202) ok (dOf dX1_include 120 rfl) rfl (by decide) ?_
  refine J_goto (tgt := 206) ok (dOf dX1_include 121 rfl) (by decide) ?_
  exact Bnds_include_j206_J ok v0 v1 v2 v3 v4 v5 v6 v7 v8 v9 v10 v11 v12 v13 v14 v15 v16 t0 t1 1 h k1 kx256
def Bnds_include_b158 (v0 : Nat) (v1 : Nat) (v2 : Nat) (v3 : Int32) (v4 : Int32) (v5 : Int32) (v6 : Int32) (v7 : Int32) (v8 : Int32) (v9 : Int32) (v10 : Int32) (v11 : Int32) (v12 : Int32) (v13 : Int32) (v15 : Int32) (s : Int32 × Int32 × AHeap) : Option ((Int32 × Int32 × AHeap) ⊕ ((Int32 × Int32 × AHeap))) :=
  (gfR s.2.2 v1 6 5).bind fun a21 => (ald 0 s.2.2 a21 0).bind fun x22 => (if x22 < s.2.1 then some (.inr (s.1, s.2.1, s.2.2)) else (if v9 = 0 then (gfR s.2.2 v0 1 1).bind fun a23 => (ald 0 s.2.2 a23 ((v10 + v15) + s.2.1)).bind fun x24 => (if s.1 ≤ x24 then Bnds_include_j243 v0 v1 v2 v3 v4 v5 v6 v7 v8 v9 v10 v11 v12 v13 s.1 v15 s.2.1 s.2.2 else (gfR s.2.2 v0 1 1).bind fun a25 => (ast 0 s.2.2 a25 ((v10 + v15) + s.2.1) s.1).bind fun h26 => Bnds_include_j243 v0 v1 v2 v3 v4 v5 v6 v7 v8 v9 v10 v11 v12 v13 s.1 v15 s.2.1 h26) else (gfR s.2.2 v0 1 2).bind fun a27 => (gfR s.2.2 v0 1 2).bind fun a28 => (ald 1 s.2.2 a28 (v15 + s.2.1)).bind fun x29 => (if ¬ x29 = 0 then Bnds_include_j201 v0 v1 v2 v3 v4 v5 v6 v7 v8 v9 v10 v11 v12 v13 s.1 v15 s.2.1 a27 (v15 + s.2.1) s.2.2 else (if s.1 ≤ 0 then Bnds_include_j206 v0 v1 v2 v3 v4 v5 v6 v7 v8 v9 v10 v11 v12 v13 s.1 v15 s.2.1 a27 (v15 + s.2.1) 0 s.2.2 else Bnds_include_j201 v0 v1 v2 v3 v4 v5 v6 v7 v8 v9 v10 v11 v12 v13 s.1 v15 s.2.1 a27 (v15 + s.2.1) s.2.2))))
theorem Bnds_include_b158_J {E : JE} {l : Launch} {G : GX} {r : Option Value} {h' : AHeap} (ok : JOK E l G kBnds_include 0 0 r h') (v0 : Nat) (v1 : Nat) (v2 : Nat) (v3 : Int32) (v4 : Int32) (v5 : Int32) (v6 : Int32) (v7 : Int32) (v8 : Int32) (v9 : Int32) (v10 : Int32) (v11 : Int32) (v12 : Int32) (v13 : Int32) (v15 : Int32) {Y : (Int32 × Int32 × AHeap) ⊕ ((Int32 × Int32 × AHeap)) → Prop} (k1 : ∀ s' : Int32 × Int32 × AHeap, Y (.inl s') → JW E kBnds_include 158 [some (.ref v0), some (.ref v1), some (.ref v2), some (.int v3), some (.int v4), some (.int v5), some (.int v6), some (.int v7), some (.int v8), some (.int v9), some (.int v10), some (.int v11), some (.int v12), some (.int v13), some (.int s'.1), some (.int v15), some (.int s'.2.1)] [] s'.2.2 0 0) (kx256 : ∀ q : Int32 × Int32 × AHeap, Y (.inr q) → JW E kBnds_include 256 [some (.ref v0), some (.ref v1), some (.ref v2), some (.int v3), some (.int v4), some (.int v5), some (.int v6), some (.int v7), some (.int v8), some (.int v9), some (.int v10), some (.int v11), some (.int v12), some (.int v13), some (.int q.1), some (.int v15), some (.int q.2.1)] [] q.2.2 0 0) (s : Int32 × Int32 × AHeap) : J E kBnds_include (Bnds_include_b158 v0 v1 v2 v3 v4 v5 v6 v7 v8 v9 v10 v11 v12 v13 v15 s) Y 158 [some (.ref v0), some (.ref v1), some (.ref v2), some (.int v3), some (.int v4), some (.int v5), some (.int v6), some (.int v7), some (.int v8), some (.int v9), some (.int v10), some (.int v11), some (.int v12), some (.int v13), some (.int s.1), some (.int v15), some (.int s.2.1)] [] s.2.2 0 0 := by
  unfold Bnds_include_b158
  refine J_iload (pc' := 160) ok (dOf dX1_include 98 rfl) rfl rfl ?_
  refine J_aload_n (pc' := 161) ok (dOf dX1_include 99 rfl) rfl rfl rfl ?_
  refine J_getR (ci := 6) (kf := 5) (C := RX6) (T := TX6) (N := 9) (pc' := 164) ok (dOf dX1_include 100 rfl) rfl (by decide) rfl (by decide) win_6 wfl_X1_53 (fun a21 => ?_)
  refine J_iconst (v := 0) (pc' := 165) ok (dOf dX1_include 101 rfl) rfl (by decide) ?_
  refine J_iald (pc' := 166) ok (dOf dX1_include 102 rfl) rfl (fun x22 => ?_)
  refine J_icmp_gt (tgt := 256) (pc' := 169) ok (dOf dX1_include 103 rfl) rfl (by decide) ?_ ?_
  · exact J_fin (kx256 (s.1, s.2.1, s.2.2))
  · refine J_iload (pc' := 171) ok (dOf dX1_include 104 rfl) rfl rfl ?_
    refine J_if_eq (tgt := 210) (pc' := 174) ok (dOf dX1_include 105 rfl) rfl (by decide) ?_ ?_
    · refine J_iload (pc' := 212) ok (dOf dX1_include 125 rfl) rfl rfl ?_
      refine J_aload_n (pc' := 213) ok (dOf dX1_include 126 rfl) rfl rfl rfl ?_
      refine J_getR (ci := 1) (kf := 1) (C := RX1) (T := TX1) (N := 3) (pc' := 216) ok (dOf dX1_include 127 rfl) rfl (by decide) rfl (by decide) win_1 wfl_X1_15 (fun a23 => ?_)
      refine J_iload (pc' := 218) ok (dOf dX1_include 128 rfl) rfl rfl ?_
      refine J_iload (pc' := 220) ok (dOf dX1_include 129 rfl) rfl rfl ?_
      refine J_iadd (pc' := 221) ok (dOf dX1_include 130 rfl) rfl ?_
      refine J_iload (pc' := 223) ok (dOf dX1_include 131 rfl) rfl rfl ?_
      refine J_iadd (pc' := 224) ok (dOf dX1_include 132 rfl) rfl ?_
      refine J_iald (pc' := 225) ok (dOf dX1_include 133 rfl) rfl (fun x24 => ?_)
      refine J_icmp_le (tgt := 243) (pc' := 228) ok (dOf dX1_include 134 rfl) rfl (by decide) ?_ ?_
      · exact Bnds_include_j243_J ok v0 v1 v2 v3 v4 v5 v6 v7 v8 v9 v10 v11 v12 v13 s.1 v15 s.2.1 s.2.2 k1 kx256
      · refine J_aload_n (pc' := 229) ok (dOf dX1_include 135 rfl) rfl rfl rfl ?_
        refine J_getR (ci := 1) (kf := 1) (C := RX1) (T := TX1) (N := 3) (pc' := 232) ok (dOf dX1_include 136 rfl) rfl (by decide) rfl (by decide) win_1 wfl_X1_15 (fun a25 => ?_)
        refine J_iload (pc' := 234) ok (dOf dX1_include 137 rfl) rfl rfl ?_
        refine J_iload (pc' := 236) ok (dOf dX1_include 138 rfl) rfl rfl ?_
        refine J_iadd (pc' := 237) ok (dOf dX1_include 139 rfl) rfl ?_
        refine J_iload (pc' := 239) ok (dOf dX1_include 140 rfl) rfl rfl ?_
        refine J_iadd (pc' := 240) ok (dOf dX1_include 141 rfl) rfl ?_
        refine J_iload (pc' := 242) ok (dOf dX1_include 142 rfl) rfl rfl ?_
        refine J_iast (pc' := 243) ok (dOf dX1_include 143 rfl) rfl (fun h26 _ => ?_)
        exact Bnds_include_j243_J ok v0 v1 v2 v3 v4 v5 v6 v7 v8 v9 v10 v11 v12 v13 s.1 v15 s.2.1 h26 k1 kx256
    · refine J_aload_n (pc' := 175) ok (dOf dX1_include 106 rfl) rfl rfl rfl ?_
      refine J_getR (ci := 1) (kf := 2) (C := RX1) (T := TX1) (N := 3) (pc' := 178) ok (dOf dX1_include 107 rfl) rfl (by decide) rfl (by decide) win_1 wfl_X1_19 (fun a27 => ?_)
      refine J_iload (pc' := 180) ok (dOf dX1_include 108 rfl) rfl rfl ?_
      refine J_iload (pc' := 182) ok (dOf dX1_include 109 rfl) rfl rfl ?_
      refine J_iadd (pc' := 183) ok (dOf dX1_include 110 rfl) rfl ?_
      refine J_aload_n (pc' := 184) ok (dOf dX1_include 111 rfl) rfl rfl rfl ?_
      refine J_getR (ci := 1) (kf := 2) (C := RX1) (T := TX1) (N := 3) (pc' := 187) ok (dOf dX1_include 112 rfl) rfl (by decide) rfl (by decide) win_1 wfl_X1_19 (fun a28 => ?_)
      refine J_iload (pc' := 189) ok (dOf dX1_include 113 rfl) rfl rfl ?_
      refine J_iload (pc' := 191) ok (dOf dX1_include 114 rfl) rfl rfl ?_
      refine J_iadd (pc' := 192) ok (dOf dX1_include 115 rfl) rfl ?_
      refine J_zald (pc' := 193) ok (dOf dX1_include 116 rfl) rfl (fun x29 => ?_)
      refine J_if_ne (tgt := 201) (pc' := 196) ok (dOf dX1_include 117 rfl) rfl (by decide) ?_ ?_
      · exact Bnds_include_j201_J ok v0 v1 v2 v3 v4 v5 v6 v7 v8 v9 v10 v11 v12 v13 s.1 v15 s.2.1 a27 (v15 + s.2.1) s.2.2 k1 kx256
      · refine J_iload (pc' := 198) ok (dOf dX1_include 118 rfl) rfl rfl ?_
        refine J_if_le (tgt := 205) (pc' := 201) ok (dOf dX1_include 119 rfl) rfl (by decide) ?_ ?_
        · refine J_iconst (v := 0) (pc' := 206) ok (dOf dX1_include 122 rfl) rfl (by decide) ?_
          exact Bnds_include_j206_J ok v0 v1 v2 v3 v4 v5 v6 v7 v8 v9 v10 v11 v12 v13 s.1 v15 s.2.1 a27 (v15 + s.2.1) 0 s.2.2 k1 kx256
        · exact Bnds_include_j201_J ok v0 v1 v2 v3 v4 v5 v6 v7 v8 v9 v10 v11 v12 v13 s.1 v15 s.2.1 a27 (v15 + s.2.1) s.2.2 k1 kx256
def Bnds_include_j256 (v0 : Nat) (v1 : Nat) (v2 : Nat) (v3 : Int32) (v4 : Int32) (v5 : Int32) (v6 : Int32) (v7 : Int32) (v8 : Int32) (v9 : Int32) (v10 : Int32) (v11 : Int32) (v12 : Int32) (v13 : Int32) (v14 : Int32) (v15 : Int32) (v16 : Int32) (h : AHeap) : Option ((Int32 × AHeap) ⊕ ((Int32 × AHeap))) :=
  some (.inl (v13 + 1, h))
theorem Bnds_include_j256_J {E : JE} {l : Launch} {G : GX} {r : Option Value} {h' : AHeap} (ok : JOK E l G kBnds_include 0 0 r h') (v0 : Nat) (v1 : Nat) (v2 : Nat) (v3 : Int32) (v4 : Int32) (v5 : Int32) (v6 : Int32) (v7 : Int32) (v8 : Int32) (v9 : Int32) (v10 : Int32) (v11 : Int32) (v12 : Int32) (v13 : Int32) (v14 : Int32) (v15 : Int32) (v16 : Int32) (h : AHeap) {Y : (Int32 × AHeap) ⊕ ((Int32 × AHeap)) → Prop} (k1 : ∀ s' : Int32 × AHeap, Y (.inl s') → JW E kBnds_include 104 [some (.ref v0), some (.ref v1), some (.ref v2), some (.int v3), some (.int v4), some (.int v5), some (.int v6), some (.int v7), some (.int v8), some (.int v9), some (.int v10), some (.int v11), some (.int v12), some (.int s'.1), none, none, none] [] s'.2 0 0) (kx262 : ∀ q : Int32 × AHeap, Y (.inr q) → JW E kBnds_include 262 [some (.ref v0), some (.ref v1), some (.ref v2), some (.int v3), some (.int v4), some (.int v5), some (.int v6), some (.int v7), some (.int v8), some (.int v9), some (.int v10), some (.int v11), some (.int v12), some (.int q.1), none, none, none] [] q.2 0 0) : J E kBnds_include (Bnds_include_j256 v0 v1 v2 v3 v4 v5 v6 v7 v8 v9 v10 v11 v12 v13 v14 v15 v16 h) Y 256 [some (.ref v0), some (.ref v1), some (.ref v2), some (.int v3), some (.int v4), some (.int v5), some (.int v6), some (.int v7), some (.int v8), some (.int v9), some (.int v10), some (.int v11), some (.int v12), some (.int v13), some (.int v14), some (.int v15), some (.int v16)] [] h 0 0 := by
  unfold Bnds_include_j256
  refine J_iinc (v := v13 + 1) (ls' := [some (.ref v0), some (.ref v1), some (.ref v2), some (.int v3), some (.int v4), some (.int v5), some (.int v6), some (.int v7), some (.int v8), some (.int v9), some (.int v10), some (.int v11), some (.int v12), some (.int (v13 + 1)), some (.int v14), some (.int v15), some (.int v16)]) (pc' := 259) ok (dOf dX1_include 150 rfl) rfl rfl (by rfl) (Nat.le_of_ble_eq_true rfl) rfl rfl ?_
  refine J_goto (tgt := 104) ok (dOf dX1_include 151 rfl) (by decide) ?_
  refine J_weak (ls' := [some (.ref v0), some (.ref v1), some (.ref v2), some (.int v3), some (.int v4), some (.int v5), some (.int v6), some (.int v7), some (.int v8), some (.int v9), some (.int v10), some (.int v11), some (.int v12), some (.int (v13 + 1)), none, none, none]) ⟨rfl, rfl, rfl, rfl, rfl, rfl, rfl, rfl, rfl, rfl, rfl, rfl, rfl, rfl, trivial⟩ ?_
  exact J_fin (k1 (v13 + 1, h))
def Bnds_include_b104 (v0 : Nat) (v1 : Nat) (v2 : Nat) (v3 : Int32) (v4 : Int32) (v5 : Int32) (v6 : Int32) (v7 : Int32) (v8 : Int32) (v9 : Int32) (v10 : Int32) (v11 : Int32) (v12 : Int32) (s : Int32 × AHeap) : Option ((Int32 × AHeap) ⊕ ((Int32 × AHeap))) :=
  (gfR s.2 v1 6 5).bind fun a19 => (ald 0 s.2 a19 1).bind fun x20 => (if x20 < s.1 then some (.inr (s.1, s.2)) else (iter (Bnds_include_b158 v0 v1 v2 v3 v4 v5 v6 v7 v8 v9 v10 v11 v12 s.1 (((64 * v11) + (16 * v12)) + (4 * s.1))) Lmax (((v4 - (v11 * v8)) - (v12 * v7)) - (s.1 * v6), 0, s.2)).bind (fun q158 => Bnds_include_j256 v0 v1 v2 v3 v4 v5 v6 v7 v8 v9 v10 v11 v12 s.1 q158.1 (((64 * v11) + (16 * v12)) + (4 * s.1)) q158.2.1 q158.2.2))
theorem Bnds_include_b104_J {E : JE} {l : Launch} {G : GX} {r : Option Value} {h' : AHeap} (ok : JOK E l G kBnds_include 0 0 r h') (v0 : Nat) (v1 : Nat) (v2 : Nat) (v3 : Int32) (v4 : Int32) (v5 : Int32) (v6 : Int32) (v7 : Int32) (v8 : Int32) (v9 : Int32) (v10 : Int32) (v11 : Int32) (v12 : Int32) {Y : (Int32 × AHeap) ⊕ ((Int32 × AHeap)) → Prop} (k1 : ∀ s' : Int32 × AHeap, Y (.inl s') → JW E kBnds_include 104 [some (.ref v0), some (.ref v1), some (.ref v2), some (.int v3), some (.int v4), some (.int v5), some (.int v6), some (.int v7), some (.int v8), some (.int v9), some (.int v10), some (.int v11), some (.int v12), some (.int s'.1), none, none, none] [] s'.2 0 0) (kx262 : ∀ q : Int32 × AHeap, Y (.inr q) → JW E kBnds_include 262 [some (.ref v0), some (.ref v1), some (.ref v2), some (.int v3), some (.int v4), some (.int v5), some (.int v6), some (.int v7), some (.int v8), some (.int v9), some (.int v10), some (.int v11), some (.int v12), some (.int q.1), none, none, none] [] q.2 0 0) (s : Int32 × AHeap) : J E kBnds_include (Bnds_include_b104 v0 v1 v2 v3 v4 v5 v6 v7 v8 v9 v10 v11 v12 s) Y 104 [some (.ref v0), some (.ref v1), some (.ref v2), some (.int v3), some (.int v4), some (.int v5), some (.int v6), some (.int v7), some (.int v8), some (.int v9), some (.int v10), some (.int v11), some (.int v12), some (.int s.1), none, none, none] [] s.2 0 0 := by
  unfold Bnds_include_b104
  refine J_iload (pc' := 106) ok (dOf dX1_include 64 rfl) rfl rfl ?_
  refine J_aload_n (pc' := 107) ok (dOf dX1_include 65 rfl) rfl rfl rfl ?_
  refine J_getR (ci := 6) (kf := 5) (C := RX6) (T := TX6) (N := 9) (pc' := 110) ok (dOf dX1_include 66 rfl) rfl (by decide) rfl (by decide) win_6 wfl_X1_53 (fun a19 => ?_)
  refine J_iconst (v := 1) (pc' := 111) ok (dOf dX1_include 67 rfl) rfl (by decide) ?_
  refine J_iald (pc' := 112) ok (dOf dX1_include 68 rfl) rfl (fun x20 => ?_)
  refine J_icmp_gt (tgt := 262) (pc' := 115) ok (dOf dX1_include 69 rfl) rfl (by decide) ?_ ?_
  · exact J_fin (kx262 (s.1, s.2))
  · refine J_iload (pc' := 117) ok (dOf dX1_include 70 rfl) rfl rfl ?_
    refine J_iload (pc' := 119) ok (dOf dX1_include 71 rfl) rfl rfl ?_
    refine J_iload (pc' := 121) ok (dOf dX1_include 72 rfl) rfl rfl ?_
    refine J_imul (pc' := 122) ok (dOf dX1_include 73 rfl) rfl ?_
    refine J_isub (pc' := 123) ok (dOf dX1_include 74 rfl) rfl ?_
    refine J_iload (pc' := 125) ok (dOf dX1_include 75 rfl) rfl rfl ?_
    refine J_iload (pc' := 127) ok (dOf dX1_include 76 rfl) rfl rfl ?_
    refine J_imul (pc' := 128) ok (dOf dX1_include 77 rfl) rfl ?_
    refine J_isub (pc' := 129) ok (dOf dX1_include 78 rfl) rfl ?_
    refine J_iload (pc' := 131) ok (dOf dX1_include 79 rfl) rfl rfl ?_
    refine J_iload (pc' := 133) ok (dOf dX1_include 80 rfl) rfl rfl ?_
    refine J_imul (pc' := 134) ok (dOf dX1_include 81 rfl) rfl ?_
    refine J_isub (pc' := 135) ok (dOf dX1_include 82 rfl) rfl ?_
    refine J_istore (ls' := [some (.ref v0), some (.ref v1), some (.ref v2), some (.int v3), some (.int v4), some (.int v5), some (.int v6), some (.int v7), some (.int v8), some (.int v9), some (.int v10), some (.int v11), some (.int v12), some (.int s.1), some (.int (((v4 - (v11 * v8)) - (v12 * v7)) - (s.1 * v6))), none, none]) (pc' := 137) ok (dOf dX1_include 83 rfl) rfl (Nat.le_of_ble_eq_true rfl) rfl rfl ?_
    refine J_bipush (v := 64) (pc' := 139) ok (dOf dX1_include 84 rfl) rfl (by decide) ?_
    refine J_iload (pc' := 141) ok (dOf dX1_include 85 rfl) rfl rfl ?_
    refine J_imul (pc' := 142) ok (dOf dX1_include 86 rfl) rfl ?_
    refine J_bipush (v := 16) (pc' := 144) ok (dOf dX1_include 87 rfl) rfl (by decide) ?_
    refine J_iload (pc' := 146) ok (dOf dX1_include 88 rfl) rfl rfl ?_
    refine J_imul (pc' := 147) ok (dOf dX1_include 89 rfl) rfl ?_
    refine J_iadd (pc' := 148) ok (dOf dX1_include 90 rfl) rfl ?_
    refine J_iconst (v := 4) (pc' := 149) ok (dOf dX1_include 91 rfl) rfl (by decide) ?_
    refine J_iload (pc' := 151) ok (dOf dX1_include 92 rfl) rfl rfl ?_
    refine J_imul (pc' := 152) ok (dOf dX1_include 93 rfl) rfl ?_
    refine J_iadd (pc' := 153) ok (dOf dX1_include 94 rfl) rfl ?_
    refine J_istore (ls' := [some (.ref v0), some (.ref v1), some (.ref v2), some (.int v3), some (.int v4), some (.int v5), some (.int v6), some (.int v7), some (.int v8), some (.int v9), some (.int v10), some (.int v11), some (.int v12), some (.int s.1), some (.int (((v4 - (v11 * v8)) - (v12 * v7)) - (s.1 * v6))), some (.int (((64 * v11) + (16 * v12)) + (4 * s.1))), none]) (pc' := 155) ok (dOf dX1_include 95 rfl) rfl (Nat.le_of_ble_eq_true rfl) rfl rfl ?_
    refine J_iconst (v := 0) (pc' := 156) ok (dOf dX1_include 96 rfl) rfl (by decide) ?_
    refine J_istore (ls' := [some (.ref v0), some (.ref v1), some (.ref v2), some (.int v3), some (.int v4), some (.int v5), some (.int v6), some (.int v7), some (.int v8), some (.int v9), some (.int v10), some (.int v11), some (.int v12), some (.int s.1), some (.int (((v4 - (v11 * v8)) - (v12 * v7)) - (s.1 * v6))), some (.int (((64 * v11) + (16 * v12)) + (4 * s.1))), some (.int 0)]) (pc' := 158) ok (dOf dX1_include 97 rfl) rfl (Nat.le_of_ble_eq_true rfl) rfl rfl ?_
    refine J_iter (lf := fun z158 => [some (.ref v0), some (.ref v1), some (.ref v2), some (.int v3), some (.int v4), some (.int v5), some (.int v6), some (.int v7), some (.int v8), some (.int v9), some (.int v10), some (.int v11), some (.int v12), some (.int s.1), some (.int z158.1), some (.int (((64 * v11) + (16 * v12)) + (4 * s.1))), some (.int z158.2.1)]) (sf := fun _ => []) (hf := fun z158 => z158.2.2) (px := (fun q158 => 256)) (lx := (fun q158 => [some (.ref v0), some (.ref v1), some (.ref v2), some (.int v3), some (.int v4), some (.int v5), some (.int v6), some (.int v7), some (.int v8), some (.int v9), some (.int v10), some (.int v11), some (.int v12), some (.int s.1), some (.int q158.1), some (.int (((64 * v11) + (16 * v12)) + (4 * s.1))), some (.int q158.2.1)])) (sx := (fun q158 => [])) (hx := (fun q158 => q158.2.2)) (fun Y2 z158 m1 m2 => Bnds_include_b158_J ok v0 v1 v2 v3 v4 v5 v6 v7 v8 v9 v10 v11 v12 s.1 (((64 * v11) + (16 * v12)) + (4 * s.1)) m1 m2 z158) (fun q158 => ?_) Lmax _
    exact Bnds_include_j256_J ok v0 v1 v2 v3 v4 v5 v6 v7 v8 v9 v10 v11 v12 s.1 q158.1 (((64 * v11) + (16 * v12)) + (4 * s.1)) q158.2.1 q158.2.2 k1 kx262
def Bnds_include_j262 (v0 : Nat) (v1 : Nat) (v2 : Nat) (v3 : Int32) (v4 : Int32) (v5 : Int32) (v6 : Int32) (v7 : Int32) (v8 : Int32) (v9 : Int32) (v10 : Int32) (v11 : Int32) (v12 : Int32) (v13 : Int32) (h : AHeap) : Option ((Int32 × AHeap) ⊕ ((Int32 × AHeap))) :=
  some (.inl (v12 + 1, h))
theorem Bnds_include_j262_J {E : JE} {l : Launch} {G : GX} {r : Option Value} {h' : AHeap} (ok : JOK E l G kBnds_include 0 0 r h') (v0 : Nat) (v1 : Nat) (v2 : Nat) (v3 : Int32) (v4 : Int32) (v5 : Int32) (v6 : Int32) (v7 : Int32) (v8 : Int32) (v9 : Int32) (v10 : Int32) (v11 : Int32) (v12 : Int32) (v13 : Int32) (h : AHeap) {Y : (Int32 × AHeap) ⊕ ((Int32 × AHeap)) → Prop} (k1 : ∀ s' : Int32 × AHeap, Y (.inl s') → JW E kBnds_include 90 [some (.ref v0), some (.ref v1), some (.ref v2), some (.int v3), some (.int v4), some (.int v5), some (.int v6), some (.int v7), some (.int v8), some (.int v9), some (.int v10), some (.int v11), some (.int s'.1), none, none, none, none] [] s'.2 0 0) (kx268 : ∀ q : Int32 × AHeap, Y (.inr q) → JW E kBnds_include 268 [some (.ref v0), some (.ref v1), some (.ref v2), some (.int v3), some (.int v4), some (.int v5), some (.int v6), some (.int v7), some (.int v8), some (.int v9), some (.int v10), some (.int v11), some (.int q.1), none, none, none, none] [] q.2 0 0) : J E kBnds_include (Bnds_include_j262 v0 v1 v2 v3 v4 v5 v6 v7 v8 v9 v10 v11 v12 v13 h) Y 262 [some (.ref v0), some (.ref v1), some (.ref v2), some (.int v3), some (.int v4), some (.int v5), some (.int v6), some (.int v7), some (.int v8), some (.int v9), some (.int v10), some (.int v11), some (.int v12), some (.int v13), none, none, none] [] h 0 0 := by
  unfold Bnds_include_j262
  refine J_iinc (v := v12 + 1) (ls' := [some (.ref v0), some (.ref v1), some (.ref v2), some (.int v3), some (.int v4), some (.int v5), some (.int v6), some (.int v7), some (.int v8), some (.int v9), some (.int v10), some (.int v11), some (.int (v12 + 1)), some (.int v13), none, none, none]) (pc' := 265) ok (dOf dX1_include 152 rfl) rfl rfl (by rfl) (Nat.le_of_ble_eq_true rfl) rfl rfl ?_
  refine J_goto (tgt := 90) ok (dOf dX1_include 153 rfl) (by decide) ?_
  refine J_weak (ls' := [some (.ref v0), some (.ref v1), some (.ref v2), some (.int v3), some (.int v4), some (.int v5), some (.int v6), some (.int v7), some (.int v8), some (.int v9), some (.int v10), some (.int v11), some (.int (v12 + 1)), none, none, none, none]) ⟨rfl, rfl, rfl, rfl, rfl, rfl, rfl, rfl, rfl, rfl, rfl, rfl, rfl, trivial⟩ ?_
  exact J_fin (k1 (v12 + 1, h))
def Bnds_include_b90 (v0 : Nat) (v1 : Nat) (v2 : Nat) (v3 : Int32) (v4 : Int32) (v5 : Int32) (v6 : Int32) (v7 : Int32) (v8 : Int32) (v9 : Int32) (v10 : Int32) (v11 : Int32) (s : Int32 × AHeap) : Option ((Int32 × AHeap) ⊕ ((Int32 × AHeap))) :=
  (gfR s.2 v1 6 5).bind fun a17 => (ald 0 s.2 a17 2).bind fun x18 => (if x18 < s.1 then some (.inr (s.1, s.2)) else (iter (Bnds_include_b104 v0 v1 v2 v3 v4 v5 v6 v7 v8 v9 v10 v11 s.1) Lmax (0, s.2)).bind (fun q104 => Bnds_include_j262 v0 v1 v2 v3 v4 v5 v6 v7 v8 v9 v10 v11 s.1 q104.1 q104.2))
theorem Bnds_include_b90_J {E : JE} {l : Launch} {G : GX} {r : Option Value} {h' : AHeap} (ok : JOK E l G kBnds_include 0 0 r h') (v0 : Nat) (v1 : Nat) (v2 : Nat) (v3 : Int32) (v4 : Int32) (v5 : Int32) (v6 : Int32) (v7 : Int32) (v8 : Int32) (v9 : Int32) (v10 : Int32) (v11 : Int32) {Y : (Int32 × AHeap) ⊕ ((Int32 × AHeap)) → Prop} (k1 : ∀ s' : Int32 × AHeap, Y (.inl s') → JW E kBnds_include 90 [some (.ref v0), some (.ref v1), some (.ref v2), some (.int v3), some (.int v4), some (.int v5), some (.int v6), some (.int v7), some (.int v8), some (.int v9), some (.int v10), some (.int v11), some (.int s'.1), none, none, none, none] [] s'.2 0 0) (kx268 : ∀ q : Int32 × AHeap, Y (.inr q) → JW E kBnds_include 268 [some (.ref v0), some (.ref v1), some (.ref v2), some (.int v3), some (.int v4), some (.int v5), some (.int v6), some (.int v7), some (.int v8), some (.int v9), some (.int v10), some (.int v11), some (.int q.1), none, none, none, none] [] q.2 0 0) (s : Int32 × AHeap) : J E kBnds_include (Bnds_include_b90 v0 v1 v2 v3 v4 v5 v6 v7 v8 v9 v10 v11 s) Y 90 [some (.ref v0), some (.ref v1), some (.ref v2), some (.int v3), some (.int v4), some (.int v5), some (.int v6), some (.int v7), some (.int v8), some (.int v9), some (.int v10), some (.int v11), some (.int s.1), none, none, none, none] [] s.2 0 0 := by
  unfold Bnds_include_b90
  refine J_iload (pc' := 92) ok (dOf dX1_include 56 rfl) rfl rfl ?_
  refine J_aload_n (pc' := 93) ok (dOf dX1_include 57 rfl) rfl rfl rfl ?_
  refine J_getR (ci := 6) (kf := 5) (C := RX6) (T := TX6) (N := 9) (pc' := 96) ok (dOf dX1_include 58 rfl) rfl (by decide) rfl (by decide) win_6 wfl_X1_53 (fun a17 => ?_)
  refine J_iconst (v := 2) (pc' := 97) ok (dOf dX1_include 59 rfl) rfl (by decide) ?_
  refine J_iald (pc' := 98) ok (dOf dX1_include 60 rfl) rfl (fun x18 => ?_)
  refine J_icmp_gt (tgt := 268) (pc' := 101) ok (dOf dX1_include 61 rfl) rfl (by decide) ?_ ?_
  · exact J_fin (kx268 (s.1, s.2))
  · refine J_iconst (v := 0) (pc' := 102) ok (dOf dX1_include 62 rfl) rfl (by decide) ?_
    refine J_istore (ls' := [some (.ref v0), some (.ref v1), some (.ref v2), some (.int v3), some (.int v4), some (.int v5), some (.int v6), some (.int v7), some (.int v8), some (.int v9), some (.int v10), some (.int v11), some (.int s.1), some (.int 0), none, none, none]) (pc' := 104) ok (dOf dX1_include 63 rfl) rfl (Nat.le_of_ble_eq_true rfl) rfl rfl ?_
    refine J_iter (lf := fun z104 => [some (.ref v0), some (.ref v1), some (.ref v2), some (.int v3), some (.int v4), some (.int v5), some (.int v6), some (.int v7), some (.int v8), some (.int v9), some (.int v10), some (.int v11), some (.int s.1), some (.int z104.1), none, none, none]) (sf := fun _ => []) (hf := fun z104 => z104.2) (px := (fun q104 => 262)) (lx := (fun q104 => [some (.ref v0), some (.ref v1), some (.ref v2), some (.int v3), some (.int v4), some (.int v5), some (.int v6), some (.int v7), some (.int v8), some (.int v9), some (.int v10), some (.int v11), some (.int s.1), some (.int q104.1), none, none, none])) (sx := (fun q104 => [])) (hx := (fun q104 => q104.2)) (fun Y2 z104 m1 m2 => Bnds_include_b104_J ok v0 v1 v2 v3 v4 v5 v6 v7 v8 v9 v10 v11 s.1 m1 m2 z104) (fun q104 => ?_) Lmax _
    exact Bnds_include_j262_J ok v0 v1 v2 v3 v4 v5 v6 v7 v8 v9 v10 v11 s.1 q104.1 q104.2 k1 kx268
def Bnds_include_j268 (v0 : Nat) (v1 : Nat) (v2 : Nat) (v3 : Int32) (v4 : Int32) (v5 : Int32) (v6 : Int32) (v7 : Int32) (v8 : Int32) (v9 : Int32) (v10 : Int32) (v11 : Int32) (v12 : Int32) (h : AHeap) : Option ((Int32 × AHeap) ⊕ ((Int32 × AHeap))) :=
  some (.inl (v11 + 1, h))
theorem Bnds_include_j268_J {E : JE} {l : Launch} {G : GX} {r : Option Value} {h' : AHeap} (ok : JOK E l G kBnds_include 0 0 r h') (v0 : Nat) (v1 : Nat) (v2 : Nat) (v3 : Int32) (v4 : Int32) (v5 : Int32) (v6 : Int32) (v7 : Int32) (v8 : Int32) (v9 : Int32) (v10 : Int32) (v11 : Int32) (v12 : Int32) (h : AHeap) {Y : (Int32 × AHeap) ⊕ ((Int32 × AHeap)) → Prop} (k1 : ∀ s' : Int32 × AHeap, Y (.inl s') → JW E kBnds_include 76 [some (.ref v0), some (.ref v1), some (.ref v2), some (.int v3), some (.int v4), some (.int v5), some (.int v6), some (.int v7), some (.int v8), some (.int v9), some (.int v10), some (.int s'.1), none, none, none, none, none] [] s'.2 0 0) (kx274 : ∀ q : Int32 × AHeap, Y (.inr q) → JW E kBnds_include 274 [some (.ref v0), some (.ref v1), some (.ref v2), some (.int v3), some (.int v4), some (.int v5), some (.int v6), some (.int v7), some (.int v8), some (.int v9), some (.int v10), some (.int q.1), none, none, none, none, none] [] q.2 0 0) : J E kBnds_include (Bnds_include_j268 v0 v1 v2 v3 v4 v5 v6 v7 v8 v9 v10 v11 v12 h) Y 268 [some (.ref v0), some (.ref v1), some (.ref v2), some (.int v3), some (.int v4), some (.int v5), some (.int v6), some (.int v7), some (.int v8), some (.int v9), some (.int v10), some (.int v11), some (.int v12), none, none, none, none] [] h 0 0 := by
  unfold Bnds_include_j268
  refine J_iinc (v := v11 + 1) (ls' := [some (.ref v0), some (.ref v1), some (.ref v2), some (.int v3), some (.int v4), some (.int v5), some (.int v6), some (.int v7), some (.int v8), some (.int v9), some (.int v10), some (.int (v11 + 1)), some (.int v12), none, none, none, none]) (pc' := 271) ok (dOf dX1_include 154 rfl) rfl rfl (by rfl) (Nat.le_of_ble_eq_true rfl) rfl rfl ?_
  refine J_goto (tgt := 76) ok (dOf dX1_include 155 rfl) (by decide) ?_
  refine J_weak (ls' := [some (.ref v0), some (.ref v1), some (.ref v2), some (.int v3), some (.int v4), some (.int v5), some (.int v6), some (.int v7), some (.int v8), some (.int v9), some (.int v10), some (.int (v11 + 1)), none, none, none, none, none]) ⟨rfl, rfl, rfl, rfl, rfl, rfl, rfl, rfl, rfl, rfl, rfl, rfl, trivial⟩ ?_
  exact J_fin (k1 (v11 + 1, h))
def Bnds_include_b76 (v0 : Nat) (v1 : Nat) (v2 : Nat) (v3 : Int32) (v4 : Int32) (v5 : Int32) (v6 : Int32) (v7 : Int32) (v8 : Int32) (v9 : Int32) (v10 : Int32) (s : Int32 × AHeap) : Option ((Int32 × AHeap) ⊕ ((Int32 × AHeap))) :=
  (gfR s.2 v1 6 5).bind fun a15 => (ald 0 s.2 a15 3).bind fun x16 => (if x16 < s.1 then some (.inr (s.1, s.2)) else (iter (Bnds_include_b90 v0 v1 v2 v3 v4 v5 v6 v7 v8 v9 v10 s.1) Lmax (0, s.2)).bind (fun q90 => Bnds_include_j268 v0 v1 v2 v3 v4 v5 v6 v7 v8 v9 v10 s.1 q90.1 q90.2))
theorem Bnds_include_b76_J {E : JE} {l : Launch} {G : GX} {r : Option Value} {h' : AHeap} (ok : JOK E l G kBnds_include 0 0 r h') (v0 : Nat) (v1 : Nat) (v2 : Nat) (v3 : Int32) (v4 : Int32) (v5 : Int32) (v6 : Int32) (v7 : Int32) (v8 : Int32) (v9 : Int32) (v10 : Int32) {Y : (Int32 × AHeap) ⊕ ((Int32 × AHeap)) → Prop} (k1 : ∀ s' : Int32 × AHeap, Y (.inl s') → JW E kBnds_include 76 [some (.ref v0), some (.ref v1), some (.ref v2), some (.int v3), some (.int v4), some (.int v5), some (.int v6), some (.int v7), some (.int v8), some (.int v9), some (.int v10), some (.int s'.1), none, none, none, none, none] [] s'.2 0 0) (kx274 : ∀ q : Int32 × AHeap, Y (.inr q) → JW E kBnds_include 274 [some (.ref v0), some (.ref v1), some (.ref v2), some (.int v3), some (.int v4), some (.int v5), some (.int v6), some (.int v7), some (.int v8), some (.int v9), some (.int v10), some (.int q.1), none, none, none, none, none] [] q.2 0 0) (s : Int32 × AHeap) : J E kBnds_include (Bnds_include_b76 v0 v1 v2 v3 v4 v5 v6 v7 v8 v9 v10 s) Y 76 [some (.ref v0), some (.ref v1), some (.ref v2), some (.int v3), some (.int v4), some (.int v5), some (.int v6), some (.int v7), some (.int v8), some (.int v9), some (.int v10), some (.int s.1), none, none, none, none, none] [] s.2 0 0 := by
  unfold Bnds_include_b76
  refine J_iload (pc' := 78) ok (dOf dX1_include 48 rfl) rfl rfl ?_
  refine J_aload_n (pc' := 79) ok (dOf dX1_include 49 rfl) rfl rfl rfl ?_
  refine J_getR (ci := 6) (kf := 5) (C := RX6) (T := TX6) (N := 9) (pc' := 82) ok (dOf dX1_include 50 rfl) rfl (by decide) rfl (by decide) win_6 wfl_X1_53 (fun a15 => ?_)
  refine J_iconst (v := 3) (pc' := 83) ok (dOf dX1_include 51 rfl) rfl (by decide) ?_
  refine J_iald (pc' := 84) ok (dOf dX1_include 52 rfl) rfl (fun x16 => ?_)
  refine J_icmp_gt (tgt := 274) (pc' := 87) ok (dOf dX1_include 53 rfl) rfl (by decide) ?_ ?_
  · exact J_fin (kx274 (s.1, s.2))
  · refine J_iconst (v := 0) (pc' := 88) ok (dOf dX1_include 54 rfl) rfl (by decide) ?_
    refine J_istore (ls' := [some (.ref v0), some (.ref v1), some (.ref v2), some (.int v3), some (.int v4), some (.int v5), some (.int v6), some (.int v7), some (.int v8), some (.int v9), some (.int v10), some (.int s.1), some (.int 0), none, none, none, none]) (pc' := 90) ok (dOf dX1_include 55 rfl) rfl (Nat.le_of_ble_eq_true rfl) rfl rfl ?_
    refine J_iter (lf := fun z90 => [some (.ref v0), some (.ref v1), some (.ref v2), some (.int v3), some (.int v4), some (.int v5), some (.int v6), some (.int v7), some (.int v8), some (.int v9), some (.int v10), some (.int s.1), some (.int z90.1), none, none, none, none]) (sf := fun _ => []) (hf := fun z90 => z90.2) (px := (fun q90 => 268)) (lx := (fun q90 => [some (.ref v0), some (.ref v1), some (.ref v2), some (.int v3), some (.int v4), some (.int v5), some (.int v6), some (.int v7), some (.int v8), some (.int v9), some (.int v10), some (.int s.1), some (.int q90.1), none, none, none, none])) (sx := (fun q90 => [])) (hx := (fun q90 => q90.2)) (fun Y2 z90 m1 m2 => Bnds_include_b90_J ok v0 v1 v2 v3 v4 v5 v6 v7 v8 v9 v10 s.1 m1 m2 z90) (fun q90 => ?_) Lmax _
    exact Bnds_include_j268_J ok v0 v1 v2 v3 v4 v5 v6 v7 v8 v9 v10 s.1 q90.1 q90.2 k1 kx274
def Bnds_include_j274 (v0 : Nat) (v1 : Nat) (v2 : Nat) (v3 : Int32) (v4 : Int32) (v5 : Int32) (v6 : Int32) (v7 : Int32) (v8 : Int32) (v9 : Int32) (v10 : Int32) (v11 : Int32) (h : AHeap) : Option (Unit × AHeap) :=
  some ((), h)
theorem Bnds_include_j274_J {E : JE} {l : Launch} {G : GX} {h' : AHeap} (ok : JOK E l G kBnds_include 0 0 none h') (v0 : Nat) (v1 : Nat) (v2 : Nat) (v3 : Int32) (v4 : Int32) (v5 : Int32) (v6 : Int32) (v7 : Int32) (v8 : Int32) (v9 : Int32) (v10 : Int32) (v11 : Int32) (h : AHeap) : J E kBnds_include (Bnds_include_j274 v0 v1 v2 v3 v4 v5 v6 v7 v8 v9 v10 v11 h) (fun z => z = ((), h')) 274 [some (.ref v0), some (.ref v1), some (.ref v2), some (.int v3), some (.int v4), some (.int v5), some (.int v6), some (.int v7), some (.int v8), some (.int v9), some (.int v10), some (.int v11), none, none, none, none, none] [] h 0 0 := by
  unfold Bnds_include_j274
  exact J_vreturn ok (dOf dX1_include 156 rfl) rfl (Nat.le_refl 0) (Nat.le_refl 0)
def Bnds_include_j59 (v0 : Nat) (v1 : Nat) (v2 : Nat) (v3 : Int32) (v4 : Int32) (v5 : Int32) (v6 : Int32) (v7 : Int32) (v8 : Int32) (t0 : Int32) (h : AHeap) : Option (Unit × AHeap) :=
  (gfR h v2 2 2).bind fun a13 => (ald 0 h a13 v3).bind fun x14 => (iter (Bnds_include_b76 v0 v1 v2 v3 v4 v5 v6 v7 v8 t0 (x14 * 256)) Lmax (0, h)).bind (fun q76 => Bnds_include_j274 v0 v1 v2 v3 v4 v5 v6 v7 v8 t0 (x14 * 256) q76.1 q76.2)
theorem Bnds_include_j59_J {E : JE} {l : Launch} {G : GX} {h' : AHeap} (ok : JOK E l G kBnds_include 0 0 none h') (v0 : Nat) (v1 : Nat) (v2 : Nat) (v3 : Int32) (v4 : Int32) (v5 : Int32) (v6 : Int32) (v7 : Int32) (v8 : Int32) (t0 : Int32) (h : AHeap) : J E kBnds_include (Bnds_include_j59 v0 v1 v2 v3 v4 v5 v6 v7 v8 t0 h) (fun z => z = ((), h')) 59 [some (.ref v0), some (.ref v1), some (.ref v2), some (.int v3), some (.int v4), some (.int v5), some (.int v6), some (.int v7), some (.int v8), none, none, none, none, none, none, none, none] [.int t0] h 0 0 := by
  unfold Bnds_include_j59
  refine J_istore (ls' := [some (.ref v0), some (.ref v1), some (.ref v2), some (.int v3), some (.int v4), some (.int v5), some (.int v6), some (.int v7), some (.int v8), some (.int t0), none, none, none, none, none, none, none]) (pc' := 61) ok (dOf dX1_include 38 rfl) rfl (Nat.le_of_ble_eq_true rfl) rfl rfl ?_
  refine J_aload_n (pc' := 62) ok (dOf dX1_include 39 rfl) rfl rfl rfl ?_
  refine J_getR (ci := 2) (kf := 2) (C := RX2) (T := TX2) (N := 7) (pc' := 65) ok (dOf dX1_include 40 rfl) rfl (by decide) rfl (by decide) win_2 wfl_X1_50 (fun a13 => ?_)
  refine J_iload_n (pc' := 66) ok (dOf dX1_include 41 rfl) rfl rfl rfl ?_
  refine J_iald (pc' := 67) ok (dOf dX1_include 42 rfl) rfl (fun x14 => ?_)
  refine J_sipush (v := 256) (pc' := 70) ok (dOf dX1_include 43 rfl) rfl (by decide) ?_
  refine J_imul (pc' := 71) ok (dOf dX1_include 44 rfl) rfl ?_
  refine J_istore (ls' := [some (.ref v0), some (.ref v1), some (.ref v2), some (.int v3), some (.int v4), some (.int v5), some (.int v6), some (.int v7), some (.int v8), some (.int t0), some (.int (x14 * 256)), none, none, none, none, none, none]) (pc' := 73) ok (dOf dX1_include 45 rfl) rfl (Nat.le_of_ble_eq_true rfl) rfl rfl ?_
  refine J_iconst (v := 0) (pc' := 74) ok (dOf dX1_include 46 rfl) rfl (by decide) ?_
  refine J_istore (ls' := [some (.ref v0), some (.ref v1), some (.ref v2), some (.int v3), some (.int v4), some (.int v5), some (.int v6), some (.int v7), some (.int v8), some (.int t0), some (.int (x14 * 256)), some (.int 0), none, none, none, none, none]) (pc' := 76) ok (dOf dX1_include 47 rfl) rfl (Nat.le_of_ble_eq_true rfl) rfl rfl ?_
  refine J_iter (lf := fun z76 => [some (.ref v0), some (.ref v1), some (.ref v2), some (.int v3), some (.int v4), some (.int v5), some (.int v6), some (.int v7), some (.int v8), some (.int t0), some (.int (x14 * 256)), some (.int z76.1), none, none, none, none, none]) (sf := fun _ => []) (hf := fun z76 => z76.2) (px := (fun q76 => 274)) (lx := (fun q76 => [some (.ref v0), some (.ref v1), some (.ref v2), some (.int v3), some (.int v4), some (.int v5), some (.int v6), some (.int v7), some (.int v8), some (.int t0), some (.int (x14 * 256)), some (.int q76.1), none, none, none, none, none])) (sx := (fun q76 => [])) (hx := (fun q76 => q76.2)) (fun Y2 z76 m1 m2 => Bnds_include_b76_J ok v0 v1 v2 v3 v4 v5 v6 v7 v8 t0 (x14 * 256) m1 m2 z76) (fun q76 => ?_) Lmax _
  exact Bnds_include_j274_J ok v0 v1 v2 v3 v4 v5 v6 v7 v8 t0 (x14 * 256) q76.1 q76.2
def Bnds_include (v0 : Nat) (v1 : Nat) (v2 : Nat) (v3 : Int32) (h : AHeap) : Option (Unit × AHeap) :=
  (chk h v2 2).bind fun _ => bnd2 (Cuts_baseOf v2 v1 v3 h) fun x2 h1 => (chk h1 v2 2).bind fun _ => bnd2 (Cuts_slopeOf v2 v1 v3 0 h1) fun x4 h3 => (chk h3 v2 2).bind fun _ => bnd2 (Cuts_slopeOf v2 v1 v3 1 h3) fun x6 h5 => (chk h5 v2 2).bind fun _ => bnd2 (Cuts_slopeOf v2 v1 v3 2 h5) fun x8 h7 => (chk h7 v2 2).bind fun _ => bnd2 (Cuts_slopeOf v2 v1 v3 3 h7) fun x10 h9 => (gfR h9 v2 2 3).bind fun a11 => (ald 0 h9 a11 v3).bind fun x12 => (if ¬ x12 = 1 then Bnds_include_j59 v0 v1 v2 v3 x2 x4 x6 x8 x10 0 h9 else Bnds_include_j59 v0 v1 v2 v3 x2 x4 x6 x8 x10 1 h9)
theorem t_Bnds_include {l : Launch} {G : GX} {v0 : Nat} {v1 : Nat} {v2 : Nat} {v3 : Int32} {h : AHeap} {h1 : AHeap} (hf : Bnds_include v0 v1 v2 v3 h = some ((), h1)) : CT l G kBnds_include 0 0 [.ref v0, .ref v1, .ref v2, .int v3] h none h1 := by
  refine CT_of (ls := [some (.ref v0), some (.ref v1), some (.ref v2), some (.int v3), none, none, none, none, none, none, none, none, none, none, none, none, none]) (Z := fun z => z = ((), h1)) (by decide +kernel) (Nat.le_of_ble_eq_true rfl) hf rfl ⟨rfl, rfl, rfl, rfl, trivial⟩ (fun E ok => ?_)
  unfold Bnds_include
  refine J_aload_n (pc' := 1) ok (dOf dX1_include 0 rfl) rfl rfl rfl ?_
  refine J_aload_n (pc' := 2) ok (dOf dX1_include 1 rfl) rfl rfl rfl ?_
  refine J_iload_n (pc' := 3) ok (dOf dX1_include 2 rfl) rfl rfl rfl ?_
  refine J_callVi (k2 := kCuts_baseOf) (ci := 2) (T := TX2) (N := 7) (as := [.ref v1, .int v3]) (pc' := 6) ok (dOf dX1_include 3 rfl) rfl (cw_Cuts_baseOf (by decide) (by decide)) wml_X1_39 winst_X2_baseOf wsel_X2_baseOf rfl ⟨Nat.le_refl 0, Nat.le_refl 0⟩ (Nat.le_of_ble_eq_true rfl) rfl (fun _ _ hf => t_Cuts_baseOf hf) (fun x2 h1 => ?_)
  refine J_istore (ls' := [some (.ref v0), some (.ref v1), some (.ref v2), some (.int v3), some (.int x2), none, none, none, none, none, none, none, none, none, none, none, none]) (pc' := 8) ok (dOf dX1_include 4 rfl) rfl (Nat.le_of_ble_eq_true rfl) rfl rfl ?_
  refine J_aload_n (pc' := 9) ok (dOf dX1_include 5 rfl) rfl rfl rfl ?_
  refine J_aload_n (pc' := 10) ok (dOf dX1_include 6 rfl) rfl rfl rfl ?_
  refine J_iload_n (pc' := 11) ok (dOf dX1_include 7 rfl) rfl rfl rfl ?_
  refine J_iconst (v := 0) (pc' := 12) ok (dOf dX1_include 8 rfl) rfl (by decide) ?_
  refine J_callVi (k2 := kCuts_slopeOf) (ci := 2) (T := TX2) (N := 7) (as := [.ref v1, .int v3, .int 0]) (pc' := 15) ok (dOf dX1_include 9 rfl) rfl (cw_Cuts_slopeOf (by decide) (by decide)) wml_X1_43 winst_X2_slopeOf wsel_X2_slopeOf rfl ⟨Nat.le_refl 0, Nat.le_refl 0⟩ (Nat.le_of_ble_eq_true rfl) rfl (fun _ _ hf => t_Cuts_slopeOf hf) (fun x4 h3 => ?_)
  refine J_istore (ls' := [some (.ref v0), some (.ref v1), some (.ref v2), some (.int v3), some (.int x2), some (.int x4), none, none, none, none, none, none, none, none, none, none, none]) (pc' := 17) ok (dOf dX1_include 10 rfl) rfl (Nat.le_of_ble_eq_true rfl) rfl rfl ?_
  refine J_aload_n (pc' := 18) ok (dOf dX1_include 11 rfl) rfl rfl rfl ?_
  refine J_aload_n (pc' := 19) ok (dOf dX1_include 12 rfl) rfl rfl rfl ?_
  refine J_iload_n (pc' := 20) ok (dOf dX1_include 13 rfl) rfl rfl rfl ?_
  refine J_iconst (v := 1) (pc' := 21) ok (dOf dX1_include 14 rfl) rfl (by decide) ?_
  refine J_callVi (k2 := kCuts_slopeOf) (ci := 2) (T := TX2) (N := 7) (as := [.ref v1, .int v3, .int 1]) (pc' := 24) ok (dOf dX1_include 15 rfl) rfl (cw_Cuts_slopeOf (by decide) (by decide)) wml_X1_43 winst_X2_slopeOf wsel_X2_slopeOf rfl ⟨Nat.le_refl 0, Nat.le_refl 0⟩ (Nat.le_of_ble_eq_true rfl) rfl (fun _ _ hf => t_Cuts_slopeOf hf) (fun x6 h5 => ?_)
  refine J_istore (ls' := [some (.ref v0), some (.ref v1), some (.ref v2), some (.int v3), some (.int x2), some (.int x4), some (.int x6), none, none, none, none, none, none, none, none, none, none]) (pc' := 26) ok (dOf dX1_include 16 rfl) rfl (Nat.le_of_ble_eq_true rfl) rfl rfl ?_
  refine J_aload_n (pc' := 27) ok (dOf dX1_include 17 rfl) rfl rfl rfl ?_
  refine J_aload_n (pc' := 28) ok (dOf dX1_include 18 rfl) rfl rfl rfl ?_
  refine J_iload_n (pc' := 29) ok (dOf dX1_include 19 rfl) rfl rfl rfl ?_
  refine J_iconst (v := 2) (pc' := 30) ok (dOf dX1_include 20 rfl) rfl (by decide) ?_
  refine J_callVi (k2 := kCuts_slopeOf) (ci := 2) (T := TX2) (N := 7) (as := [.ref v1, .int v3, .int 2]) (pc' := 33) ok (dOf dX1_include 21 rfl) rfl (cw_Cuts_slopeOf (by decide) (by decide)) wml_X1_43 winst_X2_slopeOf wsel_X2_slopeOf rfl ⟨Nat.le_refl 0, Nat.le_refl 0⟩ (Nat.le_of_ble_eq_true rfl) rfl (fun _ _ hf => t_Cuts_slopeOf hf) (fun x8 h7 => ?_)
  refine J_istore (ls' := [some (.ref v0), some (.ref v1), some (.ref v2), some (.int v3), some (.int x2), some (.int x4), some (.int x6), some (.int x8), none, none, none, none, none, none, none, none, none]) (pc' := 35) ok (dOf dX1_include 22 rfl) rfl (Nat.le_of_ble_eq_true rfl) rfl rfl ?_
  refine J_aload_n (pc' := 36) ok (dOf dX1_include 23 rfl) rfl rfl rfl ?_
  refine J_aload_n (pc' := 37) ok (dOf dX1_include 24 rfl) rfl rfl rfl ?_
  refine J_iload_n (pc' := 38) ok (dOf dX1_include 25 rfl) rfl rfl rfl ?_
  refine J_iconst (v := 3) (pc' := 39) ok (dOf dX1_include 26 rfl) rfl (by decide) ?_
  refine J_callVi (k2 := kCuts_slopeOf) (ci := 2) (T := TX2) (N := 7) (as := [.ref v1, .int v3, .int 3]) (pc' := 42) ok (dOf dX1_include 27 rfl) rfl (cw_Cuts_slopeOf (by decide) (by decide)) wml_X1_43 winst_X2_slopeOf wsel_X2_slopeOf rfl ⟨Nat.le_refl 0, Nat.le_refl 0⟩ (Nat.le_of_ble_eq_true rfl) rfl (fun _ _ hf => t_Cuts_slopeOf hf) (fun x10 h9 => ?_)
  refine J_istore (ls' := [some (.ref v0), some (.ref v1), some (.ref v2), some (.int v3), some (.int x2), some (.int x4), some (.int x6), some (.int x8), some (.int x10), none, none, none, none, none, none, none, none]) (pc' := 44) ok (dOf dX1_include 28 rfl) rfl (Nat.le_of_ble_eq_true rfl) rfl rfl ?_
  refine J_aload_n (pc' := 45) ok (dOf dX1_include 29 rfl) rfl rfl rfl ?_
  refine J_getR (ci := 2) (kf := 3) (C := RX2) (T := TX2) (N := 7) (pc' := 48) ok (dOf dX1_include 30 rfl) rfl (by decide) rfl (by decide) win_2 wfl_X1_47 (fun a11 => ?_)
  refine J_iload_n (pc' := 49) ok (dOf dX1_include 31 rfl) rfl rfl rfl ?_
  refine J_iald (pc' := 50) ok (dOf dX1_include 32 rfl) rfl (fun x12 => ?_)
  refine J_iconst (v := 1) (pc' := 51) ok (dOf dX1_include 33 rfl) rfl (by decide) ?_
  refine J_icmp_ne (tgt := 58) (pc' := 54) ok (dOf dX1_include 34 rfl) rfl (by decide) ?_ ?_
  · refine J_iconst (v := 0) (pc' := 59) ok (dOf dX1_include 37 rfl) rfl (by decide) ?_
    exact Bnds_include_j59_J ok v0 v1 v2 v3 x2 x4 x6 x8 x10 0 h9
  · refine J_iconst (v := 1) (pc' := 55) ok (dOf dX1_include 35 rfl) rfl (by decide) ?_
    refine J_goto (tgt := 59) ok (dOf dX1_include 36 rfl) (by decide) ?_
    exact Bnds_include_j59_J ok v0 v1 v2 v3 x2 x4 x6 x8 x10 1 h9
-- X1_freshen
abbrev kBnds_freshen : Cd := (yX1_freshen, cX1_freshen, 4, none, 2, 60)
theorem dX1_freshen : dcheck cX1_freshen [(0, .aload_n 0, 1), (1, .getfield 9, 3), (4, .ifCond .ne 4, 3), (7, .return_, 1), (8, .aload_n 0, 1), (9, .getfield 15, 3), (12, .iconst 0, 1), (13, .invokestatic 23, 3), (16, .iconst 0, 1), (17, .istore_n 3, 1), (18, .iload_n 3, 1), (19, .sipush 256, 3), (22, .if_icmp .ge 16, 3), (25, .aload_n 0, 1), (26, .getfield 19, 3), (29, .iload_n 3, 1), (30, .iconst 0, 1), (31, .bastore, 1), (32, .iinc 3 1, 3), (35, .goto (-17), 3), (38, .iconst 0, 1), (39, .istore_n 3, 1), (40, .iload_n 3, 1), (41, .aload_n 2, 1), (42, .getfield 29, 3), (45, .if_icmp .ge 16, 3), (48, .aload_n 0, 1), (49, .aload_n 1, 1), (50, .aload_n 2, 1), (51, .iload_n 3, 1), (52, .invokevirtual 35, 3), (55, .iinc 3 1, 3), (58, .goto (-18), 3), (61, .aload_n 0, 1), (62, .iconst 0, 1), (63, .putfield 9, 3), (66, .return_, 1)] = true := by decide +kernel
theorem cw_Bnds_freshen {k : Cd} (h1 : kBnds_freshen.2.2.2.2.1 + 1 ≤ k.2.2.2.2.1) (h2 : 8 + (kBnds_freshen.2.2.1 + 11) + kBnds_freshen.2.2.2.2.2 ≤ k.2.2.2.2.2) : Cw k kBnds_freshen 2 := ⟨wcode_X1_freshen, wini_SplitProgram_Bounds, ⟨by decide, by decide, by decide +kernel⟩, h1, h2⟩
def Bnds_freshen_b18 (v0 : Nat) (v1 : Nat) (v2 : Nat) (s : Int32 × AHeap) : Option ((Int32 × AHeap) ⊕ ((Int32 × AHeap))) :=
  (if 256 ≤ s.1 then some (.inr (s.1, s.2)) else (gfR s.2 v0 1 2).bind fun a4 => (ast 1 s.2 a4 s.1 0).bind fun h5 => some (.inl (s.1 + 1, h5)))
theorem Bnds_freshen_b18_J {E : JE} {l : Launch} {G : GX} {r : Option Value} {h' : AHeap} (ok : JOK E l G kBnds_freshen 0 0 r h') (v0 : Nat) (v1 : Nat) (v2 : Nat) {Y : (Int32 × AHeap) ⊕ ((Int32 × AHeap)) → Prop} (k1 : ∀ s' : Int32 × AHeap, Y (.inl s') → JW E kBnds_freshen 18 [some (.ref v0), some (.ref v1), some (.ref v2), some (.int s'.1)] [] s'.2 0 0) (kx38 : ∀ q : Int32 × AHeap, Y (.inr q) → JW E kBnds_freshen 38 [some (.ref v0), some (.ref v1), some (.ref v2), some (.int q.1)] [] q.2 0 0) (s : Int32 × AHeap) : J E kBnds_freshen (Bnds_freshen_b18 v0 v1 v2 s) Y 18 [some (.ref v0), some (.ref v1), some (.ref v2), some (.int s.1)] [] s.2 0 0 := by
  unfold Bnds_freshen_b18
  refine J_iload_n (pc' := 19) ok (dOf dX1_freshen 10 rfl) rfl rfl rfl ?_
  refine J_sipush (v := 256) (pc' := 22) ok (dOf dX1_freshen 11 rfl) rfl (by decide) ?_
  refine J_icmp_ge (tgt := 38) (pc' := 25) ok (dOf dX1_freshen 12 rfl) rfl (by decide) ?_ ?_
  · exact J_fin (kx38 (s.1, s.2))
  · refine J_aload_n (pc' := 26) ok (dOf dX1_freshen 13 rfl) rfl rfl rfl ?_
    refine J_getR (ci := 1) (kf := 2) (C := RX1) (T := TX1) (N := 3) (pc' := 29) ok (dOf dX1_freshen 14 rfl) rfl (by decide) rfl (by decide) win_1 wfl_X1_19 (fun a4 => ?_)
    refine J_iload_n (pc' := 30) ok (dOf dX1_freshen 15 rfl) rfl rfl rfl ?_
    refine J_iconst (v := 0) (pc' := 31) ok (dOf dX1_freshen 16 rfl) rfl (by decide) ?_
    refine J_zast (pc' := 32) ok (dOf dX1_freshen 17 rfl) rfl (fun h5 _ => ?_)
    refine J_iinc (v := s.1 + 1) (ls' := [some (.ref v0), some (.ref v1), some (.ref v2), some (.int (s.1 + 1))]) (pc' := 35) ok (dOf dX1_freshen 18 rfl) rfl rfl (by rfl) (Nat.le_of_ble_eq_true rfl) rfl rfl ?_
    refine J_goto (tgt := 18) ok (dOf dX1_freshen 19 rfl) (by decide) ?_
    exact J_fin (k1 (s.1 + 1, h5))
def Bnds_freshen_b40 (v0 : Nat) (v1 : Nat) (v2 : Nat) (s : Int32 × AHeap) : Option ((Int32 × AHeap) ⊕ ((Int32 × AHeap))) :=
  (gfI s.2 v2 2 1).bind fun x6 => (if x6 ≤ s.1 then some (.inr (s.1, s.2)) else (chk s.2 v0 1).bind fun _ => bnd2 (Bnds_include v0 v1 v2 s.1 s.2) fun _ h7 => some (.inl (s.1 + 1, h7)))
theorem Bnds_freshen_b40_J {E : JE} {l : Launch} {G : GX} {r : Option Value} {h' : AHeap} (ok : JOK E l G kBnds_freshen 0 0 r h') (v0 : Nat) (v1 : Nat) (v2 : Nat) {Y : (Int32 × AHeap) ⊕ ((Int32 × AHeap)) → Prop} (k1 : ∀ s' : Int32 × AHeap, Y (.inl s') → JW E kBnds_freshen 40 [some (.ref v0), some (.ref v1), some (.ref v2), some (.int s'.1)] [] s'.2 0 0) (kx61 : ∀ q : Int32 × AHeap, Y (.inr q) → JW E kBnds_freshen 61 [some (.ref v0), some (.ref v1), some (.ref v2), some (.int q.1)] [] q.2 0 0) (s : Int32 × AHeap) : J E kBnds_freshen (Bnds_freshen_b40 v0 v1 v2 s) Y 40 [some (.ref v0), some (.ref v1), some (.ref v2), some (.int s.1)] [] s.2 0 0 := by
  unfold Bnds_freshen_b40
  refine J_iload_n (pc' := 41) ok (dOf dX1_freshen 22 rfl) rfl rfl rfl ?_
  refine J_aload_n (pc' := 42) ok (dOf dX1_freshen 23 rfl) rfl rfl rfl ?_
  refine J_getI (ci := 2) (kf := 1) (C := RX2) (T := TX2) (N := 7) (pc' := 45) ok (dOf dX1_freshen 24 rfl) rfl (by decide) rfl (by decide) win_2 wfl_X1_29 (fun x6 => ?_)
  refine J_icmp_ge (tgt := 61) (pc' := 48) ok (dOf dX1_freshen 25 rfl) rfl (by decide) ?_ ?_
  · exact J_fin (kx61 (s.1, s.2))
  · refine J_aload_n (pc' := 49) ok (dOf dX1_freshen 26 rfl) rfl rfl rfl ?_
    refine J_aload_n (pc' := 50) ok (dOf dX1_freshen 27 rfl) rfl rfl rfl ?_
    refine J_aload_n (pc' := 51) ok (dOf dX1_freshen 28 rfl) rfl rfl rfl ?_
    refine J_iload_n (pc' := 52) ok (dOf dX1_freshen 29 rfl) rfl rfl rfl ?_
    refine J_callVv (k2 := kBnds_include) (ci := 1) (T := TX1) (N := 3) (as := [.ref v1, .ref v2, .int s.1]) (pc' := 55) ok (dOf dX1_freshen 30 rfl) rfl (cw_Bnds_include (by decide) (by decide)) wml_X1_35 winst_X1_include wsel_X1_include rfl ⟨Nat.le_refl 0, Nat.le_refl 0⟩ (Nat.le_of_ble_eq_true rfl) rfl (fun _ _ hf => t_Bnds_include hf) (fun _ h7 => ?_)
    refine J_iinc (v := s.1 + 1) (ls' := [some (.ref v0), some (.ref v1), some (.ref v2), some (.int (s.1 + 1))]) (pc' := 58) ok (dOf dX1_freshen 31 rfl) rfl rfl (by rfl) (Nat.le_of_ble_eq_true rfl) rfl rfl ?_
    refine J_goto (tgt := 40) ok (dOf dX1_freshen 32 rfl) (by decide) ?_
    exact J_fin (k1 (s.1 + 1, h7))
def Bnds_freshen_j61 (v0 : Nat) (v1 : Nat) (v2 : Nat) (v3 : Int32) (h : AHeap) : Option (Unit × AHeap) :=
  (bz 0).bind fun x9 => (pfV h v0 1 0 (.int x9)).bind fun h8 => some ((), h8)
theorem Bnds_freshen_j61_J {E : JE} {l : Launch} {G : GX} {h' : AHeap} (ok : JOK E l G kBnds_freshen 0 0 none h') (v0 : Nat) (v1 : Nat) (v2 : Nat) (v3 : Int32) (h : AHeap) : J E kBnds_freshen (Bnds_freshen_j61 v0 v1 v2 v3 h) (fun z => z = ((), h')) 61 [some (.ref v0), some (.ref v1), some (.ref v2), some (.int v3)] [] h 0 0 := by
  unfold Bnds_freshen_j61
  refine J_aload_n (pc' := 62) ok (dOf dX1_freshen 33 rfl) rfl rfl rfl ?_
  refine J_iconst (v := 0) (pc' := 63) ok (dOf dX1_freshen 34 rfl) rfl (by decide) ?_
  refine J_putZ (ci := 1) (kf := 0) (C := RX1) (T := TX1) (N := 3) (pc' := 66) ok tyX1 (dOf dX1_freshen 35 rfl) rfl rfl (by decide) win_1 tyX1_ok nmX1 rfl rfl wfl_X1_9 (fun h8 _ => ?_)
  exact J_vreturn ok (dOf dX1_freshen 36 rfl) rfl (Nat.le_refl 0) (Nat.le_refl 0)
def Bnds_freshen_j38 (v0 : Nat) (v1 : Nat) (v2 : Nat) (v3 : Int32) (h : AHeap) : Option (Unit × AHeap) :=
  (iter (Bnds_freshen_b40 v0 v1 v2) Lmax (0, h)).bind (fun q40 => Bnds_freshen_j61 v0 v1 v2 q40.1 q40.2)
theorem Bnds_freshen_j38_J {E : JE} {l : Launch} {G : GX} {h' : AHeap} (ok : JOK E l G kBnds_freshen 0 0 none h') (v0 : Nat) (v1 : Nat) (v2 : Nat) (v3 : Int32) (h : AHeap) : J E kBnds_freshen (Bnds_freshen_j38 v0 v1 v2 v3 h) (fun z => z = ((), h')) 38 [some (.ref v0), some (.ref v1), some (.ref v2), some (.int v3)] [] h 0 0 := by
  unfold Bnds_freshen_j38
  refine J_iconst (v := 0) (pc' := 39) ok (dOf dX1_freshen 20 rfl) rfl (by decide) ?_
  refine J_istore_n (ls' := [some (.ref v0), some (.ref v1), some (.ref v2), some (.int 0)]) (pc' := 40) ok (dOf dX1_freshen 21 rfl) rfl rfl (Nat.le_of_ble_eq_true rfl) rfl rfl ?_
  refine J_iter (lf := fun z40 => [some (.ref v0), some (.ref v1), some (.ref v2), some (.int z40.1)]) (sf := fun _ => []) (hf := fun z40 => z40.2) (px := (fun q40 => 61)) (lx := (fun q40 => [some (.ref v0), some (.ref v1), some (.ref v2), some (.int q40.1)])) (sx := (fun q40 => [])) (hx := (fun q40 => q40.2)) (fun Y2 z40 m1 m2 => Bnds_freshen_b40_J ok v0 v1 v2 m1 m2 z40) (fun q40 => ?_) Lmax _
  exact Bnds_freshen_j61_J ok v0 v1 v2 q40.1 q40.2
def Bnds_freshen (v0 : Nat) (v1 : Nat) (v2 : Nat) (h : AHeap) : Option (Unit × AHeap) :=
  (gfI h v0 1 0).bind fun x1 => (if ¬ x1 = 0 then (gfR h v0 1 1).bind fun a2 => bnd2 (J7_fill a2 0 h) fun _ h3 => (iter (Bnds_freshen_b18 v0 v1 v2) Lmax (0, h3)).bind (fun q18 => Bnds_freshen_j38 v0 v1 v2 q18.1 q18.2) else some ((), h))
theorem t_Bnds_freshen {l : Launch} {G : GX} {v0 : Nat} {v1 : Nat} {v2 : Nat} {h : AHeap} {h1 : AHeap} (hf : Bnds_freshen v0 v1 v2 h = some ((), h1)) : CT l G kBnds_freshen 0 0 [.ref v0, .ref v1, .ref v2] h none h1 := by
  refine CT_of (ls := [some (.ref v0), some (.ref v1), some (.ref v2), none]) (Z := fun z => z = ((), h1)) (by decide +kernel) (Nat.le_of_ble_eq_true rfl) hf rfl ⟨rfl, rfl, rfl, trivial⟩ (fun E ok => ?_)
  unfold Bnds_freshen
  refine J_aload_n (pc' := 1) ok (dOf dX1_freshen 0 rfl) rfl rfl rfl ?_
  refine J_getI (ci := 1) (kf := 0) (C := RX1) (T := TX1) (N := 3) (pc' := 4) ok (dOf dX1_freshen 1 rfl) rfl (by decide) rfl (by decide) win_1 wfl_X1_9 (fun x1 => ?_)
  refine J_if_ne (tgt := 8) (pc' := 7) ok (dOf dX1_freshen 2 rfl) rfl (by decide) ?_ ?_
  · refine J_aload_n (pc' := 9) ok (dOf dX1_freshen 4 rfl) rfl rfl rfl ?_
    refine J_getR (ci := 1) (kf := 1) (C := RX1) (T := TX1) (N := 3) (pc' := 12) ok (dOf dX1_freshen 5 rfl) rfl (by decide) rfl (by decide) win_1 wfl_X1_15 (fun a2 => ?_)
    refine J_iconst (v := 0) (pc' := 13) ok (dOf dX1_freshen 6 rfl) rfl (by decide) ?_
    refine J_callSv (k2 := kJ7_fill) (as := [.ref a2, .int 0]) (pc' := 16) ok (dOf dX1_freshen 7 rfl) rfl (cw_J7_fill (by decide) (by decide)) wml_X1_23 wstat_J7_fill_53178 ⟨Nat.le_refl 0, Nat.le_refl 0⟩ (Nat.le_of_ble_eq_true rfl) rfl (fun _ _ hf => t_J7_fill hf) (fun _ h3 => ?_)
    refine J_iconst (v := 0) (pc' := 17) ok (dOf dX1_freshen 8 rfl) rfl (by decide) ?_
    refine J_istore_n (ls' := [some (.ref v0), some (.ref v1), some (.ref v2), some (.int 0)]) (pc' := 18) ok (dOf dX1_freshen 9 rfl) rfl rfl (Nat.le_of_ble_eq_true rfl) rfl rfl ?_
    refine J_iter (lf := fun z18 => [some (.ref v0), some (.ref v1), some (.ref v2), some (.int z18.1)]) (sf := fun _ => []) (hf := fun z18 => z18.2) (px := (fun q18 => 38)) (lx := (fun q18 => [some (.ref v0), some (.ref v1), some (.ref v2), some (.int q18.1)])) (sx := (fun q18 => [])) (hx := (fun q18 => q18.2)) (fun Y2 z18 m1 m2 => Bnds_freshen_b18_J ok v0 v1 v2 m1 m2 z18) (fun q18 => ?_) Lmax _
    exact Bnds_freshen_j38_J ok v0 v1 v2 q18.1 q18.2
  · exact J_vreturn ok (dOf dX1_freshen 3 rfl) rfl (Nat.le_refl 0) (Nat.le_refl 0)
-- X10_unitsIn
abbrev kSp_unitsIn : Cd := (yX10_unitsIn, cX10_unitsIn, 2, (some .int), 0, 0)
theorem dX10_unitsIn : dcheck cX10_unitsIn [(0, .iload_n 0, 1), (1, .iconst 2, 1), (2, .iload_n 1, 1), (3, .imul, 1), (4, .ishr, 1), (5, .iconst 3, 1), (6, .iand, 1), (7, .ireturn, 1)] = true := by decide +kernel
theorem cw_Sp_unitsIn {k : Cd} (h1 : kSp_unitsIn.2.2.2.2.1 + 1 ≤ k.2.2.2.2.1) (h2 : 8 + (kSp_unitsIn.2.2.1 + 11) + kSp_unitsIn.2.2.2.2.2 ≤ k.2.2.2.2.2) : Cw k kSp_unitsIn 2 := ⟨wcode_X10_unitsIn, wini_SplitProgram, ⟨by decide, by decide, by decide +kernel⟩, h1, h2⟩
def Sp_unitsIn (v0 : Int32) (v1 : Int32) (h : AHeap) : Option (Int32 × AHeap) :=
  some ((v0 >>> ((2 * v1) &&& 31)) &&& 3, h)
theorem t_Sp_unitsIn {l : Launch} {G : GX} {v0 : Int32} {v1 : Int32} {h : AHeap} {v : Int32} {h1 : AHeap} (hf : Sp_unitsIn v0 v1 h = some (v, h1)) : CT l G kSp_unitsIn 0 0 [.int v0, .int v1] h (some (.int v)) h1 := by
  refine CT_of (ls := [some (.int v0), some (.int v1)]) (Z := fun z => z = (v, h1)) (by decide +kernel) (Nat.le_of_ble_eq_true rfl) hf rfl ⟨rfl, rfl, trivial⟩ (fun E ok => ?_)
  unfold Sp_unitsIn
  refine J_iload_n (pc' := 1) ok (dOf dX10_unitsIn 0 rfl) rfl rfl rfl ?_
  refine J_iconst (v := 2) (pc' := 2) ok (dOf dX10_unitsIn 1 rfl) rfl (by decide) ?_
  refine J_iload_n (pc' := 3) ok (dOf dX10_unitsIn 2 rfl) rfl rfl rfl ?_
  refine J_imul (pc' := 4) ok (dOf dX10_unitsIn 3 rfl) rfl ?_
  refine J_ishr (pc' := 5) ok (dOf dX10_unitsIn 4 rfl) rfl ?_
  refine J_iconst (v := 3) (pc' := 6) ok (dOf dX10_unitsIn 5 rfl) rfl (by decide) ?_
  refine J_iand (pc' := 7) ok (dOf dX10_unitsIn 6 rfl) rfl ?_
  exact J_ireturn ok (dOf dX10_unitsIn 7 rfl) rfl (Nat.le_refl 0) (Nat.le_refl 0)
-- X6_isPlan
abbrev kProg_isPlan : Cd := (yX6_isPlan, cX6_isPlan, 3, (some .boolean), 1, 21)
theorem dX6_isPlan : dcheck cX6_isPlan [(0, .iload_n 1, 1), (1, .ifCond .lt 10, 3), (4, .iload_n 1, 1), (5, .sipush 256, 3), (8, .if_icmp .lt 5, 3), (11, .iconst 0, 1), (12, .ireturn, 1), (13, .iconst 0, 1), (14, .istore_n 2, 1), (15, .iload_n 2, 1), (16, .iconst 4, 1), (17, .if_icmp .ge 25, 3), (20, .iload_n 1, 1), (21, .iload_n 2, 1), (22, .invokestatic 52, 3), (25, .aload_n 0, 1), (26, .getfield 18, 3), (29, .iload_n 2, 1), (30, .iaload, 1), (31, .if_icmp .le 5, 3), (34, .iconst 0, 1), (35, .ireturn, 1), (36, .iinc 2 1, 3), (39, .goto (-24), 3), (42, .iconst 1, 1), (43, .ireturn, 1)] = true := by decide +kernel
theorem cw_Prog_isPlan {k : Cd} (h1 : kProg_isPlan.2.2.2.2.1 + 1 ≤ k.2.2.2.2.1) (h2 : 8 + (kProg_isPlan.2.2.1 + 11) + kProg_isPlan.2.2.2.2.2 ≤ k.2.2.2.2.2) : Cw k kProg_isPlan 1 := ⟨wcode_X6_isPlan, wini_SplitProgram_Program, ⟨by decide, by decide, by decide +kernel⟩, h1, h2⟩
def Prog_isPlan_j11 (v0 : Nat) (v1 : Int32) (h : AHeap) : Option (Int32 × AHeap) :=
  (bz 0).bind fun z => some (z, h)
theorem Prog_isPlan_j11_J {E : JE} {l : Launch} {G : GX} {v : Int32} {h' : AHeap} (ok : JOK E l G kProg_isPlan 0 0 (some (.int v)) h') (v0 : Nat) (v1 : Int32) (h : AHeap) : J E kProg_isPlan (Prog_isPlan_j11 v0 v1 h) (fun z => z = (v, h')) 11 [some (.ref v0), some (.int v1), none] [] h 0 0 := by
  unfold Prog_isPlan_j11
  refine J_iconst (v := 0) (pc' := 12) ok (dOf dX6_isPlan 5 rfl) rfl (by decide) ?_
  exact J_zreturn ok (dOf dX6_isPlan 6 rfl) rfl (Nat.le_refl 0) (Nat.le_refl 0)
def Prog_isPlan_b15 (v0 : Nat) (v1 : Int32) (s : Int32 × AHeap) : Option ((Int32 × AHeap) ⊕ ((Int32 × AHeap) ⊕ (Int32 × AHeap))) :=
  (if 4 ≤ s.1 then some (.inr (.inr (s.1, s.2))) else bnd2 (Sp_unitsIn v1 s.1 s.2) fun x2 h1 => (gfR h1 v0 6 5).bind fun a3 => (ald 0 h1 a3 s.1).bind fun x4 => (if x2 ≤ x4 then some (.inl (s.1 + 1, h1)) else some (.inr (.inl (s.1, h1)))))
theorem Prog_isPlan_b15_J {E : JE} {l : Launch} {G : GX} {r : Option Value} {h' : AHeap} (ok : JOK E l G kProg_isPlan 0 0 r h') (v0 : Nat) (v1 : Int32) {Y : (Int32 × AHeap) ⊕ ((Int32 × AHeap) ⊕ (Int32 × AHeap)) → Prop} (k1 : ∀ s' : Int32 × AHeap, Y (.inl s') → JW E kProg_isPlan 15 [some (.ref v0), some (.int v1), some (.int s'.1)] [] s'.2 0 0) (kx34 : ∀ q : Int32 × AHeap, Y (.inr (.inl q)) → JW E kProg_isPlan 34 [some (.ref v0), some (.int v1), some (.int q.1)] [] q.2 0 0) (kx42 : ∀ q : Int32 × AHeap, Y (.inr (.inr q)) → JW E kProg_isPlan 42 [some (.ref v0), some (.int v1), some (.int q.1)] [] q.2 0 0) (s : Int32 × AHeap) : J E kProg_isPlan (Prog_isPlan_b15 v0 v1 s) Y 15 [some (.ref v0), some (.int v1), some (.int s.1)] [] s.2 0 0 := by
  unfold Prog_isPlan_b15
  refine J_iload_n (pc' := 16) ok (dOf dX6_isPlan 9 rfl) rfl rfl rfl ?_
  refine J_iconst (v := 4) (pc' := 17) ok (dOf dX6_isPlan 10 rfl) rfl (by decide) ?_
  refine J_icmp_ge (tgt := 42) (pc' := 20) ok (dOf dX6_isPlan 11 rfl) rfl (by decide) ?_ ?_
  · exact J_fin (kx42 (s.1, s.2))
  · refine J_iload_n (pc' := 21) ok (dOf dX6_isPlan 12 rfl) rfl rfl rfl ?_
    refine J_iload_n (pc' := 22) ok (dOf dX6_isPlan 13 rfl) rfl rfl rfl ?_
    refine J_callSNi (k2 := kSp_unitsIn) (as := [.int v1, .int s.1]) (pc' := 25) ok (dOf dX6_isPlan 14 rfl) rfl (cw_Sp_unitsIn (by decide) (by decide)) wmn_X6_52 wstat_X10_unitsIn ⟨Nat.le_refl 0, Nat.le_refl 0⟩ (Nat.le_of_ble_eq_true rfl) rfl (fun _ _ hf => t_Sp_unitsIn hf) (fun x2 h1 => ?_)
    refine J_aload_n (pc' := 26) ok (dOf dX6_isPlan 15 rfl) rfl rfl rfl ?_
    refine J_getR (ci := 6) (kf := 5) (C := RX6) (T := TX6) (N := 9) (pc' := 29) ok (dOf dX6_isPlan 16 rfl) rfl (by decide) rfl (by decide) win_6 wfl_X6_18 (fun a3 => ?_)
    refine J_iload_n (pc' := 30) ok (dOf dX6_isPlan 17 rfl) rfl rfl rfl ?_
    refine J_iald (pc' := 31) ok (dOf dX6_isPlan 18 rfl) rfl (fun x4 => ?_)
    refine J_icmp_le (tgt := 36) (pc' := 34) ok (dOf dX6_isPlan 19 rfl) rfl (by decide) ?_ ?_
    · refine J_iinc (v := s.1 + 1) (ls' := [some (.ref v0), some (.int v1), some (.int (s.1 + 1))]) (pc' := 39) ok (dOf dX6_isPlan 22 rfl) rfl rfl (by rfl) (Nat.le_of_ble_eq_true rfl) rfl rfl ?_
      refine J_goto (tgt := 15) ok (dOf dX6_isPlan 23 rfl) (by decide) ?_
      exact J_fin (k1 (s.1 + 1, h1))
    · exact J_fin (kx34 (s.1, h1))
def Prog_isPlan_j34 (v0 : Nat) (v1 : Int32) (v2 : Int32) (h : AHeap) : Option (Int32 × AHeap) :=
  (bz 0).bind fun z => some (z, h)
theorem Prog_isPlan_j34_J {E : JE} {l : Launch} {G : GX} {v : Int32} {h' : AHeap} (ok : JOK E l G kProg_isPlan 0 0 (some (.int v)) h') (v0 : Nat) (v1 : Int32) (v2 : Int32) (h : AHeap) : J E kProg_isPlan (Prog_isPlan_j34 v0 v1 v2 h) (fun z => z = (v, h')) 34 [some (.ref v0), some (.int v1), some (.int v2)] [] h 0 0 := by
  unfold Prog_isPlan_j34
  refine J_iconst (v := 0) (pc' := 35) ok (dOf dX6_isPlan 20 rfl) rfl (by decide) ?_
  exact J_zreturn ok (dOf dX6_isPlan 21 rfl) rfl (Nat.le_refl 0) (Nat.le_refl 0)
def Prog_isPlan_j42 (v0 : Nat) (v1 : Int32) (v2 : Int32) (h : AHeap) : Option (Int32 × AHeap) :=
  (bz 1).bind fun z => some (z, h)
theorem Prog_isPlan_j42_J {E : JE} {l : Launch} {G : GX} {v : Int32} {h' : AHeap} (ok : JOK E l G kProg_isPlan 0 0 (some (.int v)) h') (v0 : Nat) (v1 : Int32) (v2 : Int32) (h : AHeap) : J E kProg_isPlan (Prog_isPlan_j42 v0 v1 v2 h) (fun z => z = (v, h')) 42 [some (.ref v0), some (.int v1), some (.int v2)] [] h 0 0 := by
  unfold Prog_isPlan_j42
  refine J_iconst (v := 1) (pc' := 43) ok (dOf dX6_isPlan 24 rfl) rfl (by decide) ?_
  exact J_zreturn ok (dOf dX6_isPlan 25 rfl) rfl (Nat.le_refl 0) (Nat.le_refl 0)
def Prog_isPlan (v0 : Nat) (v1 : Int32) (h : AHeap) : Option (Int32 × AHeap) :=
  (if v1 < 0 then Prog_isPlan_j11 v0 v1 h else (if v1 < 256 then (iter (Prog_isPlan_b15 v0 v1) Lmax (0, h)).bind (Sum.elim (fun q15 => Prog_isPlan_j34 v0 v1 q15.1 q15.2) (fun q15 => Prog_isPlan_j42 v0 v1 q15.1 q15.2)) else Prog_isPlan_j11 v0 v1 h))
theorem t_Prog_isPlan {l : Launch} {G : GX} {v0 : Nat} {v1 : Int32} {h : AHeap} {v : Int32} {h1 : AHeap} (hf : Prog_isPlan v0 v1 h = some (v, h1)) : CT l G kProg_isPlan 0 0 [.ref v0, .int v1] h (some (.int v)) h1 := by
  refine CT_of (ls := [some (.ref v0), some (.int v1), none]) (Z := fun z => z = (v, h1)) (by decide +kernel) (Nat.le_of_ble_eq_true rfl) hf rfl ⟨rfl, rfl, trivial⟩ (fun E ok => ?_)
  unfold Prog_isPlan
  refine J_iload_n (pc' := 1) ok (dOf dX6_isPlan 0 rfl) rfl rfl rfl ?_
  refine J_if_lt (tgt := 11) (pc' := 4) ok (dOf dX6_isPlan 1 rfl) rfl (by decide) ?_ ?_
  · exact Prog_isPlan_j11_J ok v0 v1 h
  · refine J_iload_n (pc' := 5) ok (dOf dX6_isPlan 2 rfl) rfl rfl rfl ?_
    refine J_sipush (v := 256) (pc' := 8) ok (dOf dX6_isPlan 3 rfl) rfl (by decide) ?_
    refine J_icmp_lt (tgt := 13) (pc' := 11) ok (dOf dX6_isPlan 4 rfl) rfl (by decide) ?_ ?_
    · refine J_iconst (v := 0) (pc' := 14) ok (dOf dX6_isPlan 7 rfl) rfl (by decide) ?_
      refine J_istore_n (ls' := [some (.ref v0), some (.int v1), some (.int 0)]) (pc' := 15) ok (dOf dX6_isPlan 8 rfl) rfl rfl (Nat.le_of_ble_eq_true rfl) rfl rfl ?_
      refine J_iter (lf := fun z15 => [some (.ref v0), some (.int v1), some (.int z15.1)]) (sf := fun _ => []) (hf := fun z15 => z15.2) (px := (Sum.elim (fun q15 => 34) (fun q15 => 42))) (lx := (Sum.elim (fun q15 => [some (.ref v0), some (.int v1), some (.int q15.1)]) (fun q15 => [some (.ref v0), some (.int v1), some (.int q15.1)]))) (sx := (Sum.elim (fun q15 => []) (fun q15 => []))) (hx := (Sum.elim (fun q15 => q15.2) (fun q15 => q15.2))) (fun Y2 z15 m1 m2 => Prog_isPlan_b15_J ok v0 v1 m1 (fun q hq => m2 (.inl q) hq) (fun q hq => m2 (.inr q) hq) z15) (fun q15 => ?_) Lmax _
      rcases q15 with q15 | q15
      · show J E kProg_isPlan (Prog_isPlan_j34 v0 v1 q15.1 q15.2) _ 34 [some (.ref v0), some (.int v1), some (.int q15.1)] [] q15.2 0 0
        exact Prog_isPlan_j34_J ok v0 v1 q15.1 q15.2
      · show J E kProg_isPlan (Prog_isPlan_j42 v0 v1 q15.1 q15.2) _ 42 [some (.ref v0), some (.int v1), some (.int q15.1)] [] q15.2 0 0
        exact Prog_isPlan_j42_J ok v0 v1 q15.1 q15.2
    · exact Prog_isPlan_j11_J ok v0 v1 h
-- X6_feesOf
abbrev kProg_feesOf : Cd := (yX6_feesOf, cX6_feesOf, 4, (some .int), 1, 21)
theorem dX6_feesOf : dcheck cX6_feesOf [(0, .iconst 0, 1), (1, .istore_n 2, 1), (2, .iconst 0, 1), (3, .istore_n 3, 1), (4, .iload_n 3, 1), (5, .aload_n 0, 1), (6, .getfield 36, 3), (9, .if_icmp .ge 24, 3), (12, .iload_n 2, 1), (13, .iload_n 1, 1), (14, .iload_n 3, 1), (15, .invokestatic 52, 3), (18, .aload_n 0, 1), (19, .getfield 9, 3), (22, .iload_n 3, 1), (23, .iaload, 1), (24, .imul, 1), (25, .iadd, 1), (26, .istore_n 2, 1), (27, .iinc 3 1, 3), (30, .goto (-26), 3), (33, .iload_n 2, 1), (34, .ireturn, 1)] = true := by decide +kernel
theorem cw_Prog_feesOf {k : Cd} (h1 : kProg_feesOf.2.2.2.2.1 + 1 ≤ k.2.2.2.2.1) (h2 : 8 + (kProg_feesOf.2.2.1 + 11) + kProg_feesOf.2.2.2.2.2 ≤ k.2.2.2.2.2) : Cw k kProg_feesOf 1 := ⟨wcode_X6_feesOf, wini_SplitProgram_Program, ⟨by decide, by decide, by decide +kernel⟩, h1, h2⟩
def Prog_feesOf_b4 (v0 : Nat) (v1 : Int32) (s : Int32 × Int32 × AHeap) : Option ((Int32 × Int32 × AHeap) ⊕ ((Int32 × Int32 × AHeap))) :=
  (gfI s.2.2 v0 6 0).bind fun x1 => (if x1 ≤ s.2.1 then some (.inr (s.1, s.2.1, s.2.2)) else bnd2 (Sp_unitsIn v1 s.2.1 s.2.2) fun x3 h2 => (gfR h2 v0 6 3).bind fun a4 => (ald 0 h2 a4 s.2.1).bind fun x5 => some (.inl (s.1 + (x3 * x5), s.2.1 + 1, h2)))
theorem Prog_feesOf_b4_J {E : JE} {l : Launch} {G : GX} {r : Option Value} {h' : AHeap} (ok : JOK E l G kProg_feesOf 0 0 r h') (v0 : Nat) (v1 : Int32) {Y : (Int32 × Int32 × AHeap) ⊕ ((Int32 × Int32 × AHeap)) → Prop} (k1 : ∀ s' : Int32 × Int32 × AHeap, Y (.inl s') → JW E kProg_feesOf 4 [some (.ref v0), some (.int v1), some (.int s'.1), some (.int s'.2.1)] [] s'.2.2 0 0) (kx33 : ∀ q : Int32 × Int32 × AHeap, Y (.inr q) → JW E kProg_feesOf 33 [some (.ref v0), some (.int v1), some (.int q.1), some (.int q.2.1)] [] q.2.2 0 0) (s : Int32 × Int32 × AHeap) : J E kProg_feesOf (Prog_feesOf_b4 v0 v1 s) Y 4 [some (.ref v0), some (.int v1), some (.int s.1), some (.int s.2.1)] [] s.2.2 0 0 := by
  unfold Prog_feesOf_b4
  refine J_iload_n (pc' := 5) ok (dOf dX6_feesOf 4 rfl) rfl rfl rfl ?_
  refine J_aload_n (pc' := 6) ok (dOf dX6_feesOf 5 rfl) rfl rfl rfl ?_
  refine J_getI (ci := 6) (kf := 0) (C := RX6) (T := TX6) (N := 9) (pc' := 9) ok (dOf dX6_feesOf 6 rfl) rfl (by decide) rfl (by decide) win_6 wfl_X6_36 (fun x1 => ?_)
  refine J_icmp_ge (tgt := 33) (pc' := 12) ok (dOf dX6_feesOf 7 rfl) rfl (by decide) ?_ ?_
  · exact J_fin (kx33 (s.1, s.2.1, s.2.2))
  · refine J_iload_n (pc' := 13) ok (dOf dX6_feesOf 8 rfl) rfl rfl rfl ?_
    refine J_iload_n (pc' := 14) ok (dOf dX6_feesOf 9 rfl) rfl rfl rfl ?_
    refine J_iload_n (pc' := 15) ok (dOf dX6_feesOf 10 rfl) rfl rfl rfl ?_
    refine J_callSNi (k2 := kSp_unitsIn) (as := [.int v1, .int s.2.1]) (pc' := 18) ok (dOf dX6_feesOf 11 rfl) rfl (cw_Sp_unitsIn (by decide) (by decide)) wmn_X6_52 wstat_X10_unitsIn ⟨Nat.le_refl 0, Nat.le_refl 0⟩ (Nat.le_of_ble_eq_true rfl) rfl (fun _ _ hf => t_Sp_unitsIn hf) (fun x3 h2 => ?_)
    refine J_aload_n (pc' := 19) ok (dOf dX6_feesOf 12 rfl) rfl rfl rfl ?_
    refine J_getR (ci := 6) (kf := 3) (C := RX6) (T := TX6) (N := 9) (pc' := 22) ok (dOf dX6_feesOf 13 rfl) rfl (by decide) rfl (by decide) win_6 wfl_X6_9 (fun a4 => ?_)
    refine J_iload_n (pc' := 23) ok (dOf dX6_feesOf 14 rfl) rfl rfl rfl ?_
    refine J_iald (pc' := 24) ok (dOf dX6_feesOf 15 rfl) rfl (fun x5 => ?_)
    refine J_imul (pc' := 25) ok (dOf dX6_feesOf 16 rfl) rfl ?_
    refine J_iadd (pc' := 26) ok (dOf dX6_feesOf 17 rfl) rfl ?_
    refine J_istore_n (ls' := [some (.ref v0), some (.int v1), some (.int (s.1 + (x3 * x5))), some (.int s.2.1)]) (pc' := 27) ok (dOf dX6_feesOf 18 rfl) rfl rfl (Nat.le_of_ble_eq_true rfl) rfl rfl ?_
    refine J_iinc (v := s.2.1 + 1) (ls' := [some (.ref v0), some (.int v1), some (.int (s.1 + (x3 * x5))), some (.int (s.2.1 + 1))]) (pc' := 30) ok (dOf dX6_feesOf 19 rfl) rfl rfl (by rfl) (Nat.le_of_ble_eq_true rfl) rfl rfl ?_
    refine J_goto (tgt := 4) ok (dOf dX6_feesOf 20 rfl) (by decide) ?_
    exact J_fin (k1 (s.1 + (x3 * x5), s.2.1 + 1, h2))
def Prog_feesOf_j33 (v0 : Nat) (v1 : Int32) (v2 : Int32) (v3 : Int32) (h : AHeap) : Option (Int32 × AHeap) :=
  some (v2, h)
theorem Prog_feesOf_j33_J {E : JE} {l : Launch} {G : GX} {v : Int32} {h' : AHeap} (ok : JOK E l G kProg_feesOf 0 0 (some (.int v)) h') (v0 : Nat) (v1 : Int32) (v2 : Int32) (v3 : Int32) (h : AHeap) : J E kProg_feesOf (Prog_feesOf_j33 v0 v1 v2 v3 h) (fun z => z = (v, h')) 33 [some (.ref v0), some (.int v1), some (.int v2), some (.int v3)] [] h 0 0 := by
  unfold Prog_feesOf_j33
  refine J_iload_n (pc' := 34) ok (dOf dX6_feesOf 21 rfl) rfl rfl rfl ?_
  exact J_ireturn ok (dOf dX6_feesOf 22 rfl) rfl (Nat.le_refl 0) (Nat.le_refl 0)
def Prog_feesOf (v0 : Nat) (v1 : Int32) (h : AHeap) : Option (Int32 × AHeap) :=
  (iter (Prog_feesOf_b4 v0 v1) Lmax (0, 0, h)).bind (fun q4 => Prog_feesOf_j33 v0 v1 q4.1 q4.2.1 q4.2.2)
theorem t_Prog_feesOf {l : Launch} {G : GX} {v0 : Nat} {v1 : Int32} {h : AHeap} {v : Int32} {h1 : AHeap} (hf : Prog_feesOf v0 v1 h = some (v, h1)) : CT l G kProg_feesOf 0 0 [.ref v0, .int v1] h (some (.int v)) h1 := by
  refine CT_of (ls := [some (.ref v0), some (.int v1), none, none]) (Z := fun z => z = (v, h1)) (by decide +kernel) (Nat.le_of_ble_eq_true rfl) hf rfl ⟨rfl, rfl, trivial⟩ (fun E ok => ?_)
  unfold Prog_feesOf
  refine J_iconst (v := 0) (pc' := 1) ok (dOf dX6_feesOf 0 rfl) rfl (by decide) ?_
  refine J_istore_n (ls' := [some (.ref v0), some (.int v1), some (.int 0), none]) (pc' := 2) ok (dOf dX6_feesOf 1 rfl) rfl rfl (Nat.le_of_ble_eq_true rfl) rfl rfl ?_
  refine J_iconst (v := 0) (pc' := 3) ok (dOf dX6_feesOf 2 rfl) rfl (by decide) ?_
  refine J_istore_n (ls' := [some (.ref v0), some (.int v1), some (.int 0), some (.int 0)]) (pc' := 4) ok (dOf dX6_feesOf 3 rfl) rfl rfl (Nat.le_of_ble_eq_true rfl) rfl rfl ?_
  refine J_iter (lf := fun z4 => [some (.ref v0), some (.int v1), some (.int z4.1), some (.int z4.2.1)]) (sf := fun _ => []) (hf := fun z4 => z4.2.2) (px := (fun q4 => 33)) (lx := (fun q4 => [some (.ref v0), some (.int v1), some (.int q4.1), some (.int q4.2.1)])) (sx := (fun q4 => [])) (hx := (fun q4 => q4.2.2)) (fun Y2 z4 m1 m2 => Prog_feesOf_b4_J ok v0 v1 m1 m2 z4) (fun q4 => ?_) Lmax _
  exact Prog_feesOf_j33_J ok v0 v1 q4.1 q4.2.1 q4.2.2
-- X1_floorAt
abbrev kBnds_floorAt : Cd := (yX1_floorAt, cX1_floorAt, 5, (some .int), 2, 44)
theorem dX1_floorAt : dcheck cX1_floorAt [(0, .aload_n 0, 1), (1, .getfield 19, 3), (4, .iload_n 2, 1), (5, .baload, 1), (6, .ifCond .eq 5, 3), (9, .iconst (-1), 1), (10, .ireturn, 1), (11, .aload_n 1, 1), (12, .iload_n 2, 1), (13, .invokevirtual 58, 3), (16, .istore_n 3, 1), (17, .iconst 0, 1), (18, .istore 4, 2), (20, .iload 4, 2), (22, .aload_n 1, 1), (23, .getfield 62, 3), (26, .if_icmp .ge 33, 3), (29, .iload_n 3, 1), (30, .aload_n 1, 1), (31, .getfield 64, 3), (34, .iload 4, 2), (36, .iaload, 1), (37, .aload_n 0, 1), (38, .getfield 15, 3), (41, .iload 4, 2), (43, .sipush 256, 3), (46, .imul, 1), (47, .iload_n 2, 1), (48, .iadd, 1), (49, .iaload, 1), (50, .imul, 1), (51, .iadd, 1), (52, .istore_n 3, 1), (53, .iinc 4 1, 3), (56, .goto (-36), 3), (59, .iload_n 3, 1), (60, .ireturn, 1)] = true := by decide +kernel
theorem cw_Bnds_floorAt {k : Cd} (h1 : kBnds_floorAt.2.2.2.2.1 + 1 ≤ k.2.2.2.2.1) (h2 : 8 + (kBnds_floorAt.2.2.1 + 11) + kBnds_floorAt.2.2.2.2.2 ≤ k.2.2.2.2.2) : Cw k kBnds_floorAt 2 := ⟨wcode_X1_floorAt, wini_SplitProgram_Bounds, ⟨by decide, by decide, by decide +kernel⟩, h1, h2⟩
def Bnds_floorAt_b20 (v0 : Nat) (v1 : Nat) (v2 : Int32) (h : AHeap) (s : Int32 × Int32) : Option ((Int32 × Int32) ⊕ ((Int32 × Int32))) :=
  (gfI h v1 6 2).bind fun x5 => (if x5 ≤ s.2 then some (.inr (s.1, s.2)) else (gfR h v1 6 7).bind fun a6 => (ald 0 h a6 s.2).bind fun x7 => (gfR h v0 1 1).bind fun a8 => (ald 0 h a8 ((s.2 * 256) + v2)).bind fun x9 => some (.inl (s.1 + (x7 * x9), s.2 + 1)))
theorem Bnds_floorAt_b20_J {E : JE} {l : Launch} {G : GX} {r : Option Value} {h' : AHeap} (ok : JOK E l G kBnds_floorAt 0 0 r h') (v0 : Nat) (v1 : Nat) (v2 : Int32) (h : AHeap) {Y : (Int32 × Int32) ⊕ ((Int32 × Int32)) → Prop} (k1 : ∀ s' : Int32 × Int32, Y (.inl s') → JW E kBnds_floorAt 20 [some (.ref v0), some (.ref v1), some (.int v2), some (.int s'.1), some (.int s'.2)] [] h 0 0) (kx59 : ∀ q : Int32 × Int32, Y (.inr q) → JW E kBnds_floorAt 59 [some (.ref v0), some (.ref v1), some (.int v2), some (.int q.1), some (.int q.2)] [] h 0 0) (s : Int32 × Int32) : J E kBnds_floorAt (Bnds_floorAt_b20 v0 v1 v2 h s) Y 20 [some (.ref v0), some (.ref v1), some (.int v2), some (.int s.1), some (.int s.2)] [] h 0 0 := by
  unfold Bnds_floorAt_b20
  refine J_iload (pc' := 22) ok (dOf dX1_floorAt 13 rfl) rfl rfl ?_
  refine J_aload_n (pc' := 23) ok (dOf dX1_floorAt 14 rfl) rfl rfl rfl ?_
  refine J_getI (ci := 6) (kf := 2) (C := RX6) (T := TX6) (N := 9) (pc' := 26) ok (dOf dX1_floorAt 15 rfl) rfl (by decide) rfl (by decide) win_6 wfl_X1_62 (fun x5 => ?_)
  refine J_icmp_ge (tgt := 59) (pc' := 29) ok (dOf dX1_floorAt 16 rfl) rfl (by decide) ?_ ?_
  · exact J_fin (kx59 (s.1, s.2))
  · refine J_iload_n (pc' := 30) ok (dOf dX1_floorAt 17 rfl) rfl rfl rfl ?_
    refine J_aload_n (pc' := 31) ok (dOf dX1_floorAt 18 rfl) rfl rfl rfl ?_
    refine J_getR (ci := 6) (kf := 7) (C := RX6) (T := TX6) (N := 9) (pc' := 34) ok (dOf dX1_floorAt 19 rfl) rfl (by decide) rfl (by decide) win_6 wfl_X1_64 (fun a6 => ?_)
    refine J_iload (pc' := 36) ok (dOf dX1_floorAt 20 rfl) rfl rfl ?_
    refine J_iald (pc' := 37) ok (dOf dX1_floorAt 21 rfl) rfl (fun x7 => ?_)
    refine J_aload_n (pc' := 38) ok (dOf dX1_floorAt 22 rfl) rfl rfl rfl ?_
    refine J_getR (ci := 1) (kf := 1) (C := RX1) (T := TX1) (N := 3) (pc' := 41) ok (dOf dX1_floorAt 23 rfl) rfl (by decide) rfl (by decide) win_1 wfl_X1_15 (fun a8 => ?_)
    refine J_iload (pc' := 43) ok (dOf dX1_floorAt 24 rfl) rfl rfl ?_
    refine J_sipush (v := 256) (pc' := 46) ok (dOf dX1_floorAt 25 rfl) rfl (by decide) ?_
    refine J_imul (pc' := 47) ok (dOf dX1_floorAt 26 rfl) rfl ?_
    refine J_iload_n (pc' := 48) ok (dOf dX1_floorAt 27 rfl) rfl rfl rfl ?_
    refine J_iadd (pc' := 49) ok (dOf dX1_floorAt 28 rfl) rfl ?_
    refine J_iald (pc' := 50) ok (dOf dX1_floorAt 29 rfl) rfl (fun x9 => ?_)
    refine J_imul (pc' := 51) ok (dOf dX1_floorAt 30 rfl) rfl ?_
    refine J_iadd (pc' := 52) ok (dOf dX1_floorAt 31 rfl) rfl ?_
    refine J_istore_n (ls' := [some (.ref v0), some (.ref v1), some (.int v2), some (.int (s.1 + (x7 * x9))), some (.int s.2)]) (pc' := 53) ok (dOf dX1_floorAt 32 rfl) rfl rfl (Nat.le_of_ble_eq_true rfl) rfl rfl ?_
    refine J_iinc (v := s.2 + 1) (ls' := [some (.ref v0), some (.ref v1), some (.int v2), some (.int (s.1 + (x7 * x9))), some (.int (s.2 + 1))]) (pc' := 56) ok (dOf dX1_floorAt 33 rfl) rfl rfl (by rfl) (Nat.le_of_ble_eq_true rfl) rfl rfl ?_
    refine J_goto (tgt := 20) ok (dOf dX1_floorAt 34 rfl) (by decide) ?_
    exact J_fin (k1 (s.1 + (x7 * x9), s.2 + 1))
def Bnds_floorAt_j59 (v0 : Nat) (v1 : Nat) (v2 : Int32) (v3 : Int32) (v4 : Int32) (h : AHeap) : Option (Int32 × AHeap) :=
  some (v3, h)
theorem Bnds_floorAt_j59_J {E : JE} {l : Launch} {G : GX} {v : Int32} {h' : AHeap} (ok : JOK E l G kBnds_floorAt 0 0 (some (.int v)) h') (v0 : Nat) (v1 : Nat) (v2 : Int32) (v3 : Int32) (v4 : Int32) (h : AHeap) : J E kBnds_floorAt (Bnds_floorAt_j59 v0 v1 v2 v3 v4 h) (fun z => z = (v, h')) 59 [some (.ref v0), some (.ref v1), some (.int v2), some (.int v3), some (.int v4)] [] h 0 0 := by
  unfold Bnds_floorAt_j59
  refine J_iload_n (pc' := 60) ok (dOf dX1_floorAt 35 rfl) rfl rfl rfl ?_
  exact J_ireturn ok (dOf dX1_floorAt 36 rfl) rfl (Nat.le_refl 0) (Nat.le_refl 0)
def Bnds_floorAt (v0 : Nat) (v1 : Nat) (v2 : Int32) (h : AHeap) : Option (Int32 × AHeap) :=
  (gfR h v0 1 2).bind fun a1 => (ald 1 h a1 v2).bind fun x2 => (if x2 = 0 then (chk h v1 6).bind fun _ => bnd2 (Prog_feesOf v1 v2 h) fun x4 h3 => (iter (Bnds_floorAt_b20 v0 v1 v2 h3) Lmax (x4, 0)).bind (fun q20 => Bnds_floorAt_j59 v0 v1 v2 q20.1 q20.2 h3) else some ((-1), h))
theorem t_Bnds_floorAt {l : Launch} {G : GX} {v0 : Nat} {v1 : Nat} {v2 : Int32} {h : AHeap} {v : Int32} {h1 : AHeap} (hf : Bnds_floorAt v0 v1 v2 h = some (v, h1)) : CT l G kBnds_floorAt 0 0 [.ref v0, .ref v1, .int v2] h (some (.int v)) h1 := by
  refine CT_of (ls := [some (.ref v0), some (.ref v1), some (.int v2), none, none]) (Z := fun z => z = (v, h1)) (by decide +kernel) (Nat.le_of_ble_eq_true rfl) hf rfl ⟨rfl, rfl, rfl, trivial⟩ (fun E ok => ?_)
  unfold Bnds_floorAt
  refine J_aload_n (pc' := 1) ok (dOf dX1_floorAt 0 rfl) rfl rfl rfl ?_
  refine J_getR (ci := 1) (kf := 2) (C := RX1) (T := TX1) (N := 3) (pc' := 4) ok (dOf dX1_floorAt 1 rfl) rfl (by decide) rfl (by decide) win_1 wfl_X1_19 (fun a1 => ?_)
  refine J_iload_n (pc' := 5) ok (dOf dX1_floorAt 2 rfl) rfl rfl rfl ?_
  refine J_zald (pc' := 6) ok (dOf dX1_floorAt 3 rfl) rfl (fun x2 => ?_)
  refine J_if_eq (tgt := 11) (pc' := 9) ok (dOf dX1_floorAt 4 rfl) rfl (by decide) ?_ ?_
  · refine J_aload_n (pc' := 12) ok (dOf dX1_floorAt 7 rfl) rfl rfl rfl ?_
    refine J_iload_n (pc' := 13) ok (dOf dX1_floorAt 8 rfl) rfl rfl rfl ?_
    refine J_callVi (k2 := kProg_feesOf) (ci := 6) (T := TX6) (N := 9) (as := [.int v2]) (pc' := 16) ok (dOf dX1_floorAt 9 rfl) rfl (cw_Prog_feesOf (by decide) (by decide)) wml_X1_58 winst_X6_feesOf wsel_X6_feesOf rfl ⟨Nat.le_refl 0, Nat.le_refl 0⟩ (Nat.le_of_ble_eq_true rfl) rfl (fun _ _ hf => t_Prog_feesOf hf) (fun x4 h3 => ?_)
    refine J_istore_n (ls' := [some (.ref v0), some (.ref v1), some (.int v2), some (.int x4), none]) (pc' := 17) ok (dOf dX1_floorAt 10 rfl) rfl rfl (Nat.le_of_ble_eq_true rfl) rfl rfl ?_
    refine J_iconst (v := 0) (pc' := 18) ok (dOf dX1_floorAt 11 rfl) rfl (by decide) ?_
    refine J_istore (ls' := [some (.ref v0), some (.ref v1), some (.int v2), some (.int x4), some (.int 0)]) (pc' := 20) ok (dOf dX1_floorAt 12 rfl) rfl (Nat.le_of_ble_eq_true rfl) rfl rfl ?_
    refine J_iter (lf := fun z20 => [some (.ref v0), some (.ref v1), some (.int v2), some (.int z20.1), some (.int z20.2)]) (sf := fun _ => []) (hf := fun z20 => h3) (px := (fun q20 => 59)) (lx := (fun q20 => [some (.ref v0), some (.ref v1), some (.int v2), some (.int q20.1), some (.int q20.2)])) (sx := (fun q20 => [])) (hx := (fun q20 => h3)) (fun Y2 z20 m1 m2 => Bnds_floorAt_b20_J ok v0 v1 v2 h3 m1 m2 z20) (fun q20 => ?_) Lmax _
    exact Bnds_floorAt_j59_J ok v0 v1 v2 q20.1 q20.2 h3
  · refine J_iconst (v := (-1)) (pc' := 10) ok (dOf dX1_floorAt 5 rfl) rfl (by decide) ?_
    exact J_ireturn ok (dOf dX1_floorAt 6 rfl) rfl (Nat.le_refl 0) (Nat.le_refl 0)
-- X1_lowestPlan
abbrev kBnds_lowestPlan : Cd := (yX1_lowestPlan, cX1_lowestPlan, 6, (some .int), 3, 68)
theorem dX1_lowestPlan : dcheck cX1_lowestPlan [(0, .iconst (-1), 1), (1, .istore_n 2, 1), (2, .iconst (-1), 1), (3, .istore_n 3, 1), (4, .iconst 0, 1), (5, .istore 4, 2), (7, .iload 4, 2), (9, .sipush 256, 3), (12, .if_icmp .ge 54, 3), (15, .aload_n 1, 1), (16, .iload 4, 2), (18, .invokevirtual 67, 3), (21, .ifCond .eq 13, 3), (24, .aload_n 0, 1), (25, .aload_n 1, 1), (26, .iload 4, 2), (28, .invokevirtual 71, 3), (31, .goto 4, 3), (34, .iconst (-1), 1), (35, .istore 5, 2), (37, .iload 5, 2), (39, .iconst (-1), 1), (40, .if_icmp .eq 20, 3), (43, .iload_n 2, 1), (44, .iconst (-1), 1), (45, .if_icmp .eq 9, 3), (48, .iload 5, 2), (50, .iload_n 3, 1), (51, .if_icmp .ge 9, 3), (54, .iload 4, 2), (56, .istore_n 2, 1), (57, .iload 5, 2), (59, .istore_n 3, 1), (60, .iinc 4 1, 3), (63, .goto (-56), 3), (66, .iload_n 2, 1), (67, .ireturn, 1)] = true := by decide +kernel
theorem cw_Bnds_lowestPlan {k : Cd} (h1 : kBnds_lowestPlan.2.2.2.2.1 + 1 ≤ k.2.2.2.2.1) (h2 : 8 + (kBnds_lowestPlan.2.2.1 + 11) + kBnds_lowestPlan.2.2.2.2.2 ≤ k.2.2.2.2.2) : Cw k kBnds_lowestPlan 1 := ⟨wcode_X1_lowestPlan, wini_SplitProgram_Bounds, ⟨by decide, by decide, by decide +kernel⟩, h1, h2⟩
def Bnds_lowestPlan_j60 (v0 : Nat) (v1 : Nat) (v2 : Int32) (v3 : Int32) (v4 : Int32) (v5 : Int32) (h : AHeap) : Option ((Int32 × Int32 × Int32 × AHeap) ⊕ ((Int32 × Int32 × Int32 × AHeap))) :=
  some (.inl (v2, v3, v4 + 1, h))
theorem Bnds_lowestPlan_j60_J {E : JE} {l : Launch} {G : GX} {r : Option Value} {h' : AHeap} (ok : JOK E l G kBnds_lowestPlan 0 0 r h') (v0 : Nat) (v1 : Nat) (v2 : Int32) (v3 : Int32) (v4 : Int32) (v5 : Int32) (h : AHeap) {Y : (Int32 × Int32 × Int32 × AHeap) ⊕ ((Int32 × Int32 × Int32 × AHeap)) → Prop} (k1 : ∀ s' : Int32 × Int32 × Int32 × AHeap, Y (.inl s') → JW E kBnds_lowestPlan 7 [some (.ref v0), some (.ref v1), some (.int s'.1), some (.int s'.2.1), some (.int s'.2.2.1), none] [] s'.2.2.2 0 0) (kx66 : ∀ q : Int32 × Int32 × Int32 × AHeap, Y (.inr q) → JW E kBnds_lowestPlan 66 [some (.ref v0), some (.ref v1), some (.int q.1), some (.int q.2.1), some (.int q.2.2.1), none] [] q.2.2.2 0 0) : J E kBnds_lowestPlan (Bnds_lowestPlan_j60 v0 v1 v2 v3 v4 v5 h) Y 60 [some (.ref v0), some (.ref v1), some (.int v2), some (.int v3), some (.int v4), some (.int v5)] [] h 0 0 := by
  unfold Bnds_lowestPlan_j60
  refine J_iinc (v := v4 + 1) (ls' := [some (.ref v0), some (.ref v1), some (.int v2), some (.int v3), some (.int (v4 + 1)), some (.int v5)]) (pc' := 63) ok (dOf dX1_lowestPlan 33 rfl) rfl rfl (by rfl) (Nat.le_of_ble_eq_true rfl) rfl rfl ?_
  refine J_goto (tgt := 7) ok (dOf dX1_lowestPlan 34 rfl) (by decide) ?_
  refine J_weak (ls' := [some (.ref v0), some (.ref v1), some (.int v2), some (.int v3), some (.int (v4 + 1)), none]) ⟨rfl, rfl, rfl, rfl, rfl, trivial⟩ ?_
  exact J_fin (k1 (v2, v3, v4 + 1, h))
def Bnds_lowestPlan_j54 (v0 : Nat) (v1 : Nat) (v2 : Int32) (v3 : Int32) (v4 : Int32) (v5 : Int32) (h : AHeap) : Option ((Int32 × Int32 × Int32 × AHeap) ⊕ ((Int32 × Int32 × Int32 × AHeap))) :=
  Bnds_lowestPlan_j60 v0 v1 v4 v5 v4 v5 h
theorem Bnds_lowestPlan_j54_J {E : JE} {l : Launch} {G : GX} {r : Option Value} {h' : AHeap} (ok : JOK E l G kBnds_lowestPlan 0 0 r h') (v0 : Nat) (v1 : Nat) (v2 : Int32) (v3 : Int32) (v4 : Int32) (v5 : Int32) (h : AHeap) {Y : (Int32 × Int32 × Int32 × AHeap) ⊕ ((Int32 × Int32 × Int32 × AHeap)) → Prop} (k1 : ∀ s' : Int32 × Int32 × Int32 × AHeap, Y (.inl s') → JW E kBnds_lowestPlan 7 [some (.ref v0), some (.ref v1), some (.int s'.1), some (.int s'.2.1), some (.int s'.2.2.1), none] [] s'.2.2.2 0 0) (kx66 : ∀ q : Int32 × Int32 × Int32 × AHeap, Y (.inr q) → JW E kBnds_lowestPlan 66 [some (.ref v0), some (.ref v1), some (.int q.1), some (.int q.2.1), some (.int q.2.2.1), none] [] q.2.2.2 0 0) : J E kBnds_lowestPlan (Bnds_lowestPlan_j54 v0 v1 v2 v3 v4 v5 h) Y 54 [some (.ref v0), some (.ref v1), some (.int v2), some (.int v3), some (.int v4), some (.int v5)] [] h 0 0 := by
  unfold Bnds_lowestPlan_j54
  refine J_iload (pc' := 56) ok (dOf dX1_lowestPlan 29 rfl) rfl rfl ?_
  refine J_istore_n (ls' := [some (.ref v0), some (.ref v1), some (.int v4), some (.int v3), some (.int v4), some (.int v5)]) (pc' := 57) ok (dOf dX1_lowestPlan 30 rfl) rfl rfl (Nat.le_of_ble_eq_true rfl) rfl rfl ?_
  refine J_iload (pc' := 59) ok (dOf dX1_lowestPlan 31 rfl) rfl rfl ?_
  refine J_istore_n (ls' := [some (.ref v0), some (.ref v1), some (.int v4), some (.int v5), some (.int v4), some (.int v5)]) (pc' := 60) ok (dOf dX1_lowestPlan 32 rfl) rfl rfl (Nat.le_of_ble_eq_true rfl) rfl rfl ?_
  exact Bnds_lowestPlan_j60_J ok v0 v1 v4 v5 v4 v5 h k1 kx66
def Bnds_lowestPlan_j35 (v0 : Nat) (v1 : Nat) (v2 : Int32) (v3 : Int32) (v4 : Int32) (t0 : Int32) (h : AHeap) : Option ((Int32 × Int32 × Int32 × AHeap) ⊕ ((Int32 × Int32 × Int32 × AHeap))) :=
  (if t0 = (-1) then Bnds_lowestPlan_j60 v0 v1 v2 v3 v4 t0 h else (if v2 = (-1) then Bnds_lowestPlan_j54 v0 v1 v2 v3 v4 t0 h else (if v3 ≤ t0 then Bnds_lowestPlan_j60 v0 v1 v2 v3 v4 t0 h else Bnds_lowestPlan_j54 v0 v1 v2 v3 v4 t0 h)))
theorem Bnds_lowestPlan_j35_J {E : JE} {l : Launch} {G : GX} {r : Option Value} {h' : AHeap} (ok : JOK E l G kBnds_lowestPlan 0 0 r h') (v0 : Nat) (v1 : Nat) (v2 : Int32) (v3 : Int32) (v4 : Int32) (t0 : Int32) (h : AHeap) {Y : (Int32 × Int32 × Int32 × AHeap) ⊕ ((Int32 × Int32 × Int32 × AHeap)) → Prop} (k1 : ∀ s' : Int32 × Int32 × Int32 × AHeap, Y (.inl s') → JW E kBnds_lowestPlan 7 [some (.ref v0), some (.ref v1), some (.int s'.1), some (.int s'.2.1), some (.int s'.2.2.1), none] [] s'.2.2.2 0 0) (kx66 : ∀ q : Int32 × Int32 × Int32 × AHeap, Y (.inr q) → JW E kBnds_lowestPlan 66 [some (.ref v0), some (.ref v1), some (.int q.1), some (.int q.2.1), some (.int q.2.2.1), none] [] q.2.2.2 0 0) : J E kBnds_lowestPlan (Bnds_lowestPlan_j35 v0 v1 v2 v3 v4 t0 h) Y 35 [some (.ref v0), some (.ref v1), some (.int v2), some (.int v3), some (.int v4), none] [.int t0] h 0 0 := by
  unfold Bnds_lowestPlan_j35
  refine J_istore (ls' := [some (.ref v0), some (.ref v1), some (.int v2), some (.int v3), some (.int v4), some (.int t0)]) (pc' := 37) ok (dOf dX1_lowestPlan 19 rfl) rfl (Nat.le_of_ble_eq_true rfl) rfl rfl ?_
  refine J_iload (pc' := 39) ok (dOf dX1_lowestPlan 20 rfl) rfl rfl ?_
  refine J_iconst (v := (-1)) (pc' := 40) ok (dOf dX1_lowestPlan 21 rfl) rfl (by decide) ?_
  refine J_icmp_eq (tgt := 60) (pc' := 43) ok (dOf dX1_lowestPlan 22 rfl) rfl (by decide) ?_ ?_
  · exact Bnds_lowestPlan_j60_J ok v0 v1 v2 v3 v4 t0 h k1 kx66
  · refine J_iload_n (pc' := 44) ok (dOf dX1_lowestPlan 23 rfl) rfl rfl rfl ?_
    refine J_iconst (v := (-1)) (pc' := 45) ok (dOf dX1_lowestPlan 24 rfl) rfl (by decide) ?_
    refine J_icmp_eq (tgt := 54) (pc' := 48) ok (dOf dX1_lowestPlan 25 rfl) rfl (by decide) ?_ ?_
    · exact Bnds_lowestPlan_j54_J ok v0 v1 v2 v3 v4 t0 h k1 kx66
    · refine J_iload (pc' := 50) ok (dOf dX1_lowestPlan 26 rfl) rfl rfl ?_
      refine J_iload_n (pc' := 51) ok (dOf dX1_lowestPlan 27 rfl) rfl rfl rfl ?_
      refine J_icmp_ge (tgt := 60) (pc' := 54) ok (dOf dX1_lowestPlan 28 rfl) rfl (by decide) ?_ ?_
      · exact Bnds_lowestPlan_j60_J ok v0 v1 v2 v3 v4 t0 h k1 kx66
      · exact Bnds_lowestPlan_j54_J ok v0 v1 v2 v3 v4 t0 h k1 kx66
def Bnds_lowestPlan_b7 (v0 : Nat) (v1 : Nat) (s : Int32 × Int32 × Int32 × AHeap) : Option ((Int32 × Int32 × Int32 × AHeap) ⊕ ((Int32 × Int32 × Int32 × AHeap))) :=
  (if 256 ≤ s.2.2.1 then some (.inr (s.1, s.2.1, s.2.2.1, s.2.2.2)) else (chk s.2.2.2 v1 6).bind fun _ => bnd2 (Prog_isPlan v1 s.2.2.1 s.2.2.2) fun x2 h1 => (if x2 = 0 then Bnds_lowestPlan_j35 v0 v1 s.1 s.2.1 s.2.2.1 (-1) h1 else (chk h1 v0 1).bind fun _ => bnd2 (Bnds_floorAt v0 v1 s.2.2.1 h1) fun x4 h3 => Bnds_lowestPlan_j35 v0 v1 s.1 s.2.1 s.2.2.1 x4 h3))
theorem Bnds_lowestPlan_b7_J {E : JE} {l : Launch} {G : GX} {r : Option Value} {h' : AHeap} (ok : JOK E l G kBnds_lowestPlan 0 0 r h') (v0 : Nat) (v1 : Nat) {Y : (Int32 × Int32 × Int32 × AHeap) ⊕ ((Int32 × Int32 × Int32 × AHeap)) → Prop} (k1 : ∀ s' : Int32 × Int32 × Int32 × AHeap, Y (.inl s') → JW E kBnds_lowestPlan 7 [some (.ref v0), some (.ref v1), some (.int s'.1), some (.int s'.2.1), some (.int s'.2.2.1), none] [] s'.2.2.2 0 0) (kx66 : ∀ q : Int32 × Int32 × Int32 × AHeap, Y (.inr q) → JW E kBnds_lowestPlan 66 [some (.ref v0), some (.ref v1), some (.int q.1), some (.int q.2.1), some (.int q.2.2.1), none] [] q.2.2.2 0 0) (s : Int32 × Int32 × Int32 × AHeap) : J E kBnds_lowestPlan (Bnds_lowestPlan_b7 v0 v1 s) Y 7 [some (.ref v0), some (.ref v1), some (.int s.1), some (.int s.2.1), some (.int s.2.2.1), none] [] s.2.2.2 0 0 := by
  unfold Bnds_lowestPlan_b7
  refine J_iload (pc' := 9) ok (dOf dX1_lowestPlan 6 rfl) rfl rfl ?_
  refine J_sipush (v := 256) (pc' := 12) ok (dOf dX1_lowestPlan 7 rfl) rfl (by decide) ?_
  refine J_icmp_ge (tgt := 66) (pc' := 15) ok (dOf dX1_lowestPlan 8 rfl) rfl (by decide) ?_ ?_
  · exact J_fin (kx66 (s.1, s.2.1, s.2.2.1, s.2.2.2))
  · refine J_aload_n (pc' := 16) ok (dOf dX1_lowestPlan 9 rfl) rfl rfl rfl ?_
    refine J_iload (pc' := 18) ok (dOf dX1_lowestPlan 10 rfl) rfl rfl ?_
    refine J_callVi (k2 := kProg_isPlan) (ci := 6) (T := TX6) (N := 9) (as := [.int s.2.2.1]) (pc' := 21) ok (dOf dX1_lowestPlan 11 rfl) rfl (cw_Prog_isPlan (by decide) (by decide)) wml_X1_67 winst_X6_isPlan wsel_X6_isPlan rfl ⟨Nat.le_refl 0, Nat.le_refl 0⟩ (Nat.le_of_ble_eq_true rfl) rfl (fun _ _ hf => t_Prog_isPlan hf) (fun x2 h1 => ?_)
    refine J_if_eq (tgt := 34) (pc' := 24) ok (dOf dX1_lowestPlan 12 rfl) rfl (by decide) ?_ ?_
    · refine J_iconst (v := (-1)) (pc' := 35) ok (dOf dX1_lowestPlan 18 rfl) rfl (by decide) ?_
      exact Bnds_lowestPlan_j35_J ok v0 v1 s.1 s.2.1 s.2.2.1 (-1) h1 k1 kx66
    · refine J_aload_n (pc' := 25) ok (dOf dX1_lowestPlan 13 rfl) rfl rfl rfl ?_
      refine J_aload_n (pc' := 26) ok (dOf dX1_lowestPlan 14 rfl) rfl rfl rfl ?_
      refine J_iload (pc' := 28) ok (dOf dX1_lowestPlan 15 rfl) rfl rfl ?_
      refine J_callVi (k2 := kBnds_floorAt) (ci := 1) (T := TX1) (N := 3) (as := [.ref v1, .int s.2.2.1]) (pc' := 31) ok (dOf dX1_lowestPlan 16 rfl) rfl (cw_Bnds_floorAt (by decide) (by decide)) wml_X1_71 winst_X1_floorAt wsel_X1_floorAt rfl ⟨Nat.le_refl 0, Nat.le_refl 0⟩ (Nat.le_of_ble_eq_true rfl) rfl (fun _ _ hf => t_Bnds_floorAt hf) (fun x4 h3 => ?_)
      refine J_goto (tgt := 35) ok (dOf dX1_lowestPlan 17 rfl) (by decide) ?_
      exact Bnds_lowestPlan_j35_J ok v0 v1 s.1 s.2.1 s.2.2.1 x4 h3 k1 kx66
def Bnds_lowestPlan_j66 (v0 : Nat) (v1 : Nat) (v2 : Int32) (v3 : Int32) (v4 : Int32) (h : AHeap) : Option (Int32 × AHeap) :=
  some (v2, h)
theorem Bnds_lowestPlan_j66_J {E : JE} {l : Launch} {G : GX} {v : Int32} {h' : AHeap} (ok : JOK E l G kBnds_lowestPlan 0 0 (some (.int v)) h') (v0 : Nat) (v1 : Nat) (v2 : Int32) (v3 : Int32) (v4 : Int32) (h : AHeap) : J E kBnds_lowestPlan (Bnds_lowestPlan_j66 v0 v1 v2 v3 v4 h) (fun z => z = (v, h')) 66 [some (.ref v0), some (.ref v1), some (.int v2), some (.int v3), some (.int v4), none] [] h 0 0 := by
  unfold Bnds_lowestPlan_j66
  refine J_iload_n (pc' := 67) ok (dOf dX1_lowestPlan 35 rfl) rfl rfl rfl ?_
  exact J_ireturn ok (dOf dX1_lowestPlan 36 rfl) rfl (Nat.le_refl 0) (Nat.le_refl 0)
def Bnds_lowestPlan (v0 : Nat) (v1 : Nat) (h : AHeap) : Option (Int32 × AHeap) :=
  (iter (Bnds_lowestPlan_b7 v0 v1) Lmax ((-1), (-1), 0, h)).bind (fun q7 => Bnds_lowestPlan_j66 v0 v1 q7.1 q7.2.1 q7.2.2.1 q7.2.2.2)
theorem t_Bnds_lowestPlan {l : Launch} {G : GX} {v0 : Nat} {v1 : Nat} {h : AHeap} {v : Int32} {h1 : AHeap} (hf : Bnds_lowestPlan v0 v1 h = some (v, h1)) : CT l G kBnds_lowestPlan 0 0 [.ref v0, .ref v1] h (some (.int v)) h1 := by
  refine CT_of (ls := [some (.ref v0), some (.ref v1), none, none, none, none]) (Z := fun z => z = (v, h1)) (by decide +kernel) (Nat.le_of_ble_eq_true rfl) hf rfl ⟨rfl, rfl, trivial⟩ (fun E ok => ?_)
  unfold Bnds_lowestPlan
  refine J_iconst (v := (-1)) (pc' := 1) ok (dOf dX1_lowestPlan 0 rfl) rfl (by decide) ?_
  refine J_istore_n (ls' := [some (.ref v0), some (.ref v1), some (.int (-1)), none, none, none]) (pc' := 2) ok (dOf dX1_lowestPlan 1 rfl) rfl rfl (Nat.le_of_ble_eq_true rfl) rfl rfl ?_
  refine J_iconst (v := (-1)) (pc' := 3) ok (dOf dX1_lowestPlan 2 rfl) rfl (by decide) ?_
  refine J_istore_n (ls' := [some (.ref v0), some (.ref v1), some (.int (-1)), some (.int (-1)), none, none]) (pc' := 4) ok (dOf dX1_lowestPlan 3 rfl) rfl rfl (Nat.le_of_ble_eq_true rfl) rfl rfl ?_
  refine J_iconst (v := 0) (pc' := 5) ok (dOf dX1_lowestPlan 4 rfl) rfl (by decide) ?_
  refine J_istore (ls' := [some (.ref v0), some (.ref v1), some (.int (-1)), some (.int (-1)), some (.int 0), none]) (pc' := 7) ok (dOf dX1_lowestPlan 5 rfl) rfl (Nat.le_of_ble_eq_true rfl) rfl rfl ?_
  refine J_iter (lf := fun z7 => [some (.ref v0), some (.ref v1), some (.int z7.1), some (.int z7.2.1), some (.int z7.2.2.1), none]) (sf := fun _ => []) (hf := fun z7 => z7.2.2.2) (px := (fun q7 => 66)) (lx := (fun q7 => [some (.ref v0), some (.ref v1), some (.int q7.1), some (.int q7.2.1), some (.int q7.2.2.1), none])) (sx := (fun q7 => [])) (hx := (fun q7 => q7.2.2.2)) (fun Y2 z7 m1 m2 => Bnds_lowestPlan_b7_J ok v0 v1 m1 m2 z7) (fun q7 => ?_) Lmax _
  exact Bnds_lowestPlan_j66_J ok v0 v1 q7.1 q7.2.1 q7.2.2.1 q7.2.2.2
-- X6_plantsOf
abbrev kProg_plantsOf : Cd := (yX6_plantsOf, cX6_plantsOf, 4, (some .int), 0, 0)
theorem dX6_plantsOf : dcheck cX6_plantsOf [(0, .iconst 0, 1), (1, .istore_n 2, 1), (2, .iconst 0, 1), (3, .istore_n 3, 1), (4, .iload_n 3, 1), (5, .aload_n 0, 1), (6, .getfield 36, 3), (9, .if_icmp .ge 30, 3), (12, .aload_n 0, 1), (13, .getfield 21, 3), (16, .iload_n 3, 1), (17, .bipush 6, 2), (19, .imul, 1), (20, .iload_n 1, 1), (21, .iadd, 1), (22, .iaload, 1), (23, .iconst (-1), 1), (24, .if_icmp .eq 9, 3), (27, .iload_n 2, 1), (28, .iconst 1, 1), (29, .iload_n 3, 1), (30, .ishl, 1), (31, .ior, 1), (32, .istore_n 2, 1), (33, .iinc 3 1, 3), (36, .goto (-32), 3), (39, .iload_n 2, 1), (40, .ireturn, 1)] = true := by decide +kernel
theorem cw_Prog_plantsOf {k : Cd} (h1 : kProg_plantsOf.2.2.2.2.1 + 1 ≤ k.2.2.2.2.1) (h2 : 8 + (kProg_plantsOf.2.2.1 + 11) + kProg_plantsOf.2.2.2.2.2 ≤ k.2.2.2.2.2) : Cw k kProg_plantsOf 1 := ⟨wcode_X6_plantsOf, wini_SplitProgram_Program, ⟨by decide, by decide, by decide +kernel⟩, h1, h2⟩
def Prog_plantsOf_j33 (v0 : Nat) (v1 : Int32) (v2 : Int32) (v3 : Int32) (h : AHeap) : Option ((Int32 × Int32) ⊕ ((Int32 × Int32))) :=
  some (.inl (v2, v3 + 1))
theorem Prog_plantsOf_j33_J {E : JE} {l : Launch} {G : GX} {r : Option Value} {h' : AHeap} (ok : JOK E l G kProg_plantsOf 0 0 r h') (v0 : Nat) (v1 : Int32) (v2 : Int32) (v3 : Int32) (h : AHeap) {Y : (Int32 × Int32) ⊕ ((Int32 × Int32)) → Prop} (k1 : ∀ s' : Int32 × Int32, Y (.inl s') → JW E kProg_plantsOf 4 [some (.ref v0), some (.int v1), some (.int s'.1), some (.int s'.2)] [] h 0 0) (kx39 : ∀ q : Int32 × Int32, Y (.inr q) → JW E kProg_plantsOf 39 [some (.ref v0), some (.int v1), some (.int q.1), some (.int q.2)] [] h 0 0) : J E kProg_plantsOf (Prog_plantsOf_j33 v0 v1 v2 v3 h) Y 33 [some (.ref v0), some (.int v1), some (.int v2), some (.int v3)] [] h 0 0 := by
  unfold Prog_plantsOf_j33
  refine J_iinc (v := v3 + 1) (ls' := [some (.ref v0), some (.int v1), some (.int v2), some (.int (v3 + 1))]) (pc' := 36) ok (dOf dX6_plantsOf 24 rfl) rfl rfl (by rfl) (Nat.le_of_ble_eq_true rfl) rfl rfl ?_
  refine J_goto (tgt := 4) ok (dOf dX6_plantsOf 25 rfl) (by decide) ?_
  exact J_fin (k1 (v2, v3 + 1))
def Prog_plantsOf_b4 (v0 : Nat) (v1 : Int32) (h : AHeap) (s : Int32 × Int32) : Option ((Int32 × Int32) ⊕ ((Int32 × Int32))) :=
  (gfI h v0 6 0).bind fun x1 => (if x1 ≤ s.2 then some (.inr (s.1, s.2)) else (gfR h v0 6 6).bind fun a2 => (ald 0 h a2 ((s.2 * 6) + v1)).bind fun x3 => (if x3 = (-1) then Prog_plantsOf_j33 v0 v1 s.1 s.2 h else Prog_plantsOf_j33 v0 v1 (s.1 ||| ((1 : Int32) <<< (s.2 &&& 31))) s.2 h))
theorem Prog_plantsOf_b4_J {E : JE} {l : Launch} {G : GX} {r : Option Value} {h' : AHeap} (ok : JOK E l G kProg_plantsOf 0 0 r h') (v0 : Nat) (v1 : Int32) (h : AHeap) {Y : (Int32 × Int32) ⊕ ((Int32 × Int32)) → Prop} (k1 : ∀ s' : Int32 × Int32, Y (.inl s') → JW E kProg_plantsOf 4 [some (.ref v0), some (.int v1), some (.int s'.1), some (.int s'.2)] [] h 0 0) (kx39 : ∀ q : Int32 × Int32, Y (.inr q) → JW E kProg_plantsOf 39 [some (.ref v0), some (.int v1), some (.int q.1), some (.int q.2)] [] h 0 0) (s : Int32 × Int32) : J E kProg_plantsOf (Prog_plantsOf_b4 v0 v1 h s) Y 4 [some (.ref v0), some (.int v1), some (.int s.1), some (.int s.2)] [] h 0 0 := by
  unfold Prog_plantsOf_b4
  refine J_iload_n (pc' := 5) ok (dOf dX6_plantsOf 4 rfl) rfl rfl rfl ?_
  refine J_aload_n (pc' := 6) ok (dOf dX6_plantsOf 5 rfl) rfl rfl rfl ?_
  refine J_getI (ci := 6) (kf := 0) (C := RX6) (T := TX6) (N := 9) (pc' := 9) ok (dOf dX6_plantsOf 6 rfl) rfl (by decide) rfl (by decide) win_6 wfl_X6_36 (fun x1 => ?_)
  refine J_icmp_ge (tgt := 39) (pc' := 12) ok (dOf dX6_plantsOf 7 rfl) rfl (by decide) ?_ ?_
  · exact J_fin (kx39 (s.1, s.2))
  · refine J_aload_n (pc' := 13) ok (dOf dX6_plantsOf 8 rfl) rfl rfl rfl ?_
    refine J_getR (ci := 6) (kf := 6) (C := RX6) (T := TX6) (N := 9) (pc' := 16) ok (dOf dX6_plantsOf 9 rfl) rfl (by decide) rfl (by decide) win_6 wfl_X6_21 (fun a2 => ?_)
    refine J_iload_n (pc' := 17) ok (dOf dX6_plantsOf 10 rfl) rfl rfl rfl ?_
    refine J_bipush (v := 6) (pc' := 19) ok (dOf dX6_plantsOf 11 rfl) rfl (by decide) ?_
    refine J_imul (pc' := 20) ok (dOf dX6_plantsOf 12 rfl) rfl ?_
    refine J_iload_n (pc' := 21) ok (dOf dX6_plantsOf 13 rfl) rfl rfl rfl ?_
    refine J_iadd (pc' := 22) ok (dOf dX6_plantsOf 14 rfl) rfl ?_
    refine J_iald (pc' := 23) ok (dOf dX6_plantsOf 15 rfl) rfl (fun x3 => ?_)
    refine J_iconst (v := (-1)) (pc' := 24) ok (dOf dX6_plantsOf 16 rfl) rfl (by decide) ?_
    refine J_icmp_eq (tgt := 33) (pc' := 27) ok (dOf dX6_plantsOf 17 rfl) rfl (by decide) ?_ ?_
    · exact Prog_plantsOf_j33_J ok v0 v1 s.1 s.2 h k1 kx39
    · refine J_iload_n (pc' := 28) ok (dOf dX6_plantsOf 18 rfl) rfl rfl rfl ?_
      refine J_iconst (v := 1) (pc' := 29) ok (dOf dX6_plantsOf 19 rfl) rfl (by decide) ?_
      refine J_iload_n (pc' := 30) ok (dOf dX6_plantsOf 20 rfl) rfl rfl rfl ?_
      refine J_ishl (pc' := 31) ok (dOf dX6_plantsOf 21 rfl) rfl ?_
      refine J_ior (pc' := 32) ok (dOf dX6_plantsOf 22 rfl) rfl ?_
      refine J_istore_n (ls' := [some (.ref v0), some (.int v1), some (.int (s.1 ||| ((1 : Int32) <<< (s.2 &&& 31)))), some (.int s.2)]) (pc' := 33) ok (dOf dX6_plantsOf 23 rfl) rfl rfl (Nat.le_of_ble_eq_true rfl) rfl rfl ?_
      exact Prog_plantsOf_j33_J ok v0 v1 (s.1 ||| ((1 : Int32) <<< (s.2 &&& 31))) s.2 h k1 kx39
def Prog_plantsOf_j39 (v0 : Nat) (v1 : Int32) (v2 : Int32) (v3 : Int32) (h : AHeap) : Option (Int32 × AHeap) :=
  some (v2, h)
theorem Prog_plantsOf_j39_J {E : JE} {l : Launch} {G : GX} {v : Int32} {h' : AHeap} (ok : JOK E l G kProg_plantsOf 0 0 (some (.int v)) h') (v0 : Nat) (v1 : Int32) (v2 : Int32) (v3 : Int32) (h : AHeap) : J E kProg_plantsOf (Prog_plantsOf_j39 v0 v1 v2 v3 h) (fun z => z = (v, h')) 39 [some (.ref v0), some (.int v1), some (.int v2), some (.int v3)] [] h 0 0 := by
  unfold Prog_plantsOf_j39
  refine J_iload_n (pc' := 40) ok (dOf dX6_plantsOf 26 rfl) rfl rfl rfl ?_
  exact J_ireturn ok (dOf dX6_plantsOf 27 rfl) rfl (Nat.le_refl 0) (Nat.le_refl 0)
def Prog_plantsOf (v0 : Nat) (v1 : Int32) (h : AHeap) : Option (Int32 × AHeap) :=
  (iter (Prog_plantsOf_b4 v0 v1 h) Lmax (0, 0)).bind (fun q4 => Prog_plantsOf_j39 v0 v1 q4.1 q4.2 h)
theorem t_Prog_plantsOf {l : Launch} {G : GX} {v0 : Nat} {v1 : Int32} {h : AHeap} {v : Int32} {h1 : AHeap} (hf : Prog_plantsOf v0 v1 h = some (v, h1)) : CT l G kProg_plantsOf 0 0 [.ref v0, .int v1] h (some (.int v)) h1 := by
  refine CT_of (ls := [some (.ref v0), some (.int v1), none, none]) (Z := fun z => z = (v, h1)) (by decide +kernel) (Nat.le_of_ble_eq_true rfl) hf rfl ⟨rfl, rfl, trivial⟩ (fun E ok => ?_)
  unfold Prog_plantsOf
  refine J_iconst (v := 0) (pc' := 1) ok (dOf dX6_plantsOf 0 rfl) rfl (by decide) ?_
  refine J_istore_n (ls' := [some (.ref v0), some (.int v1), some (.int 0), none]) (pc' := 2) ok (dOf dX6_plantsOf 1 rfl) rfl rfl (Nat.le_of_ble_eq_true rfl) rfl rfl ?_
  refine J_iconst (v := 0) (pc' := 3) ok (dOf dX6_plantsOf 2 rfl) rfl (by decide) ?_
  refine J_istore_n (ls' := [some (.ref v0), some (.int v1), some (.int 0), some (.int 0)]) (pc' := 4) ok (dOf dX6_plantsOf 3 rfl) rfl rfl (Nat.le_of_ble_eq_true rfl) rfl rfl ?_
  refine J_iter (lf := fun z4 => [some (.ref v0), some (.int v1), some (.int z4.1), some (.int z4.2)]) (sf := fun _ => []) (hf := fun z4 => h) (px := (fun q4 => 39)) (lx := (fun q4 => [some (.ref v0), some (.int v1), some (.int q4.1), some (.int q4.2)])) (sx := (fun q4 => [])) (hx := (fun q4 => h)) (fun Y2 z4 m1 m2 => Prog_plantsOf_b4_J ok v0 v1 h m1 m2 z4) (fun q4 => ?_) Lmax _
  exact Prog_plantsOf_j39_J ok v0 v1 q4.1 q4.2 h
-- X4_findLoads
abbrev kFrt_findLoads : Cd := (yX4_findLoads, cX4_findLoads, 7, none, 1, 23)
theorem dX4_findLoads : dcheck cX4_findLoads [(0, .iconst 0, 1), (1, .istore_n 3, 1), (2, .iload_n 3, 1), (3, .bipush 16, 2), (5, .if_icmp .ge 21, 3), (8, .aload_n 0, 1), (9, .getfield 18, 3), (12, .iload_n 2, 1), (13, .bipush 16, 2), (15, .imul, 1), (16, .iload_n 3, 1), (17, .iadd, 1), (18, .iconst 0, 1), (19, .iastore, 1), (20, .iinc 3 1, 3), (23, .goto (-21), 3), (26, .iconst 0, 1), (27, .istore_n 3, 1), (28, .iload_n 3, 1), (29, .aload_n 1, 1), (30, .getfield 49, 3), (33, .if_icmp .ge 72, 3), (36, .aload_n 1, 1), (37, .iload_n 3, 1), (38, .invokevirtual 55, 3), (41, .istore 4, 2), (43, .aload_n 1, 1), (44, .getfield 59, 3), (47, .iload_n 2, 1), (48, .bipush 6, 2), (50, .imul, 1), (51, .iload_n 3, 1), (52, .iadd, 1), (53, .iaload, 1), (54, .istore 5, 2), (56, .iconst 0, 1), (57, .istore 6, 2), (59, .iload 6, 2), (61, .bipush 16, 2), (63, .if_icmp .ge 36, 3), (66, .iload 4, 2), (68, .iload 6, 2), (70, .iconst (-1), 1), (71, .ixor, 1), (72, .iand, 1), (73, .ifCond .ne 20, 3), (76, .aload_n 0, 1), (77, .getfield 18, 3), (80, .iload_n 2, 1), (81, .bipush 16, 2), (83, .imul, 1), (84, .iload 6, 2), (86, .iadd, 1), (87, .dup2, 1), (88, .iaload, 1), (89, .iload 5, 2), (91, .iadd, 1), (92, .iastore, 1), (93, .iinc 6 1, 3), (96, .goto (-37), 3), (99, .iinc 3 1, 3), (102, .goto (-74), 3), (105, .aload_n 0, 1), (106, .getfield 21, 3), (109, .iload_n 2, 1), (110, .iconst 1, 1), (111, .bastore, 1), (112, .return_, 1)] = true := by decide +kernel
theorem cw_Frt_findLoads {k : Cd} (h1 : kFrt_findLoads.2.2.2.2.1 + 1 ≤ k.2.2.2.2.1) (h2 : 8 + (kFrt_findLoads.2.2.1 + 11) + kFrt_findLoads.2.2.2.2.2 ≤ k.2.2.2.2.2) : Cw k kFrt_findLoads 2 := ⟨wcode_X4_findLoads, wini_SplitProgram_Freight, ⟨by decide, by decide, by decide +kernel⟩, h1, h2⟩
def Frt_findLoads_b2 (v0 : Nat) (v1 : Nat) (v2 : Int32) (s : Int32 × AHeap) : Option ((Int32 × AHeap) ⊕ ((Int32 × AHeap))) :=
  (if 16 ≤ s.1 then some (.inr (s.1, s.2)) else (gfR s.2 v0 4 2).bind fun a1 => (ast 0 s.2 a1 ((v2 * 16) + s.1) 0).bind fun h2 => some (.inl (s.1 + 1, h2)))
theorem Frt_findLoads_b2_J {E : JE} {l : Launch} {G : GX} {r : Option Value} {h' : AHeap} (ok : JOK E l G kFrt_findLoads 0 0 r h') (v0 : Nat) (v1 : Nat) (v2 : Int32) {Y : (Int32 × AHeap) ⊕ ((Int32 × AHeap)) → Prop} (k1 : ∀ s' : Int32 × AHeap, Y (.inl s') → JW E kFrt_findLoads 2 [some (.ref v0), some (.ref v1), some (.int v2), some (.int s'.1), none, none, none] [] s'.2 0 0) (kx26 : ∀ q : Int32 × AHeap, Y (.inr q) → JW E kFrt_findLoads 26 [some (.ref v0), some (.ref v1), some (.int v2), some (.int q.1), none, none, none] [] q.2 0 0) (s : Int32 × AHeap) : J E kFrt_findLoads (Frt_findLoads_b2 v0 v1 v2 s) Y 2 [some (.ref v0), some (.ref v1), some (.int v2), some (.int s.1), none, none, none] [] s.2 0 0 := by
  unfold Frt_findLoads_b2
  refine J_iload_n (pc' := 3) ok (dOf dX4_findLoads 2 rfl) rfl rfl rfl ?_
  refine J_bipush (v := 16) (pc' := 5) ok (dOf dX4_findLoads 3 rfl) rfl (by decide) ?_
  refine J_icmp_ge (tgt := 26) (pc' := 8) ok (dOf dX4_findLoads 4 rfl) rfl (by decide) ?_ ?_
  · exact J_fin (kx26 (s.1, s.2))
  · refine J_aload_n (pc' := 9) ok (dOf dX4_findLoads 5 rfl) rfl rfl rfl ?_
    refine J_getR (ci := 4) (kf := 2) (C := RX4) (T := TX4) (N := 12) (pc' := 12) ok (dOf dX4_findLoads 6 rfl) rfl (by decide) rfl (by decide) win_4 wfl_X4_18 (fun a1 => ?_)
    refine J_iload_n (pc' := 13) ok (dOf dX4_findLoads 7 rfl) rfl rfl rfl ?_
    refine J_bipush (v := 16) (pc' := 15) ok (dOf dX4_findLoads 8 rfl) rfl (by decide) ?_
    refine J_imul (pc' := 16) ok (dOf dX4_findLoads 9 rfl) rfl ?_
    refine J_iload_n (pc' := 17) ok (dOf dX4_findLoads 10 rfl) rfl rfl rfl ?_
    refine J_iadd (pc' := 18) ok (dOf dX4_findLoads 11 rfl) rfl ?_
    refine J_iconst (v := 0) (pc' := 19) ok (dOf dX4_findLoads 12 rfl) rfl (by decide) ?_
    refine J_iast (pc' := 20) ok (dOf dX4_findLoads 13 rfl) rfl (fun h2 _ => ?_)
    refine J_iinc (v := s.1 + 1) (ls' := [some (.ref v0), some (.ref v1), some (.int v2), some (.int (s.1 + 1)), none, none, none]) (pc' := 23) ok (dOf dX4_findLoads 14 rfl) rfl rfl (by rfl) (Nat.le_of_ble_eq_true rfl) rfl rfl ?_
    refine J_goto (tgt := 2) ok (dOf dX4_findLoads 15 rfl) (by decide) ?_
    exact J_fin (k1 (s.1 + 1, h2))
def Frt_findLoads_j93 (v0 : Nat) (v1 : Nat) (v2 : Int32) (v3 : Int32) (v4 : Int32) (v5 : Int32) (v6 : Int32) (h : AHeap) : Option ((Int32 × AHeap) ⊕ ((Int32 × AHeap))) :=
  some (.inl (v6 + 1, h))
theorem Frt_findLoads_j93_J {E : JE} {l : Launch} {G : GX} {r : Option Value} {h' : AHeap} (ok : JOK E l G kFrt_findLoads 0 0 r h') (v0 : Nat) (v1 : Nat) (v2 : Int32) (v3 : Int32) (v4 : Int32) (v5 : Int32) (v6 : Int32) (h : AHeap) {Y : (Int32 × AHeap) ⊕ ((Int32 × AHeap)) → Prop} (k1 : ∀ s' : Int32 × AHeap, Y (.inl s') → JW E kFrt_findLoads 59 [some (.ref v0), some (.ref v1), some (.int v2), some (.int v3), some (.int v4), some (.int v5), some (.int s'.1)] [] s'.2 0 0) (kx99 : ∀ q : Int32 × AHeap, Y (.inr q) → JW E kFrt_findLoads 99 [some (.ref v0), some (.ref v1), some (.int v2), some (.int v3), some (.int v4), some (.int v5), some (.int q.1)] [] q.2 0 0) : J E kFrt_findLoads (Frt_findLoads_j93 v0 v1 v2 v3 v4 v5 v6 h) Y 93 [some (.ref v0), some (.ref v1), some (.int v2), some (.int v3), some (.int v4), some (.int v5), some (.int v6)] [] h 0 0 := by
  unfold Frt_findLoads_j93
  refine J_iinc (v := v6 + 1) (ls' := [some (.ref v0), some (.ref v1), some (.int v2), some (.int v3), some (.int v4), some (.int v5), some (.int (v6 + 1))]) (pc' := 96) ok (dOf dX4_findLoads 58 rfl) rfl rfl (by rfl) (Nat.le_of_ble_eq_true rfl) rfl rfl ?_
  refine J_goto (tgt := 59) ok (dOf dX4_findLoads 59 rfl) (by decide) ?_
  exact J_fin (k1 (v6 + 1, h))
def Frt_findLoads_b59 (v0 : Nat) (v1 : Nat) (v2 : Int32) (v3 : Int32) (v4 : Int32) (v5 : Int32) (s : Int32 × AHeap) : Option ((Int32 × AHeap) ⊕ ((Int32 × AHeap))) :=
  (if 16 ≤ s.1 then some (.inr (s.1, s.2)) else (if ¬ (v4 &&& (s.1 ^^^ (-1))) = 0 then Frt_findLoads_j93 v0 v1 v2 v3 v4 v5 s.1 s.2 else (gfR s.2 v0 4 2).bind fun a8 => (ald 0 s.2 a8 ((v2 * 16) + s.1)).bind fun x9 => (ast 0 s.2 a8 ((v2 * 16) + s.1) (x9 + v5)).bind fun h10 => Frt_findLoads_j93 v0 v1 v2 v3 v4 v5 s.1 h10))
theorem Frt_findLoads_b59_J {E : JE} {l : Launch} {G : GX} {r : Option Value} {h' : AHeap} (ok : JOK E l G kFrt_findLoads 0 0 r h') (v0 : Nat) (v1 : Nat) (v2 : Int32) (v3 : Int32) (v4 : Int32) (v5 : Int32) {Y : (Int32 × AHeap) ⊕ ((Int32 × AHeap)) → Prop} (k1 : ∀ s' : Int32 × AHeap, Y (.inl s') → JW E kFrt_findLoads 59 [some (.ref v0), some (.ref v1), some (.int v2), some (.int v3), some (.int v4), some (.int v5), some (.int s'.1)] [] s'.2 0 0) (kx99 : ∀ q : Int32 × AHeap, Y (.inr q) → JW E kFrt_findLoads 99 [some (.ref v0), some (.ref v1), some (.int v2), some (.int v3), some (.int v4), some (.int v5), some (.int q.1)] [] q.2 0 0) (s : Int32 × AHeap) : J E kFrt_findLoads (Frt_findLoads_b59 v0 v1 v2 v3 v4 v5 s) Y 59 [some (.ref v0), some (.ref v1), some (.int v2), some (.int v3), some (.int v4), some (.int v5), some (.int s.1)] [] s.2 0 0 := by
  unfold Frt_findLoads_b59
  refine J_iload (pc' := 61) ok (dOf dX4_findLoads 37 rfl) rfl rfl ?_
  refine J_bipush (v := 16) (pc' := 63) ok (dOf dX4_findLoads 38 rfl) rfl (by decide) ?_
  refine J_icmp_ge (tgt := 99) (pc' := 66) ok (dOf dX4_findLoads 39 rfl) rfl (by decide) ?_ ?_
  · exact J_fin (kx99 (s.1, s.2))
  · refine J_iload (pc' := 68) ok (dOf dX4_findLoads 40 rfl) rfl rfl ?_
    refine J_iload (pc' := 70) ok (dOf dX4_findLoads 41 rfl) rfl rfl ?_
    refine J_iconst (v := (-1)) (pc' := 71) ok (dOf dX4_findLoads 42 rfl) rfl (by decide) ?_
    refine J_ixor (pc' := 72) ok (dOf dX4_findLoads 43 rfl) rfl ?_
    refine J_iand (pc' := 73) ok (dOf dX4_findLoads 44 rfl) rfl ?_
    refine J_if_ne (tgt := 93) (pc' := 76) ok (dOf dX4_findLoads 45 rfl) rfl (by decide) ?_ ?_
    · exact Frt_findLoads_j93_J ok v0 v1 v2 v3 v4 v5 s.1 s.2 k1 kx99
    · refine J_aload_n (pc' := 77) ok (dOf dX4_findLoads 46 rfl) rfl rfl rfl ?_
      refine J_getR (ci := 4) (kf := 2) (C := RX4) (T := TX4) (N := 12) (pc' := 80) ok (dOf dX4_findLoads 47 rfl) rfl (by decide) rfl (by decide) win_4 wfl_X4_18 (fun a8 => ?_)
      refine J_iload_n (pc' := 81) ok (dOf dX4_findLoads 48 rfl) rfl rfl rfl ?_
      refine J_bipush (v := 16) (pc' := 83) ok (dOf dX4_findLoads 49 rfl) rfl (by decide) ?_
      refine J_imul (pc' := 84) ok (dOf dX4_findLoads 50 rfl) rfl ?_
      refine J_iload (pc' := 86) ok (dOf dX4_findLoads 51 rfl) rfl rfl ?_
      refine J_iadd (pc' := 87) ok (dOf dX4_findLoads 52 rfl) rfl ?_
      refine J_dup2 (pc' := 88) ok (dOf dX4_findLoads 53 rfl) rfl rfl rfl ?_
      refine J_iald (pc' := 89) ok (dOf dX4_findLoads 54 rfl) rfl (fun x9 => ?_)
      refine J_iload (pc' := 91) ok (dOf dX4_findLoads 55 rfl) rfl rfl ?_
      refine J_iadd (pc' := 92) ok (dOf dX4_findLoads 56 rfl) rfl ?_
      refine J_iast (pc' := 93) ok (dOf dX4_findLoads 57 rfl) rfl (fun h10 _ => ?_)
      exact Frt_findLoads_j93_J ok v0 v1 v2 v3 v4 v5 s.1 h10 k1 kx99
def Frt_findLoads_j99 (v0 : Nat) (v1 : Nat) (v2 : Int32) (v3 : Int32) (v4 : Int32) (v5 : Int32) (v6 : Int32) (h : AHeap) : Option ((Int32 × AHeap) ⊕ ((Int32 × AHeap))) :=
  some (.inl (v3 + 1, h))
theorem Frt_findLoads_j99_J {E : JE} {l : Launch} {G : GX} {r : Option Value} {h' : AHeap} (ok : JOK E l G kFrt_findLoads 0 0 r h') (v0 : Nat) (v1 : Nat) (v2 : Int32) (v3 : Int32) (v4 : Int32) (v5 : Int32) (v6 : Int32) (h : AHeap) {Y : (Int32 × AHeap) ⊕ ((Int32 × AHeap)) → Prop} (k1 : ∀ s' : Int32 × AHeap, Y (.inl s') → JW E kFrt_findLoads 28 [some (.ref v0), some (.ref v1), some (.int v2), some (.int s'.1), none, none, none] [] s'.2 0 0) (kx105 : ∀ q : Int32 × AHeap, Y (.inr q) → JW E kFrt_findLoads 105 [some (.ref v0), some (.ref v1), some (.int v2), some (.int q.1), none, none, none] [] q.2 0 0) : J E kFrt_findLoads (Frt_findLoads_j99 v0 v1 v2 v3 v4 v5 v6 h) Y 99 [some (.ref v0), some (.ref v1), some (.int v2), some (.int v3), some (.int v4), some (.int v5), some (.int v6)] [] h 0 0 := by
  unfold Frt_findLoads_j99
  refine J_iinc (v := v3 + 1) (ls' := [some (.ref v0), some (.ref v1), some (.int v2), some (.int (v3 + 1)), some (.int v4), some (.int v5), some (.int v6)]) (pc' := 102) ok (dOf dX4_findLoads 60 rfl) rfl rfl (by rfl) (Nat.le_of_ble_eq_true rfl) rfl rfl ?_
  refine J_goto (tgt := 28) ok (dOf dX4_findLoads 61 rfl) (by decide) ?_
  refine J_weak (ls' := [some (.ref v0), some (.ref v1), some (.int v2), some (.int (v3 + 1)), none, none, none]) ⟨rfl, rfl, rfl, rfl, trivial⟩ ?_
  exact J_fin (k1 (v3 + 1, h))
def Frt_findLoads_b28 (v0 : Nat) (v1 : Nat) (v2 : Int32) (s : Int32 × AHeap) : Option ((Int32 × AHeap) ⊕ ((Int32 × AHeap))) :=
  (gfI s.2 v1 6 1).bind fun x3 => (if x3 ≤ s.1 then some (.inr (s.1, s.2)) else (chk s.2 v1 6).bind fun _ => bnd2 (Prog_plantsOf v1 s.1 s.2) fun x5 h4 => (gfR h4 v1 6 8).bind fun a6 => (ald 0 h4 a6 ((v2 * 6) + s.1)).bind fun x7 => (iter (Frt_findLoads_b59 v0 v1 v2 s.1 x5 x7) Lmax (0, h4)).bind (fun q59 => Frt_findLoads_j99 v0 v1 v2 s.1 x5 x7 q59.1 q59.2))
theorem Frt_findLoads_b28_J {E : JE} {l : Launch} {G : GX} {r : Option Value} {h' : AHeap} (ok : JOK E l G kFrt_findLoads 0 0 r h') (v0 : Nat) (v1 : Nat) (v2 : Int32) {Y : (Int32 × AHeap) ⊕ ((Int32 × AHeap)) → Prop} (k1 : ∀ s' : Int32 × AHeap, Y (.inl s') → JW E kFrt_findLoads 28 [some (.ref v0), some (.ref v1), some (.int v2), some (.int s'.1), none, none, none] [] s'.2 0 0) (kx105 : ∀ q : Int32 × AHeap, Y (.inr q) → JW E kFrt_findLoads 105 [some (.ref v0), some (.ref v1), some (.int v2), some (.int q.1), none, none, none] [] q.2 0 0) (s : Int32 × AHeap) : J E kFrt_findLoads (Frt_findLoads_b28 v0 v1 v2 s) Y 28 [some (.ref v0), some (.ref v1), some (.int v2), some (.int s.1), none, none, none] [] s.2 0 0 := by
  unfold Frt_findLoads_b28
  refine J_iload_n (pc' := 29) ok (dOf dX4_findLoads 18 rfl) rfl rfl rfl ?_
  refine J_aload_n (pc' := 30) ok (dOf dX4_findLoads 19 rfl) rfl rfl rfl ?_
  refine J_getI (ci := 6) (kf := 1) (C := RX6) (T := TX6) (N := 9) (pc' := 33) ok (dOf dX4_findLoads 20 rfl) rfl (by decide) rfl (by decide) win_6 wfl_X4_49 (fun x3 => ?_)
  refine J_icmp_ge (tgt := 105) (pc' := 36) ok (dOf dX4_findLoads 21 rfl) rfl (by decide) ?_ ?_
  · exact J_fin (kx105 (s.1, s.2))
  · refine J_aload_n (pc' := 37) ok (dOf dX4_findLoads 22 rfl) rfl rfl rfl ?_
    refine J_iload_n (pc' := 38) ok (dOf dX4_findLoads 23 rfl) rfl rfl rfl ?_
    refine J_callVi (k2 := kProg_plantsOf) (ci := 6) (T := TX6) (N := 9) (as := [.int s.1]) (pc' := 41) ok (dOf dX4_findLoads 24 rfl) rfl (cw_Prog_plantsOf (by decide) (by decide)) wml_X4_55 winst_X6_plantsOf wsel_X6_plantsOf rfl ⟨Nat.le_refl 0, Nat.le_refl 0⟩ (Nat.le_of_ble_eq_true rfl) rfl (fun _ _ hf => t_Prog_plantsOf hf) (fun x5 h4 => ?_)
    refine J_istore (ls' := [some (.ref v0), some (.ref v1), some (.int v2), some (.int s.1), some (.int x5), none, none]) (pc' := 43) ok (dOf dX4_findLoads 25 rfl) rfl (Nat.le_of_ble_eq_true rfl) rfl rfl ?_
    refine J_aload_n (pc' := 44) ok (dOf dX4_findLoads 26 rfl) rfl rfl rfl ?_
    refine J_getR (ci := 6) (kf := 8) (C := RX6) (T := TX6) (N := 9) (pc' := 47) ok (dOf dX4_findLoads 27 rfl) rfl (by decide) rfl (by decide) win_6 wfl_X4_59 (fun a6 => ?_)
    refine J_iload_n (pc' := 48) ok (dOf dX4_findLoads 28 rfl) rfl rfl rfl ?_
    refine J_bipush (v := 6) (pc' := 50) ok (dOf dX4_findLoads 29 rfl) rfl (by decide) ?_
    refine J_imul (pc' := 51) ok (dOf dX4_findLoads 30 rfl) rfl ?_
    refine J_iload_n (pc' := 52) ok (dOf dX4_findLoads 31 rfl) rfl rfl rfl ?_
    refine J_iadd (pc' := 53) ok (dOf dX4_findLoads 32 rfl) rfl ?_
    refine J_iald (pc' := 54) ok (dOf dX4_findLoads 33 rfl) rfl (fun x7 => ?_)
    refine J_istore (ls' := [some (.ref v0), some (.ref v1), some (.int v2), some (.int s.1), some (.int x5), some (.int x7), none]) (pc' := 56) ok (dOf dX4_findLoads 34 rfl) rfl (Nat.le_of_ble_eq_true rfl) rfl rfl ?_
    refine J_iconst (v := 0) (pc' := 57) ok (dOf dX4_findLoads 35 rfl) rfl (by decide) ?_
    refine J_istore (ls' := [some (.ref v0), some (.ref v1), some (.int v2), some (.int s.1), some (.int x5), some (.int x7), some (.int 0)]) (pc' := 59) ok (dOf dX4_findLoads 36 rfl) rfl (Nat.le_of_ble_eq_true rfl) rfl rfl ?_
    refine J_iter (lf := fun z59 => [some (.ref v0), some (.ref v1), some (.int v2), some (.int s.1), some (.int x5), some (.int x7), some (.int z59.1)]) (sf := fun _ => []) (hf := fun z59 => z59.2) (px := (fun q59 => 99)) (lx := (fun q59 => [some (.ref v0), some (.ref v1), some (.int v2), some (.int s.1), some (.int x5), some (.int x7), some (.int q59.1)])) (sx := (fun q59 => [])) (hx := (fun q59 => q59.2)) (fun Y2 z59 m1 m2 => Frt_findLoads_b59_J ok v0 v1 v2 s.1 x5 x7 m1 m2 z59) (fun q59 => ?_) Lmax _
    exact Frt_findLoads_j99_J ok v0 v1 v2 s.1 x5 x7 q59.1 q59.2 k1 kx105
def Frt_findLoads_j105 (v0 : Nat) (v1 : Nat) (v2 : Int32) (v3 : Int32) (h : AHeap) : Option (Unit × AHeap) :=
  (gfR h v0 4 3).bind fun a11 => (ast 1 h a11 v2 1).bind fun h12 => some ((), h12)
theorem Frt_findLoads_j105_J {E : JE} {l : Launch} {G : GX} {h' : AHeap} (ok : JOK E l G kFrt_findLoads 0 0 none h') (v0 : Nat) (v1 : Nat) (v2 : Int32) (v3 : Int32) (h : AHeap) : J E kFrt_findLoads (Frt_findLoads_j105 v0 v1 v2 v3 h) (fun z => z = ((), h')) 105 [some (.ref v0), some (.ref v1), some (.int v2), some (.int v3), none, none, none] [] h 0 0 := by
  unfold Frt_findLoads_j105
  refine J_aload_n (pc' := 106) ok (dOf dX4_findLoads 62 rfl) rfl rfl rfl ?_
  refine J_getR (ci := 4) (kf := 3) (C := RX4) (T := TX4) (N := 12) (pc' := 109) ok (dOf dX4_findLoads 63 rfl) rfl (by decide) rfl (by decide) win_4 wfl_X4_21 (fun a11 => ?_)
  refine J_iload_n (pc' := 110) ok (dOf dX4_findLoads 64 rfl) rfl rfl rfl ?_
  refine J_iconst (v := 1) (pc' := 111) ok (dOf dX4_findLoads 65 rfl) rfl (by decide) ?_
  refine J_zast (pc' := 112) ok (dOf dX4_findLoads 66 rfl) rfl (fun h12 _ => ?_)
  exact J_vreturn ok (dOf dX4_findLoads 67 rfl) rfl (Nat.le_refl 0) (Nat.le_refl 0)
def Frt_findLoads_j26 (v0 : Nat) (v1 : Nat) (v2 : Int32) (v3 : Int32) (h : AHeap) : Option (Unit × AHeap) :=
  (iter (Frt_findLoads_b28 v0 v1 v2) Lmax (0, h)).bind (fun q28 => Frt_findLoads_j105 v0 v1 v2 q28.1 q28.2)
theorem Frt_findLoads_j26_J {E : JE} {l : Launch} {G : GX} {h' : AHeap} (ok : JOK E l G kFrt_findLoads 0 0 none h') (v0 : Nat) (v1 : Nat) (v2 : Int32) (v3 : Int32) (h : AHeap) : J E kFrt_findLoads (Frt_findLoads_j26 v0 v1 v2 v3 h) (fun z => z = ((), h')) 26 [some (.ref v0), some (.ref v1), some (.int v2), some (.int v3), none, none, none] [] h 0 0 := by
  unfold Frt_findLoads_j26
  refine J_iconst (v := 0) (pc' := 27) ok (dOf dX4_findLoads 16 rfl) rfl (by decide) ?_
  refine J_istore_n (ls' := [some (.ref v0), some (.ref v1), some (.int v2), some (.int 0), none, none, none]) (pc' := 28) ok (dOf dX4_findLoads 17 rfl) rfl rfl (Nat.le_of_ble_eq_true rfl) rfl rfl ?_
  refine J_iter (lf := fun z28 => [some (.ref v0), some (.ref v1), some (.int v2), some (.int z28.1), none, none, none]) (sf := fun _ => []) (hf := fun z28 => z28.2) (px := (fun q28 => 105)) (lx := (fun q28 => [some (.ref v0), some (.ref v1), some (.int v2), some (.int q28.1), none, none, none])) (sx := (fun q28 => [])) (hx := (fun q28 => q28.2)) (fun Y2 z28 m1 m2 => Frt_findLoads_b28_J ok v0 v1 v2 m1 m2 z28) (fun q28 => ?_) Lmax _
  exact Frt_findLoads_j105_J ok v0 v1 v2 q28.1 q28.2
def Frt_findLoads (v0 : Nat) (v1 : Nat) (v2 : Int32) (h : AHeap) : Option (Unit × AHeap) :=
  (iter (Frt_findLoads_b2 v0 v1 v2) Lmax (0, h)).bind (fun q2 => Frt_findLoads_j26 v0 v1 v2 q2.1 q2.2)
theorem t_Frt_findLoads {l : Launch} {G : GX} {v0 : Nat} {v1 : Nat} {v2 : Int32} {h : AHeap} {h1 : AHeap} (hf : Frt_findLoads v0 v1 v2 h = some ((), h1)) : CT l G kFrt_findLoads 0 0 [.ref v0, .ref v1, .int v2] h none h1 := by
  refine CT_of (ls := [some (.ref v0), some (.ref v1), some (.int v2), none, none, none, none]) (Z := fun z => z = ((), h1)) (by decide +kernel) (Nat.le_of_ble_eq_true rfl) hf rfl ⟨rfl, rfl, rfl, trivial⟩ (fun E ok => ?_)
  unfold Frt_findLoads
  refine J_iconst (v := 0) (pc' := 1) ok (dOf dX4_findLoads 0 rfl) rfl (by decide) ?_
  refine J_istore_n (ls' := [some (.ref v0), some (.ref v1), some (.int v2), some (.int 0), none, none, none]) (pc' := 2) ok (dOf dX4_findLoads 1 rfl) rfl rfl (Nat.le_of_ble_eq_true rfl) rfl rfl ?_
  refine J_iter (lf := fun z2 => [some (.ref v0), some (.ref v1), some (.int v2), some (.int z2.1), none, none, none]) (sf := fun _ => []) (hf := fun z2 => z2.2) (px := (fun q2 => 26)) (lx := (fun q2 => [some (.ref v0), some (.ref v1), some (.int v2), some (.int q2.1), none, none, none])) (sx := (fun q2 => [])) (hx := (fun q2 => q2.2)) (fun Y2 z2 m1 m2 => Frt_findLoads_b2_J ok v0 v1 v2 m1 m2 z2) (fun q2 => ?_) Lmax _
  exact Frt_findLoads_j26_J ok v0 v1 v2 q2.1 q2.2
-- X4_findStocks
abbrev kFrt_findStocks : Cd := (yX4_findStocks, cX4_findStocks, 6, none, 1, 21)
theorem dX4_findStocks : dcheck cX4_findStocks [(0, .aload_n 0, 1), (1, .getfield 15, 3), (4, .iconst 0, 1), (5, .iconst 0, 1), (6, .iastore, 1), (7, .iconst 0, 1), (8, .istore_n 3, 1), (9, .iload_n 3, 1), (10, .iconst 4, 1), (11, .if_icmp .ge 72, 3), (14, .aload_n 0, 1), (15, .getfield 9, 3), (18, .iload_n 3, 1), (19, .iload_n 2, 1), (20, .iload_n 3, 1), (21, .invokestatic 62, 3), (24, .aload_n 1, 1), (25, .getfield 66, 3), (28, .iload_n 3, 1), (29, .iaload, 1), (30, .imul, 1), (31, .iastore, 1), (32, .iconst 1, 1), (33, .iload_n 3, 1), (34, .ishl, 1), (35, .istore 4, 2), (37, .iconst 0, 1), (38, .istore 5, 2), (40, .iload 5, 2), (42, .iload 4, 2), (44, .if_icmp .ge 33, 3), (47, .aload_n 0, 1), (48, .getfield 15, 3), (51, .iload 4, 2), (53, .iload 5, 2), (55, .iadd, 1), (56, .aload_n 0, 1), (57, .getfield 15, 3), (60, .iload 5, 2), (62, .iaload, 1), (63, .aload_n 0, 1), (64, .getfield 9, 3), (67, .iload_n 3, 1), (68, .iaload, 1), (69, .iadd, 1), (70, .iastore, 1), (71, .iinc 5 1, 3), (74, .goto (-34), 3), (77, .iinc 3 1, 3), (80, .goto (-71), 3), (83, .return_, 1)] = true := by decide +kernel
theorem cw_Frt_findStocks {k : Cd} (h1 : kFrt_findStocks.2.2.2.2.1 + 1 ≤ k.2.2.2.2.1) (h2 : 8 + (kFrt_findStocks.2.2.1 + 11) + kFrt_findStocks.2.2.2.2.2 ≤ k.2.2.2.2.2) : Cw k kFrt_findStocks 2 := ⟨wcode_X4_findStocks, wini_SplitProgram_Freight, ⟨by decide, by decide, by decide +kernel⟩, h1, h2⟩
def Frt_findStocks_b40 (v0 : Nat) (v1 : Nat) (v2 : Int32) (v3 : Int32) (v4 : Int32) (s : Int32 × AHeap) : Option ((Int32 × AHeap) ⊕ ((Int32 × AHeap))) :=
  (if v4 ≤ s.1 then some (.inr (s.1, s.2)) else (gfR s.2 v0 4 1).bind fun a9 => (gfR s.2 v0 4 1).bind fun a10 => (ald 0 s.2 a10 s.1).bind fun x11 => (gfR s.2 v0 4 0).bind fun a12 => (ald 0 s.2 a12 v3).bind fun x13 => (ast 0 s.2 a9 (v4 + s.1) (x11 + x13)).bind fun h14 => some (.inl (s.1 + 1, h14)))
theorem Frt_findStocks_b40_J {E : JE} {l : Launch} {G : GX} {r : Option Value} {h' : AHeap} (ok : JOK E l G kFrt_findStocks 0 0 r h') (v0 : Nat) (v1 : Nat) (v2 : Int32) (v3 : Int32) (v4 : Int32) {Y : (Int32 × AHeap) ⊕ ((Int32 × AHeap)) → Prop} (k1 : ∀ s' : Int32 × AHeap, Y (.inl s') → JW E kFrt_findStocks 40 [some (.ref v0), some (.ref v1), some (.int v2), some (.int v3), some (.int v4), some (.int s'.1)] [] s'.2 0 0) (kx77 : ∀ q : Int32 × AHeap, Y (.inr q) → JW E kFrt_findStocks 77 [some (.ref v0), some (.ref v1), some (.int v2), some (.int v3), some (.int v4), some (.int q.1)] [] q.2 0 0) (s : Int32 × AHeap) : J E kFrt_findStocks (Frt_findStocks_b40 v0 v1 v2 v3 v4 s) Y 40 [some (.ref v0), some (.ref v1), some (.int v2), some (.int v3), some (.int v4), some (.int s.1)] [] s.2 0 0 := by
  unfold Frt_findStocks_b40
  refine J_iload (pc' := 42) ok (dOf dX4_findStocks 28 rfl) rfl rfl ?_
  refine J_iload (pc' := 44) ok (dOf dX4_findStocks 29 rfl) rfl rfl ?_
  refine J_icmp_ge (tgt := 77) (pc' := 47) ok (dOf dX4_findStocks 30 rfl) rfl (by decide) ?_ ?_
  · exact J_fin (kx77 (s.1, s.2))
  · refine J_aload_n (pc' := 48) ok (dOf dX4_findStocks 31 rfl) rfl rfl rfl ?_
    refine J_getR (ci := 4) (kf := 1) (C := RX4) (T := TX4) (N := 12) (pc' := 51) ok (dOf dX4_findStocks 32 rfl) rfl (by decide) rfl (by decide) win_4 wfl_X4_15 (fun a9 => ?_)
    refine J_iload (pc' := 53) ok (dOf dX4_findStocks 33 rfl) rfl rfl ?_
    refine J_iload (pc' := 55) ok (dOf dX4_findStocks 34 rfl) rfl rfl ?_
    refine J_iadd (pc' := 56) ok (dOf dX4_findStocks 35 rfl) rfl ?_
    refine J_aload_n (pc' := 57) ok (dOf dX4_findStocks 36 rfl) rfl rfl rfl ?_
    refine J_getR (ci := 4) (kf := 1) (C := RX4) (T := TX4) (N := 12) (pc' := 60) ok (dOf dX4_findStocks 37 rfl) rfl (by decide) rfl (by decide) win_4 wfl_X4_15 (fun a10 => ?_)
    refine J_iload (pc' := 62) ok (dOf dX4_findStocks 38 rfl) rfl rfl ?_
    refine J_iald (pc' := 63) ok (dOf dX4_findStocks 39 rfl) rfl (fun x11 => ?_)
    refine J_aload_n (pc' := 64) ok (dOf dX4_findStocks 40 rfl) rfl rfl rfl ?_
    refine J_getR (ci := 4) (kf := 0) (C := RX4) (T := TX4) (N := 12) (pc' := 67) ok (dOf dX4_findStocks 41 rfl) rfl (by decide) rfl (by decide) win_4 wfl_X4_9 (fun a12 => ?_)
    refine J_iload_n (pc' := 68) ok (dOf dX4_findStocks 42 rfl) rfl rfl rfl ?_
    refine J_iald (pc' := 69) ok (dOf dX4_findStocks 43 rfl) rfl (fun x13 => ?_)
    refine J_iadd (pc' := 70) ok (dOf dX4_findStocks 44 rfl) rfl ?_
    refine J_iast (pc' := 71) ok (dOf dX4_findStocks 45 rfl) rfl (fun h14 _ => ?_)
    refine J_iinc (v := s.1 + 1) (ls' := [some (.ref v0), some (.ref v1), some (.int v2), some (.int v3), some (.int v4), some (.int (s.1 + 1))]) (pc' := 74) ok (dOf dX4_findStocks 46 rfl) rfl rfl (by rfl) (Nat.le_of_ble_eq_true rfl) rfl rfl ?_
    refine J_goto (tgt := 40) ok (dOf dX4_findStocks 47 rfl) (by decide) ?_
    exact J_fin (k1 (s.1 + 1, h14))
def Frt_findStocks_j77 (v0 : Nat) (v1 : Nat) (v2 : Int32) (v3 : Int32) (v4 : Int32) (v5 : Int32) (h : AHeap) : Option ((Int32 × AHeap) ⊕ ((Int32 × AHeap))) :=
  some (.inl (v3 + 1, h))
theorem Frt_findStocks_j77_J {E : JE} {l : Launch} {G : GX} {r : Option Value} {h' : AHeap} (ok : JOK E l G kFrt_findStocks 0 0 r h') (v0 : Nat) (v1 : Nat) (v2 : Int32) (v3 : Int32) (v4 : Int32) (v5 : Int32) (h : AHeap) {Y : (Int32 × AHeap) ⊕ ((Int32 × AHeap)) → Prop} (k1 : ∀ s' : Int32 × AHeap, Y (.inl s') → JW E kFrt_findStocks 9 [some (.ref v0), some (.ref v1), some (.int v2), some (.int s'.1), none, none] [] s'.2 0 0) (kx83 : ∀ q : Int32 × AHeap, Y (.inr q) → JW E kFrt_findStocks 83 [some (.ref v0), some (.ref v1), some (.int v2), some (.int q.1), none, none] [] q.2 0 0) : J E kFrt_findStocks (Frt_findStocks_j77 v0 v1 v2 v3 v4 v5 h) Y 77 [some (.ref v0), some (.ref v1), some (.int v2), some (.int v3), some (.int v4), some (.int v5)] [] h 0 0 := by
  unfold Frt_findStocks_j77
  refine J_iinc (v := v3 + 1) (ls' := [some (.ref v0), some (.ref v1), some (.int v2), some (.int (v3 + 1)), some (.int v4), some (.int v5)]) (pc' := 80) ok (dOf dX4_findStocks 48 rfl) rfl rfl (by rfl) (Nat.le_of_ble_eq_true rfl) rfl rfl ?_
  refine J_goto (tgt := 9) ok (dOf dX4_findStocks 49 rfl) (by decide) ?_
  refine J_weak (ls' := [some (.ref v0), some (.ref v1), some (.int v2), some (.int (v3 + 1)), none, none]) ⟨rfl, rfl, rfl, rfl, trivial⟩ ?_
  exact J_fin (k1 (v3 + 1, h))
def Frt_findStocks_b9 (v0 : Nat) (v1 : Nat) (v2 : Int32) (s : Int32 × AHeap) : Option ((Int32 × AHeap) ⊕ ((Int32 × AHeap))) :=
  (if 4 ≤ s.1 then some (.inr (s.1, s.2)) else (gfR s.2 v0 4 0).bind fun a3 => bnd2 (Sp_unitsIn v2 s.1 s.2) fun x5 h4 => (gfR h4 v1 6 4).bind fun a6 => (ald 0 h4 a6 s.1).bind fun x7 => (ast 0 h4 a3 s.1 (x5 * x7)).bind fun h8 => (iter (Frt_findStocks_b40 v0 v1 v2 s.1 ((1 : Int32) <<< (s.1 &&& 31))) Lmax (0, h8)).bind (fun q40 => Frt_findStocks_j77 v0 v1 v2 s.1 ((1 : Int32) <<< (s.1 &&& 31)) q40.1 q40.2))
theorem Frt_findStocks_b9_J {E : JE} {l : Launch} {G : GX} {r : Option Value} {h' : AHeap} (ok : JOK E l G kFrt_findStocks 0 0 r h') (v0 : Nat) (v1 : Nat) (v2 : Int32) {Y : (Int32 × AHeap) ⊕ ((Int32 × AHeap)) → Prop} (k1 : ∀ s' : Int32 × AHeap, Y (.inl s') → JW E kFrt_findStocks 9 [some (.ref v0), some (.ref v1), some (.int v2), some (.int s'.1), none, none] [] s'.2 0 0) (kx83 : ∀ q : Int32 × AHeap, Y (.inr q) → JW E kFrt_findStocks 83 [some (.ref v0), some (.ref v1), some (.int v2), some (.int q.1), none, none] [] q.2 0 0) (s : Int32 × AHeap) : J E kFrt_findStocks (Frt_findStocks_b9 v0 v1 v2 s) Y 9 [some (.ref v0), some (.ref v1), some (.int v2), some (.int s.1), none, none] [] s.2 0 0 := by
  unfold Frt_findStocks_b9
  refine J_iload_n (pc' := 10) ok (dOf dX4_findStocks 7 rfl) rfl rfl rfl ?_
  refine J_iconst (v := 4) (pc' := 11) ok (dOf dX4_findStocks 8 rfl) rfl (by decide) ?_
  refine J_icmp_ge (tgt := 83) (pc' := 14) ok (dOf dX4_findStocks 9 rfl) rfl (by decide) ?_ ?_
  · exact J_fin (kx83 (s.1, s.2))
  · refine J_aload_n (pc' := 15) ok (dOf dX4_findStocks 10 rfl) rfl rfl rfl ?_
    refine J_getR (ci := 4) (kf := 0) (C := RX4) (T := TX4) (N := 12) (pc' := 18) ok (dOf dX4_findStocks 11 rfl) rfl (by decide) rfl (by decide) win_4 wfl_X4_9 (fun a3 => ?_)
    refine J_iload_n (pc' := 19) ok (dOf dX4_findStocks 12 rfl) rfl rfl rfl ?_
    refine J_iload_n (pc' := 20) ok (dOf dX4_findStocks 13 rfl) rfl rfl rfl ?_
    refine J_iload_n (pc' := 21) ok (dOf dX4_findStocks 14 rfl) rfl rfl rfl ?_
    refine J_callSNi (k2 := kSp_unitsIn) (as := [.int v2, .int s.1]) (pc' := 24) ok (dOf dX4_findStocks 15 rfl) rfl (cw_Sp_unitsIn (by decide) (by decide)) wmn_X4_62 wstat_X10_unitsIn ⟨Nat.le_refl 0, Nat.le_refl 0⟩ (Nat.le_of_ble_eq_true rfl) rfl (fun _ _ hf => t_Sp_unitsIn hf) (fun x5 h4 => ?_)
    refine J_aload_n (pc' := 25) ok (dOf dX4_findStocks 16 rfl) rfl rfl rfl ?_
    refine J_getR (ci := 6) (kf := 4) (C := RX6) (T := TX6) (N := 9) (pc' := 28) ok (dOf dX4_findStocks 17 rfl) rfl (by decide) rfl (by decide) win_6 wfl_X4_66 (fun a6 => ?_)
    refine J_iload_n (pc' := 29) ok (dOf dX4_findStocks 18 rfl) rfl rfl rfl ?_
    refine J_iald (pc' := 30) ok (dOf dX4_findStocks 19 rfl) rfl (fun x7 => ?_)
    refine J_imul (pc' := 31) ok (dOf dX4_findStocks 20 rfl) rfl ?_
    refine J_iast (pc' := 32) ok (dOf dX4_findStocks 21 rfl) rfl (fun h8 _ => ?_)
    refine J_iconst (v := 1) (pc' := 33) ok (dOf dX4_findStocks 22 rfl) rfl (by decide) ?_
    refine J_iload_n (pc' := 34) ok (dOf dX4_findStocks 23 rfl) rfl rfl rfl ?_
    refine J_ishl (pc' := 35) ok (dOf dX4_findStocks 24 rfl) rfl ?_
    refine J_istore (ls' := [some (.ref v0), some (.ref v1), some (.int v2), some (.int s.1), some (.int ((1 : Int32) <<< (s.1 &&& 31))), none]) (pc' := 37) ok (dOf dX4_findStocks 25 rfl) rfl (Nat.le_of_ble_eq_true rfl) rfl rfl ?_
    refine J_iconst (v := 0) (pc' := 38) ok (dOf dX4_findStocks 26 rfl) rfl (by decide) ?_
    refine J_istore (ls' := [some (.ref v0), some (.ref v1), some (.int v2), some (.int s.1), some (.int ((1 : Int32) <<< (s.1 &&& 31))), some (.int 0)]) (pc' := 40) ok (dOf dX4_findStocks 27 rfl) rfl (Nat.le_of_ble_eq_true rfl) rfl rfl ?_
    refine J_iter (lf := fun z40 => [some (.ref v0), some (.ref v1), some (.int v2), some (.int s.1), some (.int ((1 : Int32) <<< (s.1 &&& 31))), some (.int z40.1)]) (sf := fun _ => []) (hf := fun z40 => z40.2) (px := (fun q40 => 77)) (lx := (fun q40 => [some (.ref v0), some (.ref v1), some (.int v2), some (.int s.1), some (.int ((1 : Int32) <<< (s.1 &&& 31))), some (.int q40.1)])) (sx := (fun q40 => [])) (hx := (fun q40 => q40.2)) (fun Y2 z40 m1 m2 => Frt_findStocks_b40_J ok v0 v1 v2 s.1 ((1 : Int32) <<< (s.1 &&& 31)) m1 m2 z40) (fun q40 => ?_) Lmax _
    exact Frt_findStocks_j77_J ok v0 v1 v2 s.1 ((1 : Int32) <<< (s.1 &&& 31)) q40.1 q40.2 k1 kx83
def Frt_findStocks_j83 (v0 : Nat) (v1 : Nat) (v2 : Int32) (v3 : Int32) (h : AHeap) : Option (Unit × AHeap) :=
  some ((), h)
theorem Frt_findStocks_j83_J {E : JE} {l : Launch} {G : GX} {h' : AHeap} (ok : JOK E l G kFrt_findStocks 0 0 none h') (v0 : Nat) (v1 : Nat) (v2 : Int32) (v3 : Int32) (h : AHeap) : J E kFrt_findStocks (Frt_findStocks_j83 v0 v1 v2 v3 h) (fun z => z = ((), h')) 83 [some (.ref v0), some (.ref v1), some (.int v2), some (.int v3), none, none] [] h 0 0 := by
  unfold Frt_findStocks_j83
  exact J_vreturn ok (dOf dX4_findStocks 50 rfl) rfl (Nat.le_refl 0) (Nat.le_refl 0)
def Frt_findStocks (v0 : Nat) (v1 : Nat) (v2 : Int32) (h : AHeap) : Option (Unit × AHeap) :=
  (gfR h v0 4 1).bind fun a1 => (ast 0 h a1 0 0).bind fun h2 => (iter (Frt_findStocks_b9 v0 v1 v2) Lmax (0, h2)).bind (fun q9 => Frt_findStocks_j83 v0 v1 v2 q9.1 q9.2)
theorem t_Frt_findStocks {l : Launch} {G : GX} {v0 : Nat} {v1 : Nat} {v2 : Int32} {h : AHeap} {h1 : AHeap} (hf : Frt_findStocks v0 v1 v2 h = some ((), h1)) : CT l G kFrt_findStocks 0 0 [.ref v0, .ref v1, .int v2] h none h1 := by
  refine CT_of (ls := [some (.ref v0), some (.ref v1), some (.int v2), none, none, none]) (Z := fun z => z = ((), h1)) (by decide +kernel) (Nat.le_of_ble_eq_true rfl) hf rfl ⟨rfl, rfl, rfl, trivial⟩ (fun E ok => ?_)
  unfold Frt_findStocks
  refine J_aload_n (pc' := 1) ok (dOf dX4_findStocks 0 rfl) rfl rfl rfl ?_
  refine J_getR (ci := 4) (kf := 1) (C := RX4) (T := TX4) (N := 12) (pc' := 4) ok (dOf dX4_findStocks 1 rfl) rfl (by decide) rfl (by decide) win_4 wfl_X4_15 (fun a1 => ?_)
  refine J_iconst (v := 0) (pc' := 5) ok (dOf dX4_findStocks 2 rfl) rfl (by decide) ?_
  refine J_iconst (v := 0) (pc' := 6) ok (dOf dX4_findStocks 3 rfl) rfl (by decide) ?_
  refine J_iast (pc' := 7) ok (dOf dX4_findStocks 4 rfl) rfl (fun h2 _ => ?_)
  refine J_iconst (v := 0) (pc' := 8) ok (dOf dX4_findStocks 5 rfl) rfl (by decide) ?_
  refine J_istore_n (ls' := [some (.ref v0), some (.ref v1), some (.int v2), some (.int 0), none, none]) (pc' := 9) ok (dOf dX4_findStocks 6 rfl) rfl rfl (Nat.le_of_ble_eq_true rfl) rfl rfl ?_
  refine J_iter (lf := fun z9 => [some (.ref v0), some (.ref v1), some (.int v2), some (.int z9.1), none, none]) (sf := fun _ => []) (hf := fun z9 => z9.2) (px := (fun q9 => 83)) (lx := (fun q9 => [some (.ref v0), some (.ref v1), some (.int v2), some (.int q9.1), none, none])) (sx := (fun q9 => [])) (hx := (fun q9 => q9.2)) (fun Y2 z9 m1 m2 => Frt_findStocks_b9_J ok v0 v1 v2 m1 m2 z9) (fun q9 => ?_) Lmax _
  exact Frt_findStocks_j83_J ok v0 v1 v2 q9.1 q9.2
-- X4_lackAt
abbrev kFrt_lackAt : Cd := (yX4_lackAt, cX4_lackAt, 6, (some .int), 2, 49)
theorem dX4_lackAt : dcheck cX4_lackAt [(0, .aload_n 0, 1), (1, .getfield 21, 3), (4, .iload_n 2, 1), (5, .baload, 1), (6, .ifCond .ne 9, 3), (9, .aload_n 0, 1), (10, .aload_n 1, 1), (11, .iload_n 2, 1), (12, .invokevirtual 69, 3), (15, .aload_n 0, 1), (16, .aload_n 1, 1), (17, .iload_n 3, 1), (18, .invokevirtual 73, 3), (21, .iconst 0, 1), (22, .istore 4, 2), (24, .iconst 0, 1), (25, .istore 5, 2), (27, .iload 5, 2), (29, .bipush 16, 2), (31, .if_icmp .ge 36, 3), (34, .iload 4, 2), (36, .aload_n 0, 1), (37, .getfield 18, 3), (40, .iload_n 2, 1), (41, .bipush 16, 2), (43, .imul, 1), (44, .iload 5, 2), (46, .iadd, 1), (47, .iaload, 1), (48, .aload_n 0, 1), (49, .getfield 15, 3), (52, .iload 5, 2), (54, .iaload, 1), (55, .isub, 1), (56, .invokestatic 76, 3), (59, .istore 4, 2), (61, .iinc 5 1, 3), (64, .goto (-37), 3), (67, .iload 4, 2), (69, .ireturn, 1)] = true := by decide +kernel
theorem cw_Frt_lackAt {k : Cd} (h1 : kFrt_lackAt.2.2.2.2.1 + 1 ≤ k.2.2.2.2.1) (h2 : 8 + (kFrt_lackAt.2.2.1 + 11) + kFrt_lackAt.2.2.2.2.2 ≤ k.2.2.2.2.2) : Cw k kFrt_lackAt 3 := ⟨wcode_X4_lackAt, wini_SplitProgram_Freight, ⟨by decide, by decide, by decide +kernel⟩, h1, h2⟩
def Frt_lackAt_b27 (v0 : Nat) (v1 : Nat) (v2 : Int32) (v3 : Int32) (h : AHeap) (s : Int32 × Int32) : Option ((Int32 × Int32) ⊕ ((Int32 × Int32))) :=
  (if 16 ≤ s.2 then some (.inr (s.1, s.2)) else (gfR h v0 4 2).bind fun a4 => (ald 0 h a4 ((v2 * 16) + s.2)).bind fun x5 => (gfR h v0 4 1).bind fun a6 => (ald 0 h a6 s.2).bind fun x7 => some (.inl ((if s.1 < (x5 - x7) then (x5 - x7) else s.1), s.2 + 1)))
theorem Frt_lackAt_b27_J {E : JE} {l : Launch} {G : GX} {r : Option Value} {h' : AHeap} (ok : JOK E l G kFrt_lackAt 0 0 r h') (v0 : Nat) (v1 : Nat) (v2 : Int32) (v3 : Int32) (h : AHeap) {Y : (Int32 × Int32) ⊕ ((Int32 × Int32)) → Prop} (k1 : ∀ s' : Int32 × Int32, Y (.inl s') → JW E kFrt_lackAt 27 [some (.ref v0), some (.ref v1), some (.int v2), some (.int v3), some (.int s'.1), some (.int s'.2)] [] h 0 0) (kx67 : ∀ q : Int32 × Int32, Y (.inr q) → JW E kFrt_lackAt 67 [some (.ref v0), some (.ref v1), some (.int v2), some (.int v3), some (.int q.1), some (.int q.2)] [] h 0 0) (s : Int32 × Int32) : J E kFrt_lackAt (Frt_lackAt_b27 v0 v1 v2 v3 h s) Y 27 [some (.ref v0), some (.ref v1), some (.int v2), some (.int v3), some (.int s.1), some (.int s.2)] [] h 0 0 := by
  unfold Frt_lackAt_b27
  refine J_iload (pc' := 29) ok (dOf dX4_lackAt 17 rfl) rfl rfl ?_
  refine J_bipush (v := 16) (pc' := 31) ok (dOf dX4_lackAt 18 rfl) rfl (by decide) ?_
  refine J_icmp_ge (tgt := 67) (pc' := 34) ok (dOf dX4_lackAt 19 rfl) rfl (by decide) ?_ ?_
  · exact J_fin (kx67 (s.1, s.2))
  · refine J_iload (pc' := 36) ok (dOf dX4_lackAt 20 rfl) rfl rfl ?_
    refine J_aload_n (pc' := 37) ok (dOf dX4_lackAt 21 rfl) rfl rfl rfl ?_
    refine J_getR (ci := 4) (kf := 2) (C := RX4) (T := TX4) (N := 12) (pc' := 40) ok (dOf dX4_lackAt 22 rfl) rfl (by decide) rfl (by decide) win_4 wfl_X4_18 (fun a4 => ?_)
    refine J_iload_n (pc' := 41) ok (dOf dX4_lackAt 23 rfl) rfl rfl rfl ?_
    refine J_bipush (v := 16) (pc' := 43) ok (dOf dX4_lackAt 24 rfl) rfl (by decide) ?_
    refine J_imul (pc' := 44) ok (dOf dX4_lackAt 25 rfl) rfl ?_
    refine J_iload (pc' := 46) ok (dOf dX4_lackAt 26 rfl) rfl rfl ?_
    refine J_iadd (pc' := 47) ok (dOf dX4_lackAt 27 rfl) rfl ?_
    refine J_iald (pc' := 48) ok (dOf dX4_lackAt 28 rfl) rfl (fun x5 => ?_)
    refine J_aload_n (pc' := 49) ok (dOf dX4_lackAt 29 rfl) rfl rfl rfl ?_
    refine J_getR (ci := 4) (kf := 1) (C := RX4) (T := TX4) (N := 12) (pc' := 52) ok (dOf dX4_lackAt 30 rfl) rfl (by decide) rfl (by decide) win_4 wfl_X4_15 (fun a6 => ?_)
    refine J_iload (pc' := 54) ok (dOf dX4_lackAt 31 rfl) rfl rfl ?_
    refine J_iald (pc' := 55) ok (dOf dX4_lackAt 32 rfl) rfl (fun x7 => ?_)
    refine J_isub (pc' := 56) ok (dOf dX4_lackAt 33 rfl) rfl ?_
    refine J_mmax (pc' := 59) ok (dOf dX4_lackAt 34 rfl) rfl wml_X4_76 wstat_J9_max_7cf53 wini_java_lang_Math wcode_J9_max_7cf53 (Nat.le_of_ble_eq_true rfl) (Nat.le_of_ble_eq_true rfl) (Nat.le_refl 0) (Nat.le_refl 0) ?_
    refine J_istore (ls' := [some (.ref v0), some (.ref v1), some (.int v2), some (.int v3), some (.int (if s.1 < (x5 - x7) then (x5 - x7) else s.1)), some (.int s.2)]) (pc' := 61) ok (dOf dX4_lackAt 35 rfl) rfl (Nat.le_of_ble_eq_true rfl) rfl rfl ?_
    refine J_iinc (v := s.2 + 1) (ls' := [some (.ref v0), some (.ref v1), some (.int v2), some (.int v3), some (.int (if s.1 < (x5 - x7) then (x5 - x7) else s.1)), some (.int (s.2 + 1))]) (pc' := 64) ok (dOf dX4_lackAt 36 rfl) rfl rfl (by rfl) (Nat.le_of_ble_eq_true rfl) rfl rfl ?_
    refine J_goto (tgt := 27) ok (dOf dX4_lackAt 37 rfl) (by decide) ?_
    exact J_fin (k1 ((if s.1 < (x5 - x7) then (x5 - x7) else s.1), s.2 + 1))
def Frt_lackAt_j67 (v0 : Nat) (v1 : Nat) (v2 : Int32) (v3 : Int32) (v4 : Int32) (v5 : Int32) (h : AHeap) : Option (Int32 × AHeap) :=
  some (v4, h)
theorem Frt_lackAt_j67_J {E : JE} {l : Launch} {G : GX} {v : Int32} {h' : AHeap} (ok : JOK E l G kFrt_lackAt 0 0 (some (.int v)) h') (v0 : Nat) (v1 : Nat) (v2 : Int32) (v3 : Int32) (v4 : Int32) (v5 : Int32) (h : AHeap) : J E kFrt_lackAt (Frt_lackAt_j67 v0 v1 v2 v3 v4 v5 h) (fun z => z = (v, h')) 67 [some (.ref v0), some (.ref v1), some (.int v2), some (.int v3), some (.int v4), some (.int v5)] [] h 0 0 := by
  unfold Frt_lackAt_j67
  refine J_iload (pc' := 69) ok (dOf dX4_lackAt 38 rfl) rfl rfl ?_
  exact J_ireturn ok (dOf dX4_lackAt 39 rfl) rfl (Nat.le_refl 0) (Nat.le_refl 0)
def Frt_lackAt_j15 (v0 : Nat) (v1 : Nat) (v2 : Int32) (v3 : Int32) (h : AHeap) : Option (Int32 × AHeap) :=
  (chk h v0 4).bind fun _ => bnd2 (Frt_findStocks v0 v1 v3 h) fun _ h3 => (iter (Frt_lackAt_b27 v0 v1 v2 v3 h3) Lmax (0, 0)).bind (fun q27 => Frt_lackAt_j67 v0 v1 v2 v3 q27.1 q27.2 h3)
theorem Frt_lackAt_j15_J {E : JE} {l : Launch} {G : GX} {v : Int32} {h' : AHeap} (ok : JOK E l G kFrt_lackAt 0 0 (some (.int v)) h') (v0 : Nat) (v1 : Nat) (v2 : Int32) (v3 : Int32) (h : AHeap) : J E kFrt_lackAt (Frt_lackAt_j15 v0 v1 v2 v3 h) (fun z => z = (v, h')) 15 [some (.ref v0), some (.ref v1), some (.int v2), some (.int v3), none, none] [] h 0 0 := by
  unfold Frt_lackAt_j15
  refine J_aload_n (pc' := 16) ok (dOf dX4_lackAt 9 rfl) rfl rfl rfl ?_
  refine J_aload_n (pc' := 17) ok (dOf dX4_lackAt 10 rfl) rfl rfl rfl ?_
  refine J_iload_n (pc' := 18) ok (dOf dX4_lackAt 11 rfl) rfl rfl rfl ?_
  refine J_callVv (k2 := kFrt_findStocks) (ci := 4) (T := TX4) (N := 12) (as := [.ref v1, .int v3]) (pc' := 21) ok (dOf dX4_lackAt 12 rfl) rfl (cw_Frt_findStocks (by decide) (by decide)) wml_X4_73 winst_X4_findStocks wsel_X4_findStocks rfl ⟨Nat.le_refl 0, Nat.le_refl 0⟩ (Nat.le_of_ble_eq_true rfl) rfl (fun _ _ hf => t_Frt_findStocks hf) (fun _ h3 => ?_)
  refine J_iconst (v := 0) (pc' := 22) ok (dOf dX4_lackAt 13 rfl) rfl (by decide) ?_
  refine J_istore (ls' := [some (.ref v0), some (.ref v1), some (.int v2), some (.int v3), some (.int 0), none]) (pc' := 24) ok (dOf dX4_lackAt 14 rfl) rfl (Nat.le_of_ble_eq_true rfl) rfl rfl ?_
  refine J_iconst (v := 0) (pc' := 25) ok (dOf dX4_lackAt 15 rfl) rfl (by decide) ?_
  refine J_istore (ls' := [some (.ref v0), some (.ref v1), some (.int v2), some (.int v3), some (.int 0), some (.int 0)]) (pc' := 27) ok (dOf dX4_lackAt 16 rfl) rfl (Nat.le_of_ble_eq_true rfl) rfl rfl ?_
  refine J_iter (lf := fun z27 => [some (.ref v0), some (.ref v1), some (.int v2), some (.int v3), some (.int z27.1), some (.int z27.2)]) (sf := fun _ => []) (hf := fun z27 => h3) (px := (fun q27 => 67)) (lx := (fun q27 => [some (.ref v0), some (.ref v1), some (.int v2), some (.int v3), some (.int q27.1), some (.int q27.2)])) (sx := (fun q27 => [])) (hx := (fun q27 => h3)) (fun Y2 z27 m1 m2 => Frt_lackAt_b27_J ok v0 v1 v2 v3 h3 m1 m2 z27) (fun q27 => ?_) Lmax _
  exact Frt_lackAt_j67_J ok v0 v1 v2 v3 q27.1 q27.2 h3
def Frt_lackAt (v0 : Nat) (v1 : Nat) (v2 : Int32) (v3 : Int32) (h : AHeap) : Option (Int32 × AHeap) :=
  (gfR h v0 4 3).bind fun a1 => (ald 1 h a1 v2).bind fun x2 => (if ¬ x2 = 0 then Frt_lackAt_j15 v0 v1 v2 v3 h else (chk h v0 4).bind fun _ => bnd2 (Frt_findLoads v0 v1 v2 h) fun _ h8 => Frt_lackAt_j15 v0 v1 v2 v3 h8)
theorem t_Frt_lackAt {l : Launch} {G : GX} {v0 : Nat} {v1 : Nat} {v2 : Int32} {v3 : Int32} {h : AHeap} {v : Int32} {h1 : AHeap} (hf : Frt_lackAt v0 v1 v2 v3 h = some (v, h1)) : CT l G kFrt_lackAt 0 0 [.ref v0, .ref v1, .int v2, .int v3] h (some (.int v)) h1 := by
  refine CT_of (ls := [some (.ref v0), some (.ref v1), some (.int v2), some (.int v3), none, none]) (Z := fun z => z = (v, h1)) (by decide +kernel) (Nat.le_of_ble_eq_true rfl) hf rfl ⟨rfl, rfl, rfl, rfl, trivial⟩ (fun E ok => ?_)
  unfold Frt_lackAt
  refine J_aload_n (pc' := 1) ok (dOf dX4_lackAt 0 rfl) rfl rfl rfl ?_
  refine J_getR (ci := 4) (kf := 3) (C := RX4) (T := TX4) (N := 12) (pc' := 4) ok (dOf dX4_lackAt 1 rfl) rfl (by decide) rfl (by decide) win_4 wfl_X4_21 (fun a1 => ?_)
  refine J_iload_n (pc' := 5) ok (dOf dX4_lackAt 2 rfl) rfl rfl rfl ?_
  refine J_zald (pc' := 6) ok (dOf dX4_lackAt 3 rfl) rfl (fun x2 => ?_)
  refine J_if_ne (tgt := 15) (pc' := 9) ok (dOf dX4_lackAt 4 rfl) rfl (by decide) ?_ ?_
  · exact Frt_lackAt_j15_J ok v0 v1 v2 v3 h
  · refine J_aload_n (pc' := 10) ok (dOf dX4_lackAt 5 rfl) rfl rfl rfl ?_
    refine J_aload_n (pc' := 11) ok (dOf dX4_lackAt 6 rfl) rfl rfl rfl ?_
    refine J_iload_n (pc' := 12) ok (dOf dX4_lackAt 7 rfl) rfl rfl rfl ?_
    refine J_callVv (k2 := kFrt_findLoads) (ci := 4) (T := TX4) (N := 12) (as := [.ref v1, .int v2]) (pc' := 15) ok (dOf dX4_lackAt 8 rfl) rfl (cw_Frt_findLoads (by decide) (by decide)) wml_X4_69 winst_X4_findLoads wsel_X4_findLoads rfl ⟨Nat.le_refl 0, Nat.le_refl 0⟩ (Nat.le_of_ble_eq_true rfl) rfl (fun _ _ hf => t_Frt_findLoads hf) (fun _ h8 => ?_)
    exact Frt_lackAt_j15_J ok v0 v1 v2 v3 h8
-- X4_cheapestFor
abbrev kFrt_cheapestFor : Cd := (yX4_cheapestFor, cX4_cheapestFor, 7, (some .int), 0, 0)
theorem dX4_cheapestFor : dcheck cX4_cheapestFor [(0, .iconst (-1), 1), (1, .istore_n 3, 1), (2, .ldc 114, 2), (4, .istore 4, 2), (6, .iconst 0, 1), (7, .istore 5, 2), (9, .iload 5, 2), (11, .aload_n 1, 1), (12, .getfield 115, 3), (15, .if_icmp .ge 59, 3), (18, .aload_n 1, 1), (19, .getfield 101, 3), (22, .iload 5, 2), (24, .bipush 6, 2), (26, .imul, 1), (27, .iload_n 2, 1), (28, .iadd, 1), (29, .iaload, 1), (30, .istore 6, 2), (32, .iload 6, 2), (34, .iconst (-1), 1), (35, .if_icmp .eq 33, 3), (38, .aload_n 0, 1), (39, .getfield 37, 3), (42, .iload 5, 2), (44, .iaload, 1), (45, .iload 6, 2), (47, .iadd, 1), (48, .iload 4, 2), (50, .if_icmp .ge 18, 3), (53, .aload_n 0, 1), (54, .getfield 37, 3), (57, .iload 5, 2), (59, .iaload, 1), (60, .iload 6, 2), (62, .iadd, 1), (63, .istore 4, 2), (65, .iload 5, 2), (67, .istore_n 3, 1), (68, .iinc 5 1, 3), (71, .goto (-62), 3), (74, .iload_n 3, 1), (75, .ireturn, 1)] = true := by decide +kernel
theorem cw_Frt_cheapestFor {k : Cd} (h1 : kFrt_cheapestFor.2.2.2.2.1 + 1 ≤ k.2.2.2.2.1) (h2 : 8 + (kFrt_cheapestFor.2.2.1 + 11) + kFrt_cheapestFor.2.2.2.2.2 ≤ k.2.2.2.2.2) : Cw k kFrt_cheapestFor 2 := ⟨wcode_X4_cheapestFor, wini_SplitProgram_Freight, ⟨by decide, by decide, by decide +kernel⟩, h1, h2⟩
def Frt_cheapestFor_j68 (v0 : Nat) (v1 : Nat) (v2 : Int32) (v3 : Int32) (v4 : Int32) (v5 : Int32) (v6 : Int32) (h : AHeap) : Option ((Int32 × Int32 × Int32) ⊕ ((Int32 × Int32 × Int32))) :=
  some (.inl (v3, v4, v5 + 1))
theorem Frt_cheapestFor_j68_J {E : JE} {l : Launch} {G : GX} {r : Option Value} {h' : AHeap} (ok : JOK E l G kFrt_cheapestFor 0 0 r h') (v0 : Nat) (v1 : Nat) (v2 : Int32) (v3 : Int32) (v4 : Int32) (v5 : Int32) (v6 : Int32) (h : AHeap) {Y : (Int32 × Int32 × Int32) ⊕ ((Int32 × Int32 × Int32)) → Prop} (k1 : ∀ s' : Int32 × Int32 × Int32, Y (.inl s') → JW E kFrt_cheapestFor 9 [some (.ref v0), some (.ref v1), some (.int v2), some (.int s'.1), some (.int s'.2.1), some (.int s'.2.2), none] [] h 0 0) (kx74 : ∀ q : Int32 × Int32 × Int32, Y (.inr q) → JW E kFrt_cheapestFor 74 [some (.ref v0), some (.ref v1), some (.int v2), some (.int q.1), some (.int q.2.1), some (.int q.2.2), none] [] h 0 0) : J E kFrt_cheapestFor (Frt_cheapestFor_j68 v0 v1 v2 v3 v4 v5 v6 h) Y 68 [some (.ref v0), some (.ref v1), some (.int v2), some (.int v3), some (.int v4), some (.int v5), some (.int v6)] [] h 0 0 := by
  unfold Frt_cheapestFor_j68
  refine J_iinc (v := v5 + 1) (ls' := [some (.ref v0), some (.ref v1), some (.int v2), some (.int v3), some (.int v4), some (.int (v5 + 1)), some (.int v6)]) (pc' := 71) ok (dOf dX4_cheapestFor 39 rfl) rfl rfl (by rfl) (Nat.le_of_ble_eq_true rfl) rfl rfl ?_
  refine J_goto (tgt := 9) ok (dOf dX4_cheapestFor 40 rfl) (by decide) ?_
  refine J_weak (ls' := [some (.ref v0), some (.ref v1), some (.int v2), some (.int v3), some (.int v4), some (.int (v5 + 1)), none]) ⟨rfl, rfl, rfl, rfl, rfl, rfl, trivial⟩ ?_
  exact J_fin (k1 (v3, v4, v5 + 1))
def Frt_cheapestFor_b9 (v0 : Nat) (v1 : Nat) (v2 : Int32) (h : AHeap) (s : Int32 × Int32 × Int32) : Option ((Int32 × Int32 × Int32) ⊕ ((Int32 × Int32 × Int32))) :=
  (gfI h v1 6 0).bind fun x1 => (if x1 ≤ s.2.2 then some (.inr (s.1, s.2.1, s.2.2)) else (gfR h v1 6 6).bind fun a2 => (ald 0 h a2 ((s.2.2 * 6) + v2)).bind fun x3 => (if x3 = (-1) then Frt_cheapestFor_j68 v0 v1 v2 s.1 s.2.1 s.2.2 x3 h else (gfR h v0 4 8).bind fun a4 => (ald 0 h a4 s.2.2).bind fun x5 => (if s.2.1 ≤ (x5 + x3) then Frt_cheapestFor_j68 v0 v1 v2 s.1 s.2.1 s.2.2 x3 h else (gfR h v0 4 8).bind fun a6 => (ald 0 h a6 s.2.2).bind fun x7 => Frt_cheapestFor_j68 v0 v1 v2 s.2.2 (x7 + x3) s.2.2 x3 h)))
theorem Frt_cheapestFor_b9_J {E : JE} {l : Launch} {G : GX} {r : Option Value} {h' : AHeap} (ok : JOK E l G kFrt_cheapestFor 0 0 r h') (v0 : Nat) (v1 : Nat) (v2 : Int32) (h : AHeap) {Y : (Int32 × Int32 × Int32) ⊕ ((Int32 × Int32 × Int32)) → Prop} (k1 : ∀ s' : Int32 × Int32 × Int32, Y (.inl s') → JW E kFrt_cheapestFor 9 [some (.ref v0), some (.ref v1), some (.int v2), some (.int s'.1), some (.int s'.2.1), some (.int s'.2.2), none] [] h 0 0) (kx74 : ∀ q : Int32 × Int32 × Int32, Y (.inr q) → JW E kFrt_cheapestFor 74 [some (.ref v0), some (.ref v1), some (.int v2), some (.int q.1), some (.int q.2.1), some (.int q.2.2), none] [] h 0 0) (s : Int32 × Int32 × Int32) : J E kFrt_cheapestFor (Frt_cheapestFor_b9 v0 v1 v2 h s) Y 9 [some (.ref v0), some (.ref v1), some (.int v2), some (.int s.1), some (.int s.2.1), some (.int s.2.2), none] [] h 0 0 := by
  unfold Frt_cheapestFor_b9
  refine J_iload (pc' := 11) ok (dOf dX4_cheapestFor 6 rfl) rfl rfl ?_
  refine J_aload_n (pc' := 12) ok (dOf dX4_cheapestFor 7 rfl) rfl rfl rfl ?_
  refine J_getI (ci := 6) (kf := 0) (C := RX6) (T := TX6) (N := 9) (pc' := 15) ok (dOf dX4_cheapestFor 8 rfl) rfl (by decide) rfl (by decide) win_6 wfl_X4_115 (fun x1 => ?_)
  refine J_icmp_ge (tgt := 74) (pc' := 18) ok (dOf dX4_cheapestFor 9 rfl) rfl (by decide) ?_ ?_
  · exact J_fin (kx74 (s.1, s.2.1, s.2.2))
  · refine J_aload_n (pc' := 19) ok (dOf dX4_cheapestFor 10 rfl) rfl rfl rfl ?_
    refine J_getR (ci := 6) (kf := 6) (C := RX6) (T := TX6) (N := 9) (pc' := 22) ok (dOf dX4_cheapestFor 11 rfl) rfl (by decide) rfl (by decide) win_6 wfl_X4_101 (fun a2 => ?_)
    refine J_iload (pc' := 24) ok (dOf dX4_cheapestFor 12 rfl) rfl rfl ?_
    refine J_bipush (v := 6) (pc' := 26) ok (dOf dX4_cheapestFor 13 rfl) rfl (by decide) ?_
    refine J_imul (pc' := 27) ok (dOf dX4_cheapestFor 14 rfl) rfl ?_
    refine J_iload_n (pc' := 28) ok (dOf dX4_cheapestFor 15 rfl) rfl rfl rfl ?_
    refine J_iadd (pc' := 29) ok (dOf dX4_cheapestFor 16 rfl) rfl ?_
    refine J_iald (pc' := 30) ok (dOf dX4_cheapestFor 17 rfl) rfl (fun x3 => ?_)
    refine J_istore (ls' := [some (.ref v0), some (.ref v1), some (.int v2), some (.int s.1), some (.int s.2.1), some (.int s.2.2), some (.int x3)]) (pc' := 32) ok (dOf dX4_cheapestFor 18 rfl) rfl (Nat.le_of_ble_eq_true rfl) rfl rfl ?_
    refine J_iload (pc' := 34) ok (dOf dX4_cheapestFor 19 rfl) rfl rfl ?_
    refine J_iconst (v := (-1)) (pc' := 35) ok (dOf dX4_cheapestFor 20 rfl) rfl (by decide) ?_
    refine J_icmp_eq (tgt := 68) (pc' := 38) ok (dOf dX4_cheapestFor 21 rfl) rfl (by decide) ?_ ?_
    · exact Frt_cheapestFor_j68_J ok v0 v1 v2 s.1 s.2.1 s.2.2 x3 h k1 kx74
    · refine J_aload_n (pc' := 39) ok (dOf dX4_cheapestFor 22 rfl) rfl rfl rfl ?_
      refine J_getR (ci := 4) (kf := 8) (C := RX4) (T := TX4) (N := 12) (pc' := 42) ok (dOf dX4_cheapestFor 23 rfl) rfl (by decide) rfl (by decide) win_4 wfl_X4_37 (fun a4 => ?_)
      refine J_iload (pc' := 44) ok (dOf dX4_cheapestFor 24 rfl) rfl rfl ?_
      refine J_iald (pc' := 45) ok (dOf dX4_cheapestFor 25 rfl) rfl (fun x5 => ?_)
      refine J_iload (pc' := 47) ok (dOf dX4_cheapestFor 26 rfl) rfl rfl ?_
      refine J_iadd (pc' := 48) ok (dOf dX4_cheapestFor 27 rfl) rfl ?_
      refine J_iload (pc' := 50) ok (dOf dX4_cheapestFor 28 rfl) rfl rfl ?_
      refine J_icmp_ge (tgt := 68) (pc' := 53) ok (dOf dX4_cheapestFor 29 rfl) rfl (by decide) ?_ ?_
      · exact Frt_cheapestFor_j68_J ok v0 v1 v2 s.1 s.2.1 s.2.2 x3 h k1 kx74
      · refine J_aload_n (pc' := 54) ok (dOf dX4_cheapestFor 30 rfl) rfl rfl rfl ?_
        refine J_getR (ci := 4) (kf := 8) (C := RX4) (T := TX4) (N := 12) (pc' := 57) ok (dOf dX4_cheapestFor 31 rfl) rfl (by decide) rfl (by decide) win_4 wfl_X4_37 (fun a6 => ?_)
        refine J_iload (pc' := 59) ok (dOf dX4_cheapestFor 32 rfl) rfl rfl ?_
        refine J_iald (pc' := 60) ok (dOf dX4_cheapestFor 33 rfl) rfl (fun x7 => ?_)
        refine J_iload (pc' := 62) ok (dOf dX4_cheapestFor 34 rfl) rfl rfl ?_
        refine J_iadd (pc' := 63) ok (dOf dX4_cheapestFor 35 rfl) rfl ?_
        refine J_istore (ls' := [some (.ref v0), some (.ref v1), some (.int v2), some (.int s.1), some (.int (x7 + x3)), some (.int s.2.2), some (.int x3)]) (pc' := 65) ok (dOf dX4_cheapestFor 36 rfl) rfl (Nat.le_of_ble_eq_true rfl) rfl rfl ?_
        refine J_iload (pc' := 67) ok (dOf dX4_cheapestFor 37 rfl) rfl rfl ?_
        refine J_istore_n (ls' := [some (.ref v0), some (.ref v1), some (.int v2), some (.int s.2.2), some (.int (x7 + x3)), some (.int s.2.2), some (.int x3)]) (pc' := 68) ok (dOf dX4_cheapestFor 38 rfl) rfl rfl (Nat.le_of_ble_eq_true rfl) rfl rfl ?_
        exact Frt_cheapestFor_j68_J ok v0 v1 v2 s.2.2 (x7 + x3) s.2.2 x3 h k1 kx74
def Frt_cheapestFor_j74 (v0 : Nat) (v1 : Nat) (v2 : Int32) (v3 : Int32) (v4 : Int32) (v5 : Int32) (h : AHeap) : Option (Int32 × AHeap) :=
  some (v3, h)
theorem Frt_cheapestFor_j74_J {E : JE} {l : Launch} {G : GX} {v : Int32} {h' : AHeap} (ok : JOK E l G kFrt_cheapestFor 0 0 (some (.int v)) h') (v0 : Nat) (v1 : Nat) (v2 : Int32) (v3 : Int32) (v4 : Int32) (v5 : Int32) (h : AHeap) : J E kFrt_cheapestFor (Frt_cheapestFor_j74 v0 v1 v2 v3 v4 v5 h) (fun z => z = (v, h')) 74 [some (.ref v0), some (.ref v1), some (.int v2), some (.int v3), some (.int v4), some (.int v5), none] [] h 0 0 := by
  unfold Frt_cheapestFor_j74
  refine J_iload_n (pc' := 75) ok (dOf dX4_cheapestFor 41 rfl) rfl rfl rfl ?_
  exact J_ireturn ok (dOf dX4_cheapestFor 42 rfl) rfl (Nat.le_refl 0) (Nat.le_refl 0)
def Frt_cheapestFor (v0 : Nat) (v1 : Nat) (v2 : Int32) (h : AHeap) : Option (Int32 × AHeap) :=
  (iter (Frt_cheapestFor_b9 v0 v1 v2 h) Lmax ((-1), 1000000, 0)).bind (fun q9 => Frt_cheapestFor_j74 v0 v1 v2 q9.1 q9.2.1 q9.2.2 h)
theorem t_Frt_cheapestFor {l : Launch} {G : GX} {v0 : Nat} {v1 : Nat} {v2 : Int32} {h : AHeap} {v : Int32} {h1 : AHeap} (hf : Frt_cheapestFor v0 v1 v2 h = some (v, h1)) : CT l G kFrt_cheapestFor 0 0 [.ref v0, .ref v1, .int v2] h (some (.int v)) h1 := by
  refine CT_of (ls := [some (.ref v0), some (.ref v1), some (.int v2), none, none, none, none]) (Z := fun z => z = (v, h1)) (by decide +kernel) (Nat.le_of_ble_eq_true rfl) hf rfl ⟨rfl, rfl, rfl, trivial⟩ (fun E ok => ?_)
  unfold Frt_cheapestFor
  refine J_iconst (v := (-1)) (pc' := 1) ok (dOf dX4_cheapestFor 0 rfl) rfl (by decide) ?_
  refine J_istore_n (ls' := [some (.ref v0), some (.ref v1), some (.int v2), some (.int (-1)), none, none, none]) (pc' := 2) ok (dOf dX4_cheapestFor 1 rfl) rfl rfl (Nat.le_of_ble_eq_true rfl) rfl rfl ?_
  refine J_ldc (v := 1000000) (pc' := 4) ok (dOf dX4_cheapestFor 2 rfl) rfl wcon_X4_114 ?_
  refine J_istore (ls' := [some (.ref v0), some (.ref v1), some (.int v2), some (.int (-1)), some (.int 1000000), none, none]) (pc' := 6) ok (dOf dX4_cheapestFor 3 rfl) rfl (Nat.le_of_ble_eq_true rfl) rfl rfl ?_
  refine J_iconst (v := 0) (pc' := 7) ok (dOf dX4_cheapestFor 4 rfl) rfl (by decide) ?_
  refine J_istore (ls' := [some (.ref v0), some (.ref v1), some (.int v2), some (.int (-1)), some (.int 1000000), some (.int 0), none]) (pc' := 9) ok (dOf dX4_cheapestFor 5 rfl) rfl (Nat.le_of_ble_eq_true rfl) rfl rfl ?_
  refine J_iter (lf := fun z9 => [some (.ref v0), some (.ref v1), some (.int v2), some (.int z9.1), some (.int z9.2.1), some (.int z9.2.2), none]) (sf := fun _ => []) (hf := fun z9 => h) (px := (fun q9 => 74)) (lx := (fun q9 => [some (.ref v0), some (.ref v1), some (.int v2), some (.int q9.1), some (.int q9.2.1), some (.int q9.2.2), none])) (sx := (fun q9 => [])) (hx := (fun q9 => h)) (fun Y2 z9 m1 m2 => Frt_cheapestFor_b9_J ok v0 v1 v2 h m1 m2 z9) (fun q9 => ?_) Lmax _
  exact Frt_cheapestFor_j74_J ok v0 v1 v2 q9.1 q9.2.1 q9.2.2 h
-- X4_findSwaps
abbrev kFrt_findSwaps : Cd := (yX4_findSwaps, cX4_findSwaps, 8, none, 1, 23)
theorem dX4_findSwaps : dcheck cX4_findSwaps [(0, .aload_n 0, 1), (1, .getfield 31, 3), (4, .ldc 114, 2), (6, .invokestatic 87, 3), (9, .iconst 0, 1), (10, .istore_n 2, 1), (11, .iload_n 2, 1), (12, .aload_n 1, 1), (13, .getfield 115, 3), (16, .if_icmp .ge 139, 3), (19, .iconst 0, 1), (20, .istore_n 3, 1), (21, .iload_n 3, 1), (22, .aload_n 1, 1), (23, .getfield 49, 3), (26, .if_icmp .ge 123, 3), (29, .aload_n 1, 1), (30, .getfield 101, 3), (33, .iload_n 2, 1), (34, .bipush 6, 2), (36, .imul, 1), (37, .iload_n 3, 1), (38, .iadd, 1), (39, .iaload, 1), (40, .istore 4, 2), (42, .iconst 0, 1), (43, .istore 5, 2), (45, .iload 5, 2), (47, .aload_n 1, 1), (48, .getfield 115, 3), (51, .if_icmp .ge 92, 3), (54, .aload_n 0, 1), (55, .getfield 28, 3), (58, .iload_n 2, 1), (59, .bipush 6, 2), (61, .imul, 1), (62, .iload_n 3, 1), (63, .iadd, 1), (64, .iaload, 1), (65, .ifCond .le 78, 3), (68, .aload_n 1, 1), (69, .getfield 101, 3), (72, .iload 5, 2), (74, .bipush 6, 2), (76, .imul, 1), (77, .iload_n 3, 1), (78, .iadd, 1), (79, .iaload, 1), (80, .istore 6, 2), (82, .iload 5, 2), (84, .iconst 4, 1), (85, .imul, 1), (86, .iload_n 2, 1), (87, .iadd, 1), (88, .istore 7, 2), (90, .iload 5, 2), (92, .iload_n 2, 1), (93, .if_icmp .eq 44, 3), (96, .iload 6, 2), (98, .iconst (-1), 1), (99, .if_icmp .eq 38, 3), (102, .iload 6, 2), (104, .iload 4, 2), (106, .isub, 1), (107, .aload_n 0, 1), (108, .getfield 31, 3), (111, .iload 7, 2), (113, .iaload, 1), (114, .if_icmp .ge 23, 3), (117, .aload_n 0, 1), (118, .getfield 31, 3), (121, .iload 7, 2), (123, .iload 6, 2), (125, .iload 4, 2), (127, .isub, 1), (128, .iastore, 1), (129, .aload_n 0, 1), (130, .getfield 34, 3), (133, .iload 7, 2), (135, .iload_n 3, 1), (136, .iastore, 1), (137, .iinc 5 1, 3), (140, .goto (-95), 3), (143, .iinc 3 1, 3), (146, .goto (-125), 3), (149, .iinc 2 1, 3), (152, .goto (-141), 3), (155, .return_, 1)] = true := by decide +kernel
theorem cw_Frt_findSwaps {k : Cd} (h1 : kFrt_findSwaps.2.2.2.2.1 + 1 ≤ k.2.2.2.2.1) (h2 : 8 + (kFrt_findSwaps.2.2.1 + 11) + kFrt_findSwaps.2.2.2.2.2 ≤ k.2.2.2.2.2) : Cw k kFrt_findSwaps 1 := ⟨wcode_X4_findSwaps, wini_SplitProgram_Freight, ⟨by decide, by decide, by decide +kernel⟩, h1, h2⟩
def Frt_findSwaps_j137 (v0 : Nat) (v1 : Nat) (v2 : Int32) (v3 : Int32) (v4 : Int32) (v5 : Int32) (v6 : Int32) (v7 : Int32) (h : AHeap) : Option ((Int32 × AHeap) ⊕ ((Int32 × AHeap))) :=
  some (.inl (v5 + 1, h))
theorem Frt_findSwaps_j137_J {E : JE} {l : Launch} {G : GX} {r : Option Value} {h' : AHeap} (ok : JOK E l G kFrt_findSwaps 0 0 r h') (v0 : Nat) (v1 : Nat) (v2 : Int32) (v3 : Int32) (v4 : Int32) (v5 : Int32) (v6 : Int32) (v7 : Int32) (h : AHeap) {Y : (Int32 × AHeap) ⊕ ((Int32 × AHeap)) → Prop} (k1 : ∀ s' : Int32 × AHeap, Y (.inl s') → JW E kFrt_findSwaps 45 [some (.ref v0), some (.ref v1), some (.int v2), some (.int v3), some (.int v4), some (.int s'.1), none, none] [] s'.2 0 0) (kx143 : ∀ q : Int32 × AHeap, Y (.inr q) → JW E kFrt_findSwaps 143 [some (.ref v0), some (.ref v1), some (.int v2), some (.int v3), some (.int v4), some (.int q.1), none, none] [] q.2 0 0) : J E kFrt_findSwaps (Frt_findSwaps_j137 v0 v1 v2 v3 v4 v5 v6 v7 h) Y 137 [some (.ref v0), some (.ref v1), some (.int v2), some (.int v3), some (.int v4), some (.int v5), some (.int v6), some (.int v7)] [] h 0 0 := by
  unfold Frt_findSwaps_j137
  refine J_iinc (v := v5 + 1) (ls' := [some (.ref v0), some (.ref v1), some (.int v2), some (.int v3), some (.int v4), some (.int (v5 + 1)), some (.int v6), some (.int v7)]) (pc' := 140) ok (dOf dX4_findSwaps 81 rfl) rfl rfl (by rfl) (Nat.le_of_ble_eq_true rfl) rfl rfl ?_
  refine J_goto (tgt := 45) ok (dOf dX4_findSwaps 82 rfl) (by decide) ?_
  refine J_weak (ls' := [some (.ref v0), some (.ref v1), some (.int v2), some (.int v3), some (.int v4), some (.int (v5 + 1)), none, none]) ⟨rfl, rfl, rfl, rfl, rfl, rfl, trivial⟩ ?_
  exact J_fin (k1 (v5 + 1, h))
def Frt_findSwaps_b45 (v0 : Nat) (v1 : Nat) (v2 : Int32) (v3 : Int32) (v4 : Int32) (s : Int32 × AHeap) : Option ((Int32 × AHeap) ⊕ ((Int32 × AHeap))) :=
  (gfI s.2 v1 6 0).bind fun x7 => (if x7 ≤ s.1 then some (.inr (s.1, s.2)) else (gfR s.2 v0 4 5).bind fun a8 => (ald 0 s.2 a8 ((v2 * 6) + v3)).bind fun x9 => (if x9 ≤ 0 then some (.inr (s.1, s.2)) else (gfR s.2 v1 6 6).bind fun a10 => (ald 0 s.2 a10 ((s.1 * 6) + v3)).bind fun x11 => (if s.1 = v2 then Frt_findSwaps_j137 v0 v1 v2 v3 v4 s.1 x11 ((s.1 * 4) + v2) s.2 else (if x11 = (-1) then Frt_findSwaps_j137 v0 v1 v2 v3 v4 s.1 x11 ((s.1 * 4) + v2) s.2 else (gfR s.2 v0 4 6).bind fun a12 => (ald 0 s.2 a12 ((s.1 * 4) + v2)).bind fun x13 => (if x13 ≤ (x11 - v4) then Frt_findSwaps_j137 v0 v1 v2 v3 v4 s.1 x11 ((s.1 * 4) + v2) s.2 else (gfR s.2 v0 4 6).bind fun a14 => (ast 0 s.2 a14 ((s.1 * 4) + v2) (x11 - v4)).bind fun h15 => (gfR h15 v0 4 7).bind fun a16 => (ast 0 h15 a16 ((s.1 * 4) + v2) v3).bind fun h17 => Frt_findSwaps_j137 v0 v1 v2 v3 v4 s.1 x11 ((s.1 * 4) + v2) h17)))))
theorem Frt_findSwaps_b45_J {E : JE} {l : Launch} {G : GX} {r : Option Value} {h' : AHeap} (ok : JOK E l G kFrt_findSwaps 0 0 r h') (v0 : Nat) (v1 : Nat) (v2 : Int32) (v3 : Int32) (v4 : Int32) {Y : (Int32 × AHeap) ⊕ ((Int32 × AHeap)) → Prop} (k1 : ∀ s' : Int32 × AHeap, Y (.inl s') → JW E kFrt_findSwaps 45 [some (.ref v0), some (.ref v1), some (.int v2), some (.int v3), some (.int v4), some (.int s'.1), none, none] [] s'.2 0 0) (kx143 : ∀ q : Int32 × AHeap, Y (.inr q) → JW E kFrt_findSwaps 143 [some (.ref v0), some (.ref v1), some (.int v2), some (.int v3), some (.int v4), some (.int q.1), none, none] [] q.2 0 0) (s : Int32 × AHeap) : J E kFrt_findSwaps (Frt_findSwaps_b45 v0 v1 v2 v3 v4 s) Y 45 [some (.ref v0), some (.ref v1), some (.int v2), some (.int v3), some (.int v4), some (.int s.1), none, none] [] s.2 0 0 := by
  unfold Frt_findSwaps_b45
  refine J_iload (pc' := 47) ok (dOf dX4_findSwaps 27 rfl) rfl rfl ?_
  refine J_aload_n (pc' := 48) ok (dOf dX4_findSwaps 28 rfl) rfl rfl rfl ?_
  refine J_getI (ci := 6) (kf := 0) (C := RX6) (T := TX6) (N := 9) (pc' := 51) ok (dOf dX4_findSwaps 29 rfl) rfl (by decide) rfl (by decide) win_6 wfl_X4_115 (fun x7 => ?_)
  refine J_icmp_ge (tgt := 143) (pc' := 54) ok (dOf dX4_findSwaps 30 rfl) rfl (by decide) ?_ ?_
  · exact J_fin (kx143 (s.1, s.2))
  · refine J_aload_n (pc' := 55) ok (dOf dX4_findSwaps 31 rfl) rfl rfl rfl ?_
    refine J_getR (ci := 4) (kf := 5) (C := RX4) (T := TX4) (N := 12) (pc' := 58) ok (dOf dX4_findSwaps 32 rfl) rfl (by decide) rfl (by decide) win_4 wfl_X4_28 (fun a8 => ?_)
    refine J_iload_n (pc' := 59) ok (dOf dX4_findSwaps 33 rfl) rfl rfl rfl ?_
    refine J_bipush (v := 6) (pc' := 61) ok (dOf dX4_findSwaps 34 rfl) rfl (by decide) ?_
    refine J_imul (pc' := 62) ok (dOf dX4_findSwaps 35 rfl) rfl ?_
    refine J_iload_n (pc' := 63) ok (dOf dX4_findSwaps 36 rfl) rfl rfl rfl ?_
    refine J_iadd (pc' := 64) ok (dOf dX4_findSwaps 37 rfl) rfl ?_
    refine J_iald (pc' := 65) ok (dOf dX4_findSwaps 38 rfl) rfl (fun x9 => ?_)
    refine J_if_le (tgt := 143) (pc' := 68) ok (dOf dX4_findSwaps 39 rfl) rfl (by decide) ?_ ?_
    · exact J_fin (kx143 (s.1, s.2))
    · refine J_aload_n (pc' := 69) ok (dOf dX4_findSwaps 40 rfl) rfl rfl rfl ?_
      refine J_getR (ci := 6) (kf := 6) (C := RX6) (T := TX6) (N := 9) (pc' := 72) ok (dOf dX4_findSwaps 41 rfl) rfl (by decide) rfl (by decide) win_6 wfl_X4_101 (fun a10 => ?_)
      refine J_iload (pc' := 74) ok (dOf dX4_findSwaps 42 rfl) rfl rfl ?_
      refine J_bipush (v := 6) (pc' := 76) ok (dOf dX4_findSwaps 43 rfl) rfl (by decide) ?_
      refine J_imul (pc' := 77) ok (dOf dX4_findSwaps 44 rfl) rfl ?_
      refine J_iload_n (pc' := 78) ok (dOf dX4_findSwaps 45 rfl) rfl rfl rfl ?_
      refine J_iadd (pc' := 79) ok (dOf dX4_findSwaps 46 rfl) rfl ?_
      refine J_iald (pc' := 80) ok (dOf dX4_findSwaps 47 rfl) rfl (fun x11 => ?_)
      refine J_istore (ls' := [some (.ref v0), some (.ref v1), some (.int v2), some (.int v3), some (.int v4), some (.int s.1), some (.int x11), none]) (pc' := 82) ok (dOf dX4_findSwaps 48 rfl) rfl (Nat.le_of_ble_eq_true rfl) rfl rfl ?_
      refine J_iload (pc' := 84) ok (dOf dX4_findSwaps 49 rfl) rfl rfl ?_
      refine J_iconst (v := 4) (pc' := 85) ok (dOf dX4_findSwaps 50 rfl) rfl (by decide) ?_
      refine J_imul (pc' := 86) ok (dOf dX4_findSwaps 51 rfl) rfl ?_
      refine J_iload_n (pc' := 87) ok (dOf dX4_findSwaps 52 rfl) rfl rfl rfl ?_
      refine J_iadd (pc' := 88) ok (dOf dX4_findSwaps 53 rfl) rfl ?_
      refine J_istore (ls' := [some (.ref v0), some (.ref v1), some (.int v2), some (.int v3), some (.int v4), some (.int s.1), some (.int x11), some (.int ((s.1 * 4) + v2))]) (pc' := 90) ok (dOf dX4_findSwaps 54 rfl) rfl (Nat.le_of_ble_eq_true rfl) rfl rfl ?_
      refine J_iload (pc' := 92) ok (dOf dX4_findSwaps 55 rfl) rfl rfl ?_
      refine J_iload_n (pc' := 93) ok (dOf dX4_findSwaps 56 rfl) rfl rfl rfl ?_
      refine J_icmp_eq (tgt := 137) (pc' := 96) ok (dOf dX4_findSwaps 57 rfl) rfl (by decide) ?_ ?_
      · exact Frt_findSwaps_j137_J ok v0 v1 v2 v3 v4 s.1 x11 ((s.1 * 4) + v2) s.2 k1 kx143
      · refine J_iload (pc' := 98) ok (dOf dX4_findSwaps 58 rfl) rfl rfl ?_
        refine J_iconst (v := (-1)) (pc' := 99) ok (dOf dX4_findSwaps 59 rfl) rfl (by decide) ?_
        refine J_icmp_eq (tgt := 137) (pc' := 102) ok (dOf dX4_findSwaps 60 rfl) rfl (by decide) ?_ ?_
        · exact Frt_findSwaps_j137_J ok v0 v1 v2 v3 v4 s.1 x11 ((s.1 * 4) + v2) s.2 k1 kx143
        · refine J_iload (pc' := 104) ok (dOf dX4_findSwaps 61 rfl) rfl rfl ?_
          refine J_iload (pc' := 106) ok (dOf dX4_findSwaps 62 rfl) rfl rfl ?_
          refine J_isub (pc' := 107) ok (dOf dX4_findSwaps 63 rfl) rfl ?_
          refine J_aload_n (pc' := 108) ok (dOf dX4_findSwaps 64 rfl) rfl rfl rfl ?_
          refine J_getR (ci := 4) (kf := 6) (C := RX4) (T := TX4) (N := 12) (pc' := 111) ok (dOf dX4_findSwaps 65 rfl) rfl (by decide) rfl (by decide) win_4 wfl_X4_31 (fun a12 => ?_)
          refine J_iload (pc' := 113) ok (dOf dX4_findSwaps 66 rfl) rfl rfl ?_
          refine J_iald (pc' := 114) ok (dOf dX4_findSwaps 67 rfl) rfl (fun x13 => ?_)
          refine J_icmp_ge (tgt := 137) (pc' := 117) ok (dOf dX4_findSwaps 68 rfl) rfl (by decide) ?_ ?_
          · exact Frt_findSwaps_j137_J ok v0 v1 v2 v3 v4 s.1 x11 ((s.1 * 4) + v2) s.2 k1 kx143
          · refine J_aload_n (pc' := 118) ok (dOf dX4_findSwaps 69 rfl) rfl rfl rfl ?_
            refine J_getR (ci := 4) (kf := 6) (C := RX4) (T := TX4) (N := 12) (pc' := 121) ok (dOf dX4_findSwaps 70 rfl) rfl (by decide) rfl (by decide) win_4 wfl_X4_31 (fun a14 => ?_)
            refine J_iload (pc' := 123) ok (dOf dX4_findSwaps 71 rfl) rfl rfl ?_
            refine J_iload (pc' := 125) ok (dOf dX4_findSwaps 72 rfl) rfl rfl ?_
            refine J_iload (pc' := 127) ok (dOf dX4_findSwaps 73 rfl) rfl rfl ?_
            refine J_isub (pc' := 128) ok (dOf dX4_findSwaps 74 rfl) rfl ?_
            refine J_iast (pc' := 129) ok (dOf dX4_findSwaps 75 rfl) rfl (fun h15 _ => ?_)
            refine J_aload_n (pc' := 130) ok (dOf dX4_findSwaps 76 rfl) rfl rfl rfl ?_
            refine J_getR (ci := 4) (kf := 7) (C := RX4) (T := TX4) (N := 12) (pc' := 133) ok (dOf dX4_findSwaps 77 rfl) rfl (by decide) rfl (by decide) win_4 wfl_X4_34 (fun a16 => ?_)
            refine J_iload (pc' := 135) ok (dOf dX4_findSwaps 78 rfl) rfl rfl ?_
            refine J_iload_n (pc' := 136) ok (dOf dX4_findSwaps 79 rfl) rfl rfl rfl ?_
            refine J_iast (pc' := 137) ok (dOf dX4_findSwaps 80 rfl) rfl (fun h17 _ => ?_)
            exact Frt_findSwaps_j137_J ok v0 v1 v2 v3 v4 s.1 x11 ((s.1 * 4) + v2) h17 k1 kx143
def Frt_findSwaps_j143 (v0 : Nat) (v1 : Nat) (v2 : Int32) (v3 : Int32) (v4 : Int32) (v5 : Int32) (h : AHeap) : Option ((Int32 × AHeap) ⊕ ((Int32 × AHeap))) :=
  some (.inl (v3 + 1, h))
theorem Frt_findSwaps_j143_J {E : JE} {l : Launch} {G : GX} {r : Option Value} {h' : AHeap} (ok : JOK E l G kFrt_findSwaps 0 0 r h') (v0 : Nat) (v1 : Nat) (v2 : Int32) (v3 : Int32) (v4 : Int32) (v5 : Int32) (h : AHeap) {Y : (Int32 × AHeap) ⊕ ((Int32 × AHeap)) → Prop} (k1 : ∀ s' : Int32 × AHeap, Y (.inl s') → JW E kFrt_findSwaps 21 [some (.ref v0), some (.ref v1), some (.int v2), some (.int s'.1), none, none, none, none] [] s'.2 0 0) (kx149 : ∀ q : Int32 × AHeap, Y (.inr q) → JW E kFrt_findSwaps 149 [some (.ref v0), some (.ref v1), some (.int v2), some (.int q.1), none, none, none, none] [] q.2 0 0) : J E kFrt_findSwaps (Frt_findSwaps_j143 v0 v1 v2 v3 v4 v5 h) Y 143 [some (.ref v0), some (.ref v1), some (.int v2), some (.int v3), some (.int v4), some (.int v5), none, none] [] h 0 0 := by
  unfold Frt_findSwaps_j143
  refine J_iinc (v := v3 + 1) (ls' := [some (.ref v0), some (.ref v1), some (.int v2), some (.int (v3 + 1)), some (.int v4), some (.int v5), none, none]) (pc' := 146) ok (dOf dX4_findSwaps 83 rfl) rfl rfl (by rfl) (Nat.le_of_ble_eq_true rfl) rfl rfl ?_
  refine J_goto (tgt := 21) ok (dOf dX4_findSwaps 84 rfl) (by decide) ?_
  refine J_weak (ls' := [some (.ref v0), some (.ref v1), some (.int v2), some (.int (v3 + 1)), none, none, none, none]) ⟨rfl, rfl, rfl, rfl, trivial⟩ ?_
  exact J_fin (k1 (v3 + 1, h))
def Frt_findSwaps_b21 (v0 : Nat) (v1 : Nat) (v2 : Int32) (s : Int32 × AHeap) : Option ((Int32 × AHeap) ⊕ ((Int32 × AHeap))) :=
  (gfI s.2 v1 6 1).bind fun x4 => (if x4 ≤ s.1 then some (.inr (s.1, s.2)) else (gfR s.2 v1 6 6).bind fun a5 => (ald 0 s.2 a5 ((v2 * 6) + s.1)).bind fun x6 => (iter (Frt_findSwaps_b45 v0 v1 v2 s.1 x6) Lmax (0, s.2)).bind (fun q45 => Frt_findSwaps_j143 v0 v1 v2 s.1 x6 q45.1 q45.2))
theorem Frt_findSwaps_b21_J {E : JE} {l : Launch} {G : GX} {r : Option Value} {h' : AHeap} (ok : JOK E l G kFrt_findSwaps 0 0 r h') (v0 : Nat) (v1 : Nat) (v2 : Int32) {Y : (Int32 × AHeap) ⊕ ((Int32 × AHeap)) → Prop} (k1 : ∀ s' : Int32 × AHeap, Y (.inl s') → JW E kFrt_findSwaps 21 [some (.ref v0), some (.ref v1), some (.int v2), some (.int s'.1), none, none, none, none] [] s'.2 0 0) (kx149 : ∀ q : Int32 × AHeap, Y (.inr q) → JW E kFrt_findSwaps 149 [some (.ref v0), some (.ref v1), some (.int v2), some (.int q.1), none, none, none, none] [] q.2 0 0) (s : Int32 × AHeap) : J E kFrt_findSwaps (Frt_findSwaps_b21 v0 v1 v2 s) Y 21 [some (.ref v0), some (.ref v1), some (.int v2), some (.int s.1), none, none, none, none] [] s.2 0 0 := by
  unfold Frt_findSwaps_b21
  refine J_iload_n (pc' := 22) ok (dOf dX4_findSwaps 12 rfl) rfl rfl rfl ?_
  refine J_aload_n (pc' := 23) ok (dOf dX4_findSwaps 13 rfl) rfl rfl rfl ?_
  refine J_getI (ci := 6) (kf := 1) (C := RX6) (T := TX6) (N := 9) (pc' := 26) ok (dOf dX4_findSwaps 14 rfl) rfl (by decide) rfl (by decide) win_6 wfl_X4_49 (fun x4 => ?_)
  refine J_icmp_ge (tgt := 149) (pc' := 29) ok (dOf dX4_findSwaps 15 rfl) rfl (by decide) ?_ ?_
  · exact J_fin (kx149 (s.1, s.2))
  · refine J_aload_n (pc' := 30) ok (dOf dX4_findSwaps 16 rfl) rfl rfl rfl ?_
    refine J_getR (ci := 6) (kf := 6) (C := RX6) (T := TX6) (N := 9) (pc' := 33) ok (dOf dX4_findSwaps 17 rfl) rfl (by decide) rfl (by decide) win_6 wfl_X4_101 (fun a5 => ?_)
    refine J_iload_n (pc' := 34) ok (dOf dX4_findSwaps 18 rfl) rfl rfl rfl ?_
    refine J_bipush (v := 6) (pc' := 36) ok (dOf dX4_findSwaps 19 rfl) rfl (by decide) ?_
    refine J_imul (pc' := 37) ok (dOf dX4_findSwaps 20 rfl) rfl ?_
    refine J_iload_n (pc' := 38) ok (dOf dX4_findSwaps 21 rfl) rfl rfl rfl ?_
    refine J_iadd (pc' := 39) ok (dOf dX4_findSwaps 22 rfl) rfl ?_
    refine J_iald (pc' := 40) ok (dOf dX4_findSwaps 23 rfl) rfl (fun x6 => ?_)
    refine J_istore (ls' := [some (.ref v0), some (.ref v1), some (.int v2), some (.int s.1), some (.int x6), none, none, none]) (pc' := 42) ok (dOf dX4_findSwaps 24 rfl) rfl (Nat.le_of_ble_eq_true rfl) rfl rfl ?_
    refine J_iconst (v := 0) (pc' := 43) ok (dOf dX4_findSwaps 25 rfl) rfl (by decide) ?_
    refine J_istore (ls' := [some (.ref v0), some (.ref v1), some (.int v2), some (.int s.1), some (.int x6), some (.int 0), none, none]) (pc' := 45) ok (dOf dX4_findSwaps 26 rfl) rfl (Nat.le_of_ble_eq_true rfl) rfl rfl ?_
    refine J_iter (lf := fun z45 => [some (.ref v0), some (.ref v1), some (.int v2), some (.int s.1), some (.int x6), some (.int z45.1), none, none]) (sf := fun _ => []) (hf := fun z45 => z45.2) (px := (fun q45 => 143)) (lx := (fun q45 => [some (.ref v0), some (.ref v1), some (.int v2), some (.int s.1), some (.int x6), some (.int q45.1), none, none])) (sx := (fun q45 => [])) (hx := (fun q45 => q45.2)) (fun Y2 z45 m1 m2 => Frt_findSwaps_b45_J ok v0 v1 v2 s.1 x6 m1 m2 z45) (fun q45 => ?_) Lmax _
    exact Frt_findSwaps_j143_J ok v0 v1 v2 s.1 x6 q45.1 q45.2 k1 kx149
def Frt_findSwaps_j149 (v0 : Nat) (v1 : Nat) (v2 : Int32) (v3 : Int32) (h : AHeap) : Option ((Int32 × AHeap) ⊕ ((Int32 × AHeap))) :=
  some (.inl (v2 + 1, h))
theorem Frt_findSwaps_j149_J {E : JE} {l : Launch} {G : GX} {r : Option Value} {h' : AHeap} (ok : JOK E l G kFrt_findSwaps 0 0 r h') (v0 : Nat) (v1 : Nat) (v2 : Int32) (v3 : Int32) (h : AHeap) {Y : (Int32 × AHeap) ⊕ ((Int32 × AHeap)) → Prop} (k1 : ∀ s' : Int32 × AHeap, Y (.inl s') → JW E kFrt_findSwaps 11 [some (.ref v0), some (.ref v1), some (.int s'.1), none, none, none, none, none] [] s'.2 0 0) (kx155 : ∀ q : Int32 × AHeap, Y (.inr q) → JW E kFrt_findSwaps 155 [some (.ref v0), some (.ref v1), some (.int q.1), none, none, none, none, none] [] q.2 0 0) : J E kFrt_findSwaps (Frt_findSwaps_j149 v0 v1 v2 v3 h) Y 149 [some (.ref v0), some (.ref v1), some (.int v2), some (.int v3), none, none, none, none] [] h 0 0 := by
  unfold Frt_findSwaps_j149
  refine J_iinc (v := v2 + 1) (ls' := [some (.ref v0), some (.ref v1), some (.int (v2 + 1)), some (.int v3), none, none, none, none]) (pc' := 152) ok (dOf dX4_findSwaps 85 rfl) rfl rfl (by rfl) (Nat.le_of_ble_eq_true rfl) rfl rfl ?_
  refine J_goto (tgt := 11) ok (dOf dX4_findSwaps 86 rfl) (by decide) ?_
  refine J_weak (ls' := [some (.ref v0), some (.ref v1), some (.int (v2 + 1)), none, none, none, none, none]) ⟨rfl, rfl, rfl, trivial⟩ ?_
  exact J_fin (k1 (v2 + 1, h))
def Frt_findSwaps_b11 (v0 : Nat) (v1 : Nat) (s : Int32 × AHeap) : Option ((Int32 × AHeap) ⊕ ((Int32 × AHeap))) :=
  (gfI s.2 v1 6 0).bind fun x3 => (if x3 ≤ s.1 then some (.inr (s.1, s.2)) else (iter (Frt_findSwaps_b21 v0 v1 s.1) Lmax (0, s.2)).bind (fun q21 => Frt_findSwaps_j149 v0 v1 s.1 q21.1 q21.2))
theorem Frt_findSwaps_b11_J {E : JE} {l : Launch} {G : GX} {r : Option Value} {h' : AHeap} (ok : JOK E l G kFrt_findSwaps 0 0 r h') (v0 : Nat) (v1 : Nat) {Y : (Int32 × AHeap) ⊕ ((Int32 × AHeap)) → Prop} (k1 : ∀ s' : Int32 × AHeap, Y (.inl s') → JW E kFrt_findSwaps 11 [some (.ref v0), some (.ref v1), some (.int s'.1), none, none, none, none, none] [] s'.2 0 0) (kx155 : ∀ q : Int32 × AHeap, Y (.inr q) → JW E kFrt_findSwaps 155 [some (.ref v0), some (.ref v1), some (.int q.1), none, none, none, none, none] [] q.2 0 0) (s : Int32 × AHeap) : J E kFrt_findSwaps (Frt_findSwaps_b11 v0 v1 s) Y 11 [some (.ref v0), some (.ref v1), some (.int s.1), none, none, none, none, none] [] s.2 0 0 := by
  unfold Frt_findSwaps_b11
  refine J_iload_n (pc' := 12) ok (dOf dX4_findSwaps 6 rfl) rfl rfl rfl ?_
  refine J_aload_n (pc' := 13) ok (dOf dX4_findSwaps 7 rfl) rfl rfl rfl ?_
  refine J_getI (ci := 6) (kf := 0) (C := RX6) (T := TX6) (N := 9) (pc' := 16) ok (dOf dX4_findSwaps 8 rfl) rfl (by decide) rfl (by decide) win_6 wfl_X4_115 (fun x3 => ?_)
  refine J_icmp_ge (tgt := 155) (pc' := 19) ok (dOf dX4_findSwaps 9 rfl) rfl (by decide) ?_ ?_
  · exact J_fin (kx155 (s.1, s.2))
  · refine J_iconst (v := 0) (pc' := 20) ok (dOf dX4_findSwaps 10 rfl) rfl (by decide) ?_
    refine J_istore_n (ls' := [some (.ref v0), some (.ref v1), some (.int s.1), some (.int 0), none, none, none, none]) (pc' := 21) ok (dOf dX4_findSwaps 11 rfl) rfl rfl (Nat.le_of_ble_eq_true rfl) rfl rfl ?_
    refine J_iter (lf := fun z21 => [some (.ref v0), some (.ref v1), some (.int s.1), some (.int z21.1), none, none, none, none]) (sf := fun _ => []) (hf := fun z21 => z21.2) (px := (fun q21 => 149)) (lx := (fun q21 => [some (.ref v0), some (.ref v1), some (.int s.1), some (.int q21.1), none, none, none, none])) (sx := (fun q21 => [])) (hx := (fun q21 => q21.2)) (fun Y2 z21 m1 m2 => Frt_findSwaps_b21_J ok v0 v1 s.1 m1 m2 z21) (fun q21 => ?_) Lmax _
    exact Frt_findSwaps_j149_J ok v0 v1 s.1 q21.1 q21.2 k1 kx155
def Frt_findSwaps_j155 (v0 : Nat) (v1 : Nat) (v2 : Int32) (h : AHeap) : Option (Unit × AHeap) :=
  some ((), h)
theorem Frt_findSwaps_j155_J {E : JE} {l : Launch} {G : GX} {h' : AHeap} (ok : JOK E l G kFrt_findSwaps 0 0 none h') (v0 : Nat) (v1 : Nat) (v2 : Int32) (h : AHeap) : J E kFrt_findSwaps (Frt_findSwaps_j155 v0 v1 v2 h) (fun z => z = ((), h')) 155 [some (.ref v0), some (.ref v1), some (.int v2), none, none, none, none, none] [] h 0 0 := by
  unfold Frt_findSwaps_j155
  exact J_vreturn ok (dOf dX4_findSwaps 87 rfl) rfl (Nat.le_refl 0) (Nat.le_refl 0)
def Frt_findSwaps (v0 : Nat) (v1 : Nat) (h : AHeap) : Option (Unit × AHeap) :=
  (gfR h v0 4 6).bind fun a1 => bnd2 (J7_fill a1 1000000 h) fun _ h2 => (iter (Frt_findSwaps_b11 v0 v1) Lmax (0, h2)).bind (fun q11 => Frt_findSwaps_j155 v0 v1 q11.1 q11.2)
theorem t_Frt_findSwaps {l : Launch} {G : GX} {v0 : Nat} {v1 : Nat} {h : AHeap} {h1 : AHeap} (hf : Frt_findSwaps v0 v1 h = some ((), h1)) : CT l G kFrt_findSwaps 0 0 [.ref v0, .ref v1] h none h1 := by
  refine CT_of (ls := [some (.ref v0), some (.ref v1), none, none, none, none, none, none]) (Z := fun z => z = ((), h1)) (by decide +kernel) (Nat.le_of_ble_eq_true rfl) hf rfl ⟨rfl, rfl, trivial⟩ (fun E ok => ?_)
  unfold Frt_findSwaps
  refine J_aload_n (pc' := 1) ok (dOf dX4_findSwaps 0 rfl) rfl rfl rfl ?_
  refine J_getR (ci := 4) (kf := 6) (C := RX4) (T := TX4) (N := 12) (pc' := 4) ok (dOf dX4_findSwaps 1 rfl) rfl (by decide) rfl (by decide) win_4 wfl_X4_31 (fun a1 => ?_)
  refine J_ldc (v := 1000000) (pc' := 6) ok (dOf dX4_findSwaps 2 rfl) rfl wcon_X4_114 ?_
  refine J_callSv (k2 := kJ7_fill) (as := [.ref a1, .int 1000000]) (pc' := 9) ok (dOf dX4_findSwaps 3 rfl) rfl (cw_J7_fill (by decide) (by decide)) wml_X4_87 wstat_J7_fill_53178 ⟨Nat.le_refl 0, Nat.le_refl 0⟩ (Nat.le_of_ble_eq_true rfl) rfl (fun _ _ hf => t_J7_fill hf) (fun _ h2 => ?_)
  refine J_iconst (v := 0) (pc' := 10) ok (dOf dX4_findSwaps 4 rfl) rfl (by decide) ?_
  refine J_istore_n (ls' := [some (.ref v0), some (.ref v1), some (.int 0), none, none, none, none, none]) (pc' := 11) ok (dOf dX4_findSwaps 5 rfl) rfl rfl (Nat.le_of_ble_eq_true rfl) rfl rfl ?_
  refine J_iter (lf := fun z11 => [some (.ref v0), some (.ref v1), some (.int z11.1), none, none, none, none, none]) (sf := fun _ => []) (hf := fun z11 => z11.2) (px := (fun q11 => 155)) (lx := (fun q11 => [some (.ref v0), some (.ref v1), some (.int q11.1), none, none, none, none, none])) (sx := (fun q11 => [])) (hx := (fun q11 => q11.2)) (fun Y2 z11 m1 m2 => Frt_findSwaps_b11_J ok v0 v1 m1 m2 z11) (fun q11 => ?_) Lmax _
  exact Frt_findSwaps_j155_J ok v0 v1 q11.1 q11.2
-- X4_findDear
abbrev kFrt_findDear : Cd := (yX4_findDear, cX4_findDear, 6, none, 0, 0)
theorem dX4_findDear : dcheck cX4_findDear [(0, .iconst 0, 1), (1, .istore_n 1, 1), (2, .iload_n 1, 1), (3, .iconst 4, 1), (4, .if_icmp .ge 30, 3), (7, .aload_n 0, 1), (8, .getfield 37, 3), (11, .iload_n 1, 1), (12, .aload_n 0, 1), (13, .getfield 25, 3), (16, .iload_n 1, 1), (17, .iaload, 1), (18, .ifCond .le 7, 3), (21, .iconst 0, 1), (22, .goto 5, 3), (25, .ldc 114, 2), (27, .iastore, 1), (28, .iinc 1 1, 3), (31, .goto (-29), 3), (34, .iconst 1, 1), (35, .istore_n 1, 1), (36, .iconst 0, 1), (37, .istore_n 2, 1), (38, .iload_n 2, 1), (39, .iconst 4, 1), (40, .if_icmp .ge 119, 3), (43, .iload_n 1, 1), (44, .ifCond .eq 115, 3), (47, .iconst 0, 1), (48, .istore_n 1, 1), (49, .iconst 0, 1), (50, .istore_n 3, 1), (51, .iload_n 3, 1), (52, .iconst 4, 1), (53, .if_icmp .ge 100, 3), (56, .iconst 0, 1), (57, .istore 4, 2), (59, .iload 4, 2), (61, .iconst 4, 1), (62, .if_icmp .ge 85, 3), (65, .aload_n 0, 1), (66, .getfield 31, 3), (69, .iload_n 3, 1), (70, .iconst 4, 1), (71, .imul, 1), (72, .iload 4, 2), (74, .iadd, 1), (75, .iaload, 1), (76, .istore 5, 2), (78, .aload_n 0, 1), (79, .getfield 37, 3), (82, .iload_n 3, 1), (83, .iaload, 1), (84, .ldc 114, 2), (86, .if_icmp .ge 55, 3), (89, .iload 5, 2), (91, .ldc 114, 2), (93, .if_icmp .ge 48, 3), (96, .aload_n 0, 1), (97, .getfield 37, 3), (100, .iload_n 3, 1), (101, .iaload, 1), (102, .iload 5, 2), (104, .iadd, 1), (105, .aload_n 0, 1), (106, .getfield 37, 3), (109, .iload 4, 2), (111, .iaload, 1), (112, .if_icmp .ge 29, 3), (115, .aload_n 0, 1), (116, .getfield 37, 3), (119, .iload 4, 2), (121, .aload_n 0, 1), (122, .getfield 37, 3), (125, .iload_n 3, 1), (126, .iaload, 1), (127, .iload 5, 2), (129, .iadd, 1), (130, .iastore, 1), (131, .aload_n 0, 1), (132, .getfield 40, 3), (135, .iload 4, 2), (137, .iload_n 3, 1), (138, .iastore, 1), (139, .iconst 1, 1), (140, .istore_n 1, 1), (141, .iinc 4 1, 3), (144, .goto (-85), 3), (147, .iinc 3 1, 3), (150, .goto (-99), 3), (153, .iinc 2 1, 3), (156, .goto (-118), 3), (159, .return_, 1)] = true := by decide +kernel
theorem cw_Frt_findDear {k : Cd} (h1 : kFrt_findDear.2.2.2.2.1 + 1 ≤ k.2.2.2.2.1) (h2 : 8 + (kFrt_findDear.2.2.1 + 11) + kFrt_findDear.2.2.2.2.2 ≤ k.2.2.2.2.2) : Cw k kFrt_findDear 0 := ⟨wcode_X4_findDear, wini_SplitProgram_Freight, ⟨by decide, by decide, by decide +kernel⟩, h1, h2⟩
def Frt_findDear_j27 (v0 : Nat) (v1 : Int32) (t0 : Nat) (t1 : Int32) (t2 : Int32) (h : AHeap) : Option ((Int32 × AHeap) ⊕ ((Int32 × AHeap))) :=
  (ast 0 h t0 t1 t2).bind fun h4 => some (.inl (v1 + 1, h4))
theorem Frt_findDear_j27_J {E : JE} {l : Launch} {G : GX} {r : Option Value} {h' : AHeap} (ok : JOK E l G kFrt_findDear 0 0 r h') (v0 : Nat) (v1 : Int32) (t0 : Nat) (t1 : Int32) (t2 : Int32) (h : AHeap) {Y : (Int32 × AHeap) ⊕ ((Int32 × AHeap)) → Prop} (k1 : ∀ s' : Int32 × AHeap, Y (.inl s') → JW E kFrt_findDear 2 [some (.ref v0), some (.int s'.1), none, none, none, none] [] s'.2 0 0) (kx34 : ∀ q : Int32 × AHeap, Y (.inr q) → JW E kFrt_findDear 34 [some (.ref v0), some (.int q.1), none, none, none, none] [] q.2 0 0) : J E kFrt_findDear (Frt_findDear_j27 v0 v1 t0 t1 t2 h) Y 27 [some (.ref v0), some (.int v1), none, none, none, none] [.int t2, .int t1, .ref t0] h 0 0 := by
  unfold Frt_findDear_j27
  refine J_iast (pc' := 28) ok (dOf dX4_findDear 16 rfl) rfl (fun h4 _ => ?_)
  refine J_iinc (v := v1 + 1) (ls' := [some (.ref v0), some (.int (v1 + 1)), none, none, none, none]) (pc' := 31) ok (dOf dX4_findDear 17 rfl) rfl rfl (by rfl) (Nat.le_of_ble_eq_true rfl) rfl rfl ?_
  refine J_goto (tgt := 2) ok (dOf dX4_findDear 18 rfl) (by decide) ?_
  exact J_fin (k1 (v1 + 1, h4))
def Frt_findDear_b2 (v0 : Nat) (s : Int32 × AHeap) : Option ((Int32 × AHeap) ⊕ ((Int32 × AHeap))) :=
  (if 4 ≤ s.1 then some (.inr (s.1, s.2)) else (gfR s.2 v0 4 8).bind fun a1 => (gfR s.2 v0 4 4).bind fun a2 => (ald 0 s.2 a2 s.1).bind fun x3 => (if x3 ≤ 0 then Frt_findDear_j27 v0 s.1 a1 s.1 1000000 s.2 else Frt_findDear_j27 v0 s.1 a1 s.1 0 s.2))
theorem Frt_findDear_b2_J {E : JE} {l : Launch} {G : GX} {r : Option Value} {h' : AHeap} (ok : JOK E l G kFrt_findDear 0 0 r h') (v0 : Nat) {Y : (Int32 × AHeap) ⊕ ((Int32 × AHeap)) → Prop} (k1 : ∀ s' : Int32 × AHeap, Y (.inl s') → JW E kFrt_findDear 2 [some (.ref v0), some (.int s'.1), none, none, none, none] [] s'.2 0 0) (kx34 : ∀ q : Int32 × AHeap, Y (.inr q) → JW E kFrt_findDear 34 [some (.ref v0), some (.int q.1), none, none, none, none] [] q.2 0 0) (s : Int32 × AHeap) : J E kFrt_findDear (Frt_findDear_b2 v0 s) Y 2 [some (.ref v0), some (.int s.1), none, none, none, none] [] s.2 0 0 := by
  unfold Frt_findDear_b2
  refine J_iload_n (pc' := 3) ok (dOf dX4_findDear 2 rfl) rfl rfl rfl ?_
  refine J_iconst (v := 4) (pc' := 4) ok (dOf dX4_findDear 3 rfl) rfl (by decide) ?_
  refine J_icmp_ge (tgt := 34) (pc' := 7) ok (dOf dX4_findDear 4 rfl) rfl (by decide) ?_ ?_
  · exact J_fin (kx34 (s.1, s.2))
  · refine J_aload_n (pc' := 8) ok (dOf dX4_findDear 5 rfl) rfl rfl rfl ?_
    refine J_getR (ci := 4) (kf := 8) (C := RX4) (T := TX4) (N := 12) (pc' := 11) ok (dOf dX4_findDear 6 rfl) rfl (by decide) rfl (by decide) win_4 wfl_X4_37 (fun a1 => ?_)
    refine J_iload_n (pc' := 12) ok (dOf dX4_findDear 7 rfl) rfl rfl rfl ?_
    refine J_aload_n (pc' := 13) ok (dOf dX4_findDear 8 rfl) rfl rfl rfl ?_
    refine J_getR (ci := 4) (kf := 4) (C := RX4) (T := TX4) (N := 12) (pc' := 16) ok (dOf dX4_findDear 9 rfl) rfl (by decide) rfl (by decide) win_4 wfl_X4_25 (fun a2 => ?_)
    refine J_iload_n (pc' := 17) ok (dOf dX4_findDear 10 rfl) rfl rfl rfl ?_
    refine J_iald (pc' := 18) ok (dOf dX4_findDear 11 rfl) rfl (fun x3 => ?_)
    refine J_if_le (tgt := 25) (pc' := 21) ok (dOf dX4_findDear 12 rfl) rfl (by decide) ?_ ?_
    · refine J_ldc (v := 1000000) (pc' := 27) ok (dOf dX4_findDear 15 rfl) rfl wcon_X4_114 ?_
      exact Frt_findDear_j27_J ok v0 s.1 a1 s.1 1000000 s.2 k1 kx34
    · refine J_iconst (v := 0) (pc' := 22) ok (dOf dX4_findDear 13 rfl) rfl (by decide) ?_
      refine J_goto (tgt := 27) ok (dOf dX4_findDear 14 rfl) (by decide) ?_
      exact Frt_findDear_j27_J ok v0 s.1 a1 s.1 0 s.2 k1 kx34
def Frt_findDear_j141 (v0 : Nat) (v1 : Int32) (v2 : Int32) (v3 : Int32) (v4 : Int32) (v5 : Int32) (h : AHeap) : Option ((Int32 × Int32 × AHeap) ⊕ ((Int32 × Int32 × AHeap))) :=
  some (.inl (v1, v4 + 1, h))
theorem Frt_findDear_j141_J {E : JE} {l : Launch} {G : GX} {r : Option Value} {h' : AHeap} (ok : JOK E l G kFrt_findDear 0 0 r h') (v0 : Nat) (v1 : Int32) (v2 : Int32) (v3 : Int32) (v4 : Int32) (v5 : Int32) (h : AHeap) {Y : (Int32 × Int32 × AHeap) ⊕ ((Int32 × Int32 × AHeap)) → Prop} (k1 : ∀ s' : Int32 × Int32 × AHeap, Y (.inl s') → JW E kFrt_findDear 59 [some (.ref v0), some (.int s'.1), some (.int v2), some (.int v3), some (.int s'.2.1), none] [] s'.2.2 0 0) (kx147 : ∀ q : Int32 × Int32 × AHeap, Y (.inr q) → JW E kFrt_findDear 147 [some (.ref v0), some (.int q.1), some (.int v2), some (.int v3), some (.int q.2.1), none] [] q.2.2 0 0) : J E kFrt_findDear (Frt_findDear_j141 v0 v1 v2 v3 v4 v5 h) Y 141 [some (.ref v0), some (.int v1), some (.int v2), some (.int v3), some (.int v4), some (.int v5)] [] h 0 0 := by
  unfold Frt_findDear_j141
  refine J_iinc (v := v4 + 1) (ls' := [some (.ref v0), some (.int v1), some (.int v2), some (.int v3), some (.int (v4 + 1)), some (.int v5)]) (pc' := 144) ok (dOf dX4_findDear 86 rfl) rfl rfl (by rfl) (Nat.le_of_ble_eq_true rfl) rfl rfl ?_
  refine J_goto (tgt := 59) ok (dOf dX4_findDear 87 rfl) (by decide) ?_
  refine J_weak (ls' := [some (.ref v0), some (.int v1), some (.int v2), some (.int v3), some (.int (v4 + 1)), none]) ⟨rfl, rfl, rfl, rfl, rfl, trivial⟩ ?_
  exact J_fin (k1 (v1, v4 + 1, h))
def Frt_findDear_b59 (v0 : Nat) (v2 : Int32) (v3 : Int32) (s : Int32 × Int32 × AHeap) : Option ((Int32 × Int32 × AHeap) ⊕ ((Int32 × Int32 × AHeap))) :=
  (if 4 ≤ s.2.1 then some (.inr (s.1, s.2.1, s.2.2)) else (gfR s.2.2 v0 4 6).bind fun a5 => (ald 0 s.2.2 a5 ((v3 * 4) + s.2.1)).bind fun x6 => (gfR s.2.2 v0 4 8).bind fun a7 => (ald 0 s.2.2 a7 v3).bind fun x8 => (if 1000000 ≤ x8 then Frt_findDear_j141 v0 s.1 v2 v3 s.2.1 x6 s.2.2 else (if 1000000 ≤ x6 then Frt_findDear_j141 v0 s.1 v2 v3 s.2.1 x6 s.2.2 else (gfR s.2.2 v0 4 8).bind fun a9 => (ald 0 s.2.2 a9 v3).bind fun x10 => (gfR s.2.2 v0 4 8).bind fun a11 => (ald 0 s.2.2 a11 s.2.1).bind fun x12 => (if x12 ≤ (x10 + x6) then Frt_findDear_j141 v0 s.1 v2 v3 s.2.1 x6 s.2.2 else (gfR s.2.2 v0 4 8).bind fun a13 => (gfR s.2.2 v0 4 8).bind fun a14 => (ald 0 s.2.2 a14 v3).bind fun x15 => (ast 0 s.2.2 a13 s.2.1 (x15 + x6)).bind fun h16 => (gfR h16 v0 4 9).bind fun a17 => (ast 0 h16 a17 s.2.1 v3).bind fun h18 => Frt_findDear_j141 v0 1 v2 v3 s.2.1 x6 h18))))
theorem Frt_findDear_b59_J {E : JE} {l : Launch} {G : GX} {r : Option Value} {h' : AHeap} (ok : JOK E l G kFrt_findDear 0 0 r h') (v0 : Nat) (v2 : Int32) (v3 : Int32) {Y : (Int32 × Int32 × AHeap) ⊕ ((Int32 × Int32 × AHeap)) → Prop} (k1 : ∀ s' : Int32 × Int32 × AHeap, Y (.inl s') → JW E kFrt_findDear 59 [some (.ref v0), some (.int s'.1), some (.int v2), some (.int v3), some (.int s'.2.1), none] [] s'.2.2 0 0) (kx147 : ∀ q : Int32 × Int32 × AHeap, Y (.inr q) → JW E kFrt_findDear 147 [some (.ref v0), some (.int q.1), some (.int v2), some (.int v3), some (.int q.2.1), none] [] q.2.2 0 0) (s : Int32 × Int32 × AHeap) : J E kFrt_findDear (Frt_findDear_b59 v0 v2 v3 s) Y 59 [some (.ref v0), some (.int s.1), some (.int v2), some (.int v3), some (.int s.2.1), none] [] s.2.2 0 0 := by
  unfold Frt_findDear_b59
  refine J_iload (pc' := 61) ok (dOf dX4_findDear 37 rfl) rfl rfl ?_
  refine J_iconst (v := 4) (pc' := 62) ok (dOf dX4_findDear 38 rfl) rfl (by decide) ?_
  refine J_icmp_ge (tgt := 147) (pc' := 65) ok (dOf dX4_findDear 39 rfl) rfl (by decide) ?_ ?_
  · exact J_fin (kx147 (s.1, s.2.1, s.2.2))
  · refine J_aload_n (pc' := 66) ok (dOf dX4_findDear 40 rfl) rfl rfl rfl ?_
    refine J_getR (ci := 4) (kf := 6) (C := RX4) (T := TX4) (N := 12) (pc' := 69) ok (dOf dX4_findDear 41 rfl) rfl (by decide) rfl (by decide) win_4 wfl_X4_31 (fun a5 => ?_)
    refine J_iload_n (pc' := 70) ok (dOf dX4_findDear 42 rfl) rfl rfl rfl ?_
    refine J_iconst (v := 4) (pc' := 71) ok (dOf dX4_findDear 43 rfl) rfl (by decide) ?_
    refine J_imul (pc' := 72) ok (dOf dX4_findDear 44 rfl) rfl ?_
    refine J_iload (pc' := 74) ok (dOf dX4_findDear 45 rfl) rfl rfl ?_
    refine J_iadd (pc' := 75) ok (dOf dX4_findDear 46 rfl) rfl ?_
    refine J_iald (pc' := 76) ok (dOf dX4_findDear 47 rfl) rfl (fun x6 => ?_)
    refine J_istore (ls' := [some (.ref v0), some (.int s.1), some (.int v2), some (.int v3), some (.int s.2.1), some (.int x6)]) (pc' := 78) ok (dOf dX4_findDear 48 rfl) rfl (Nat.le_of_ble_eq_true rfl) rfl rfl ?_
    refine J_aload_n (pc' := 79) ok (dOf dX4_findDear 49 rfl) rfl rfl rfl ?_
    refine J_getR (ci := 4) (kf := 8) (C := RX4) (T := TX4) (N := 12) (pc' := 82) ok (dOf dX4_findDear 50 rfl) rfl (by decide) rfl (by decide) win_4 wfl_X4_37 (fun a7 => ?_)
    refine J_iload_n (pc' := 83) ok (dOf dX4_findDear 51 rfl) rfl rfl rfl ?_
    refine J_iald (pc' := 84) ok (dOf dX4_findDear 52 rfl) rfl (fun x8 => ?_)
    refine J_ldc (v := 1000000) (pc' := 86) ok (dOf dX4_findDear 53 rfl) rfl wcon_X4_114 ?_
    refine J_icmp_ge (tgt := 141) (pc' := 89) ok (dOf dX4_findDear 54 rfl) rfl (by decide) ?_ ?_
    · exact Frt_findDear_j141_J ok v0 s.1 v2 v3 s.2.1 x6 s.2.2 k1 kx147
    · refine J_iload (pc' := 91) ok (dOf dX4_findDear 55 rfl) rfl rfl ?_
      refine J_ldc (v := 1000000) (pc' := 93) ok (dOf dX4_findDear 56 rfl) rfl wcon_X4_114 ?_
      refine J_icmp_ge (tgt := 141) (pc' := 96) ok (dOf dX4_findDear 57 rfl) rfl (by decide) ?_ ?_
      · exact Frt_findDear_j141_J ok v0 s.1 v2 v3 s.2.1 x6 s.2.2 k1 kx147
      · refine J_aload_n (pc' := 97) ok (dOf dX4_findDear 58 rfl) rfl rfl rfl ?_
        refine J_getR (ci := 4) (kf := 8) (C := RX4) (T := TX4) (N := 12) (pc' := 100) ok (dOf dX4_findDear 59 rfl) rfl (by decide) rfl (by decide) win_4 wfl_X4_37 (fun a9 => ?_)
        refine J_iload_n (pc' := 101) ok (dOf dX4_findDear 60 rfl) rfl rfl rfl ?_
        refine J_iald (pc' := 102) ok (dOf dX4_findDear 61 rfl) rfl (fun x10 => ?_)
        refine J_iload (pc' := 104) ok (dOf dX4_findDear 62 rfl) rfl rfl ?_
        refine J_iadd (pc' := 105) ok (dOf dX4_findDear 63 rfl) rfl ?_
        refine J_aload_n (pc' := 106) ok (dOf dX4_findDear 64 rfl) rfl rfl rfl ?_
        refine J_getR (ci := 4) (kf := 8) (C := RX4) (T := TX4) (N := 12) (pc' := 109) ok (dOf dX4_findDear 65 rfl) rfl (by decide) rfl (by decide) win_4 wfl_X4_37 (fun a11 => ?_)
        refine J_iload (pc' := 111) ok (dOf dX4_findDear 66 rfl) rfl rfl ?_
        refine J_iald (pc' := 112) ok (dOf dX4_findDear 67 rfl) rfl (fun x12 => ?_)
        refine J_icmp_ge (tgt := 141) (pc' := 115) ok (dOf dX4_findDear 68 rfl) rfl (by decide) ?_ ?_
        · exact Frt_findDear_j141_J ok v0 s.1 v2 v3 s.2.1 x6 s.2.2 k1 kx147
        · refine J_aload_n (pc' := 116) ok (dOf dX4_findDear 69 rfl) rfl rfl rfl ?_
          refine J_getR (ci := 4) (kf := 8) (C := RX4) (T := TX4) (N := 12) (pc' := 119) ok (dOf dX4_findDear 70 rfl) rfl (by decide) rfl (by decide) win_4 wfl_X4_37 (fun a13 => ?_)
          refine J_iload (pc' := 121) ok (dOf dX4_findDear 71 rfl) rfl rfl ?_
          refine J_aload_n (pc' := 122) ok (dOf dX4_findDear 72 rfl) rfl rfl rfl ?_
          refine J_getR (ci := 4) (kf := 8) (C := RX4) (T := TX4) (N := 12) (pc' := 125) ok (dOf dX4_findDear 73 rfl) rfl (by decide) rfl (by decide) win_4 wfl_X4_37 (fun a14 => ?_)
          refine J_iload_n (pc' := 126) ok (dOf dX4_findDear 74 rfl) rfl rfl rfl ?_
          refine J_iald (pc' := 127) ok (dOf dX4_findDear 75 rfl) rfl (fun x15 => ?_)
          refine J_iload (pc' := 129) ok (dOf dX4_findDear 76 rfl) rfl rfl ?_
          refine J_iadd (pc' := 130) ok (dOf dX4_findDear 77 rfl) rfl ?_
          refine J_iast (pc' := 131) ok (dOf dX4_findDear 78 rfl) rfl (fun h16 _ => ?_)
          refine J_aload_n (pc' := 132) ok (dOf dX4_findDear 79 rfl) rfl rfl rfl ?_
          refine J_getR (ci := 4) (kf := 9) (C := RX4) (T := TX4) (N := 12) (pc' := 135) ok (dOf dX4_findDear 80 rfl) rfl (by decide) rfl (by decide) win_4 wfl_X4_40 (fun a17 => ?_)
          refine J_iload (pc' := 137) ok (dOf dX4_findDear 81 rfl) rfl rfl ?_
          refine J_iload_n (pc' := 138) ok (dOf dX4_findDear 82 rfl) rfl rfl rfl ?_
          refine J_iast (pc' := 139) ok (dOf dX4_findDear 83 rfl) rfl (fun h18 _ => ?_)
          refine J_iconst (v := 1) (pc' := 140) ok (dOf dX4_findDear 84 rfl) rfl (by decide) ?_
          refine J_istore_n (ls' := [some (.ref v0), some (.int 1), some (.int v2), some (.int v3), some (.int s.2.1), some (.int x6)]) (pc' := 141) ok (dOf dX4_findDear 85 rfl) rfl rfl (Nat.le_of_ble_eq_true rfl) rfl rfl ?_
          exact Frt_findDear_j141_J ok v0 1 v2 v3 s.2.1 x6 h18 k1 kx147
def Frt_findDear_j147 (v0 : Nat) (v1 : Int32) (v2 : Int32) (v3 : Int32) (v4 : Int32) (h : AHeap) : Option ((Int32 × Int32 × AHeap) ⊕ ((Int32 × Int32 × AHeap))) :=
  some (.inl (v1, v3 + 1, h))
theorem Frt_findDear_j147_J {E : JE} {l : Launch} {G : GX} {r : Option Value} {h' : AHeap} (ok : JOK E l G kFrt_findDear 0 0 r h') (v0 : Nat) (v1 : Int32) (v2 : Int32) (v3 : Int32) (v4 : Int32) (h : AHeap) {Y : (Int32 × Int32 × AHeap) ⊕ ((Int32 × Int32 × AHeap)) → Prop} (k1 : ∀ s' : Int32 × Int32 × AHeap, Y (.inl s') → JW E kFrt_findDear 51 [some (.ref v0), some (.int s'.1), some (.int v2), some (.int s'.2.1), none, none] [] s'.2.2 0 0) (kx153 : ∀ q : Int32 × Int32 × AHeap, Y (.inr q) → JW E kFrt_findDear 153 [some (.ref v0), some (.int q.1), some (.int v2), some (.int q.2.1), none, none] [] q.2.2 0 0) : J E kFrt_findDear (Frt_findDear_j147 v0 v1 v2 v3 v4 h) Y 147 [some (.ref v0), some (.int v1), some (.int v2), some (.int v3), some (.int v4), none] [] h 0 0 := by
  unfold Frt_findDear_j147
  refine J_iinc (v := v3 + 1) (ls' := [some (.ref v0), some (.int v1), some (.int v2), some (.int (v3 + 1)), some (.int v4), none]) (pc' := 150) ok (dOf dX4_findDear 88 rfl) rfl rfl (by rfl) (Nat.le_of_ble_eq_true rfl) rfl rfl ?_
  refine J_goto (tgt := 51) ok (dOf dX4_findDear 89 rfl) (by decide) ?_
  refine J_weak (ls' := [some (.ref v0), some (.int v1), some (.int v2), some (.int (v3 + 1)), none, none]) ⟨rfl, rfl, rfl, rfl, trivial⟩ ?_
  exact J_fin (k1 (v1, v3 + 1, h))
def Frt_findDear_b51 (v0 : Nat) (v2 : Int32) (s : Int32 × Int32 × AHeap) : Option ((Int32 × Int32 × AHeap) ⊕ ((Int32 × Int32 × AHeap))) :=
  (if 4 ≤ s.2.1 then some (.inr (s.1, s.2.1, s.2.2)) else (iter (Frt_findDear_b59 v0 v2 s.2.1) Lmax (s.1, 0, s.2.2)).bind (fun q59 => Frt_findDear_j147 v0 q59.1 v2 s.2.1 q59.2.1 q59.2.2))
theorem Frt_findDear_b51_J {E : JE} {l : Launch} {G : GX} {r : Option Value} {h' : AHeap} (ok : JOK E l G kFrt_findDear 0 0 r h') (v0 : Nat) (v2 : Int32) {Y : (Int32 × Int32 × AHeap) ⊕ ((Int32 × Int32 × AHeap)) → Prop} (k1 : ∀ s' : Int32 × Int32 × AHeap, Y (.inl s') → JW E kFrt_findDear 51 [some (.ref v0), some (.int s'.1), some (.int v2), some (.int s'.2.1), none, none] [] s'.2.2 0 0) (kx153 : ∀ q : Int32 × Int32 × AHeap, Y (.inr q) → JW E kFrt_findDear 153 [some (.ref v0), some (.int q.1), some (.int v2), some (.int q.2.1), none, none] [] q.2.2 0 0) (s : Int32 × Int32 × AHeap) : J E kFrt_findDear (Frt_findDear_b51 v0 v2 s) Y 51 [some (.ref v0), some (.int s.1), some (.int v2), some (.int s.2.1), none, none] [] s.2.2 0 0 := by
  unfold Frt_findDear_b51
  refine J_iload_n (pc' := 52) ok (dOf dX4_findDear 32 rfl) rfl rfl rfl ?_
  refine J_iconst (v := 4) (pc' := 53) ok (dOf dX4_findDear 33 rfl) rfl (by decide) ?_
  refine J_icmp_ge (tgt := 153) (pc' := 56) ok (dOf dX4_findDear 34 rfl) rfl (by decide) ?_ ?_
  · exact J_fin (kx153 (s.1, s.2.1, s.2.2))
  · refine J_iconst (v := 0) (pc' := 57) ok (dOf dX4_findDear 35 rfl) rfl (by decide) ?_
    refine J_istore (ls' := [some (.ref v0), some (.int s.1), some (.int v2), some (.int s.2.1), some (.int 0), none]) (pc' := 59) ok (dOf dX4_findDear 36 rfl) rfl (Nat.le_of_ble_eq_true rfl) rfl rfl ?_
    refine J_iter (lf := fun z59 => [some (.ref v0), some (.int z59.1), some (.int v2), some (.int s.2.1), some (.int z59.2.1), none]) (sf := fun _ => []) (hf := fun z59 => z59.2.2) (px := (fun q59 => 147)) (lx := (fun q59 => [some (.ref v0), some (.int q59.1), some (.int v2), some (.int s.2.1), some (.int q59.2.1), none])) (sx := (fun q59 => [])) (hx := (fun q59 => q59.2.2)) (fun Y2 z59 m1 m2 => Frt_findDear_b59_J ok v0 v2 s.2.1 m1 m2 z59) (fun q59 => ?_) Lmax _
    exact Frt_findDear_j147_J ok v0 q59.1 v2 s.2.1 q59.2.1 q59.2.2 k1 kx153
def Frt_findDear_j153 (v0 : Nat) (v1 : Int32) (v2 : Int32) (v3 : Int32) (h : AHeap) : Option ((Int32 × Int32 × AHeap) ⊕ ((Int32 × Int32 × AHeap))) :=
  some (.inl (v1, v2 + 1, h))
theorem Frt_findDear_j153_J {E : JE} {l : Launch} {G : GX} {r : Option Value} {h' : AHeap} (ok : JOK E l G kFrt_findDear 0 0 r h') (v0 : Nat) (v1 : Int32) (v2 : Int32) (v3 : Int32) (h : AHeap) {Y : (Int32 × Int32 × AHeap) ⊕ ((Int32 × Int32 × AHeap)) → Prop} (k1 : ∀ s' : Int32 × Int32 × AHeap, Y (.inl s') → JW E kFrt_findDear 38 [some (.ref v0), some (.int s'.1), some (.int s'.2.1), none, none, none] [] s'.2.2 0 0) (kx159 : ∀ q : Int32 × Int32 × AHeap, Y (.inr q) → JW E kFrt_findDear 159 [some (.ref v0), some (.int q.1), some (.int q.2.1), none, none, none] [] q.2.2 0 0) : J E kFrt_findDear (Frt_findDear_j153 v0 v1 v2 v3 h) Y 153 [some (.ref v0), some (.int v1), some (.int v2), some (.int v3), none, none] [] h 0 0 := by
  unfold Frt_findDear_j153
  refine J_iinc (v := v2 + 1) (ls' := [some (.ref v0), some (.int v1), some (.int (v2 + 1)), some (.int v3), none, none]) (pc' := 156) ok (dOf dX4_findDear 90 rfl) rfl rfl (by rfl) (Nat.le_of_ble_eq_true rfl) rfl rfl ?_
  refine J_goto (tgt := 38) ok (dOf dX4_findDear 91 rfl) (by decide) ?_
  refine J_weak (ls' := [some (.ref v0), some (.int v1), some (.int (v2 + 1)), none, none, none]) ⟨rfl, rfl, rfl, trivial⟩ ?_
  exact J_fin (k1 (v1, v2 + 1, h))
def Frt_findDear_b38 (v0 : Nat) (s : Int32 × Int32 × AHeap) : Option ((Int32 × Int32 × AHeap) ⊕ ((Int32 × Int32 × AHeap))) :=
  (if 4 ≤ s.2.1 then some (.inr (s.1, s.2.1, s.2.2)) else (if s.1 = 0 then some (.inr (s.1, s.2.1, s.2.2)) else (iter (Frt_findDear_b51 v0 s.2.1) Lmax (0, 0, s.2.2)).bind (fun q51 => Frt_findDear_j153 v0 q51.1 s.2.1 q51.2.1 q51.2.2)))
theorem Frt_findDear_b38_J {E : JE} {l : Launch} {G : GX} {r : Option Value} {h' : AHeap} (ok : JOK E l G kFrt_findDear 0 0 r h') (v0 : Nat) {Y : (Int32 × Int32 × AHeap) ⊕ ((Int32 × Int32 × AHeap)) → Prop} (k1 : ∀ s' : Int32 × Int32 × AHeap, Y (.inl s') → JW E kFrt_findDear 38 [some (.ref v0), some (.int s'.1), some (.int s'.2.1), none, none, none] [] s'.2.2 0 0) (kx159 : ∀ q : Int32 × Int32 × AHeap, Y (.inr q) → JW E kFrt_findDear 159 [some (.ref v0), some (.int q.1), some (.int q.2.1), none, none, none] [] q.2.2 0 0) (s : Int32 × Int32 × AHeap) : J E kFrt_findDear (Frt_findDear_b38 v0 s) Y 38 [some (.ref v0), some (.int s.1), some (.int s.2.1), none, none, none] [] s.2.2 0 0 := by
  unfold Frt_findDear_b38
  refine J_iload_n (pc' := 39) ok (dOf dX4_findDear 23 rfl) rfl rfl rfl ?_
  refine J_iconst (v := 4) (pc' := 40) ok (dOf dX4_findDear 24 rfl) rfl (by decide) ?_
  refine J_icmp_ge (tgt := 159) (pc' := 43) ok (dOf dX4_findDear 25 rfl) rfl (by decide) ?_ ?_
  · exact J_fin (kx159 (s.1, s.2.1, s.2.2))
  · refine J_iload_n (pc' := 44) ok (dOf dX4_findDear 26 rfl) rfl rfl rfl ?_
    refine J_if_eq (tgt := 159) (pc' := 47) ok (dOf dX4_findDear 27 rfl) rfl (by decide) ?_ ?_
    · exact J_fin (kx159 (s.1, s.2.1, s.2.2))
    · refine J_iconst (v := 0) (pc' := 48) ok (dOf dX4_findDear 28 rfl) rfl (by decide) ?_
      refine J_istore_n (ls' := [some (.ref v0), some (.int 0), some (.int s.2.1), none, none, none]) (pc' := 49) ok (dOf dX4_findDear 29 rfl) rfl rfl (Nat.le_of_ble_eq_true rfl) rfl rfl ?_
      refine J_iconst (v := 0) (pc' := 50) ok (dOf dX4_findDear 30 rfl) rfl (by decide) ?_
      refine J_istore_n (ls' := [some (.ref v0), some (.int 0), some (.int s.2.1), some (.int 0), none, none]) (pc' := 51) ok (dOf dX4_findDear 31 rfl) rfl rfl (Nat.le_of_ble_eq_true rfl) rfl rfl ?_
      refine J_iter (lf := fun z51 => [some (.ref v0), some (.int z51.1), some (.int s.2.1), some (.int z51.2.1), none, none]) (sf := fun _ => []) (hf := fun z51 => z51.2.2) (px := (fun q51 => 153)) (lx := (fun q51 => [some (.ref v0), some (.int q51.1), some (.int s.2.1), some (.int q51.2.1), none, none])) (sx := (fun q51 => [])) (hx := (fun q51 => q51.2.2)) (fun Y2 z51 m1 m2 => Frt_findDear_b51_J ok v0 s.2.1 m1 m2 z51) (fun q51 => ?_) Lmax _
      exact Frt_findDear_j153_J ok v0 q51.1 s.2.1 q51.2.1 q51.2.2 k1 kx159
def Frt_findDear_j159 (v0 : Nat) (v1 : Int32) (v2 : Int32) (h : AHeap) : Option (Unit × AHeap) :=
  some ((), h)
theorem Frt_findDear_j159_J {E : JE} {l : Launch} {G : GX} {h' : AHeap} (ok : JOK E l G kFrt_findDear 0 0 none h') (v0 : Nat) (v1 : Int32) (v2 : Int32) (h : AHeap) : J E kFrt_findDear (Frt_findDear_j159 v0 v1 v2 h) (fun z => z = ((), h')) 159 [some (.ref v0), some (.int v1), some (.int v2), none, none, none] [] h 0 0 := by
  unfold Frt_findDear_j159
  exact J_vreturn ok (dOf dX4_findDear 92 rfl) rfl (Nat.le_refl 0) (Nat.le_refl 0)
def Frt_findDear_j34 (v0 : Nat) (v1 : Int32) (h : AHeap) : Option (Unit × AHeap) :=
  (iter (Frt_findDear_b38 v0) Lmax (1, 0, h)).bind (fun q38 => Frt_findDear_j159 v0 q38.1 q38.2.1 q38.2.2)
theorem Frt_findDear_j34_J {E : JE} {l : Launch} {G : GX} {h' : AHeap} (ok : JOK E l G kFrt_findDear 0 0 none h') (v0 : Nat) (v1 : Int32) (h : AHeap) : J E kFrt_findDear (Frt_findDear_j34 v0 v1 h) (fun z => z = ((), h')) 34 [some (.ref v0), some (.int v1), none, none, none, none] [] h 0 0 := by
  unfold Frt_findDear_j34
  refine J_iconst (v := 1) (pc' := 35) ok (dOf dX4_findDear 19 rfl) rfl (by decide) ?_
  refine J_istore_n (ls' := [some (.ref v0), some (.int 1), none, none, none, none]) (pc' := 36) ok (dOf dX4_findDear 20 rfl) rfl rfl (Nat.le_of_ble_eq_true rfl) rfl rfl ?_
  refine J_iconst (v := 0) (pc' := 37) ok (dOf dX4_findDear 21 rfl) rfl (by decide) ?_
  refine J_istore_n (ls' := [some (.ref v0), some (.int 1), some (.int 0), none, none, none]) (pc' := 38) ok (dOf dX4_findDear 22 rfl) rfl rfl (Nat.le_of_ble_eq_true rfl) rfl rfl ?_
  refine J_iter (lf := fun z38 => [some (.ref v0), some (.int z38.1), some (.int z38.2.1), none, none, none]) (sf := fun _ => []) (hf := fun z38 => z38.2.2) (px := (fun q38 => 159)) (lx := (fun q38 => [some (.ref v0), some (.int q38.1), some (.int q38.2.1), none, none, none])) (sx := (fun q38 => [])) (hx := (fun q38 => q38.2.2)) (fun Y2 z38 m1 m2 => Frt_findDear_b38_J ok v0 m1 m2 z38) (fun q38 => ?_) Lmax _
  exact Frt_findDear_j159_J ok v0 q38.1 q38.2.1 q38.2.2
def Frt_findDear (v0 : Nat) (h : AHeap) : Option (Unit × AHeap) :=
  (iter (Frt_findDear_b2 v0) Lmax (0, h)).bind (fun q2 => Frt_findDear_j34 v0 q2.1 q2.2)
theorem t_Frt_findDear {l : Launch} {G : GX} {v0 : Nat} {h : AHeap} {h1 : AHeap} (hf : Frt_findDear v0 h = some ((), h1)) : CT l G kFrt_findDear 0 0 [.ref v0] h none h1 := by
  refine CT_of (ls := [some (.ref v0), none, none, none, none, none]) (Z := fun z => z = ((), h1)) (by decide +kernel) (Nat.le_of_ble_eq_true rfl) hf rfl ⟨rfl, trivial⟩ (fun E ok => ?_)
  unfold Frt_findDear
  refine J_iconst (v := 0) (pc' := 1) ok (dOf dX4_findDear 0 rfl) rfl (by decide) ?_
  refine J_istore_n (ls' := [some (.ref v0), some (.int 0), none, none, none, none]) (pc' := 2) ok (dOf dX4_findDear 1 rfl) rfl rfl (Nat.le_of_ble_eq_true rfl) rfl rfl ?_
  refine J_iter (lf := fun z2 => [some (.ref v0), some (.int z2.1), none, none, none, none]) (sf := fun _ => []) (hf := fun z2 => z2.2) (px := (fun q2 => 34)) (lx := (fun q2 => [some (.ref v0), some (.int q2.1), none, none, none, none])) (sx := (fun q2 => [])) (hx := (fun q2 => q2.2)) (fun Y2 z2 m1 m2 => Frt_findDear_b2_J ok v0 m1 m2 z2) (fun q2 => ?_) Lmax _
  exact Frt_findDear_j34_J ok v0 q2.1 q2.2
-- X4_chooseGiver
abbrev kFrt_chooseGiver : Cd := (yX4_chooseGiver, cX4_chooseGiver, 4, (some .int), 2, 50)
theorem dX4_chooseGiver : dcheck cX4_chooseGiver [(0, .aload_n 0, 1), (1, .getfield 40, 3), (4, .iconst (-1), 1), (5, .invokestatic 87, 3), (8, .aload_n 0, 1), (9, .getfield 37, 3), (12, .iconst 0, 1), (13, .invokestatic 87, 3), (16, .aload_n 0, 1), (17, .aload_n 1, 1), (18, .iload_n 2, 1), (19, .invokevirtual 104, 3), (22, .istore_n 3, 1), (23, .iload_n 3, 1), (24, .iconst (-1), 1), (25, .if_icmp .eq 12, 3), (28, .aload_n 0, 1), (29, .getfield 25, 3), (32, .iload_n 3, 1), (33, .iaload, 1), (34, .ifCond .le 5, 3), (37, .iload_n 3, 1), (38, .ireturn, 1), (39, .aload_n 0, 1), (40, .aload_n 1, 1), (41, .invokevirtual 107, 3), (44, .aload_n 0, 1), (45, .invokevirtual 111, 3), (48, .aload_n 0, 1), (49, .aload_n 1, 1), (50, .iload_n 2, 1), (51, .invokevirtual 104, 3), (54, .ireturn, 1)] = true := by decide +kernel
theorem cw_Frt_chooseGiver {k : Cd} (h1 : kFrt_chooseGiver.2.2.2.2.1 + 1 ≤ k.2.2.2.2.1) (h2 : 8 + (kFrt_chooseGiver.2.2.1 + 11) + kFrt_chooseGiver.2.2.2.2.2 ≤ k.2.2.2.2.2) : Cw k kFrt_chooseGiver 2 := ⟨wcode_X4_chooseGiver, wini_SplitProgram_Freight, ⟨by decide, by decide, by decide +kernel⟩, h1, h2⟩
def Frt_chooseGiver_j37 (v0 : Nat) (v1 : Nat) (v2 : Int32) (v3 : Int32) (h : AHeap) : Option (Int32 × AHeap) :=
  some (v3, h)
theorem Frt_chooseGiver_j37_J {E : JE} {l : Launch} {G : GX} {v : Int32} {h' : AHeap} (ok : JOK E l G kFrt_chooseGiver 0 0 (some (.int v)) h') (v0 : Nat) (v1 : Nat) (v2 : Int32) (v3 : Int32) (h : AHeap) : J E kFrt_chooseGiver (Frt_chooseGiver_j37 v0 v1 v2 v3 h) (fun z => z = (v, h')) 37 [some (.ref v0), some (.ref v1), some (.int v2), some (.int v3)] [] h 0 0 := by
  unfold Frt_chooseGiver_j37
  refine J_iload_n (pc' := 38) ok (dOf dX4_chooseGiver 21 rfl) rfl rfl rfl ?_
  exact J_ireturn ok (dOf dX4_chooseGiver 22 rfl) rfl (Nat.le_refl 0) (Nat.le_refl 0)
def Frt_chooseGiver (v0 : Nat) (v1 : Nat) (v2 : Int32) (h : AHeap) : Option (Int32 × AHeap) :=
  (gfR h v0 4 9).bind fun a1 => bnd2 (J7_fill a1 (-1) h) fun _ h2 => (gfR h2 v0 4 8).bind fun a3 => bnd2 (J7_fill a3 0 h2) fun _ h4 => (chk h4 v0 4).bind fun _ => bnd2 (Frt_cheapestFor v0 v1 v2 h4) fun x6 h5 => (if x6 = (-1) then Frt_chooseGiver_j37 v0 v1 v2 x6 h5 else (gfR h5 v0 4 4).bind fun a7 => (ald 0 h5 a7 x6).bind fun x8 => (if x8 ≤ 0 then (chk h5 v0 4).bind fun _ => bnd2 (Frt_findSwaps v0 v1 h5) fun _ h9 => (chk h9 v0 4).bind fun _ => bnd2 (Frt_findDear v0 h9) fun _ h10 => (chk h10 v0 4).bind fun _ => bnd2 (Frt_cheapestFor v0 v1 v2 h10) fun x12 h11 => some (x12, h11) else Frt_chooseGiver_j37 v0 v1 v2 x6 h5))
theorem t_Frt_chooseGiver {l : Launch} {G : GX} {v0 : Nat} {v1 : Nat} {v2 : Int32} {h : AHeap} {v : Int32} {h1 : AHeap} (hf : Frt_chooseGiver v0 v1 v2 h = some (v, h1)) : CT l G kFrt_chooseGiver 0 0 [.ref v0, .ref v1, .int v2] h (some (.int v)) h1 := by
  refine CT_of (ls := [some (.ref v0), some (.ref v1), some (.int v2), none]) (Z := fun z => z = (v, h1)) (by decide +kernel) (Nat.le_of_ble_eq_true rfl) hf rfl ⟨rfl, rfl, rfl, trivial⟩ (fun E ok => ?_)
  unfold Frt_chooseGiver
  refine J_aload_n (pc' := 1) ok (dOf dX4_chooseGiver 0 rfl) rfl rfl rfl ?_
  refine J_getR (ci := 4) (kf := 9) (C := RX4) (T := TX4) (N := 12) (pc' := 4) ok (dOf dX4_chooseGiver 1 rfl) rfl (by decide) rfl (by decide) win_4 wfl_X4_40 (fun a1 => ?_)
  refine J_iconst (v := (-1)) (pc' := 5) ok (dOf dX4_chooseGiver 2 rfl) rfl (by decide) ?_
  refine J_callSv (k2 := kJ7_fill) (as := [.ref a1, .int (-1)]) (pc' := 8) ok (dOf dX4_chooseGiver 3 rfl) rfl (cw_J7_fill (by decide) (by decide)) wml_X4_87 wstat_J7_fill_53178 ⟨Nat.le_refl 0, Nat.le_refl 0⟩ (Nat.le_of_ble_eq_true rfl) rfl (fun _ _ hf => t_J7_fill hf) (fun _ h2 => ?_)
  refine J_aload_n (pc' := 9) ok (dOf dX4_chooseGiver 4 rfl) rfl rfl rfl ?_
  refine J_getR (ci := 4) (kf := 8) (C := RX4) (T := TX4) (N := 12) (pc' := 12) ok (dOf dX4_chooseGiver 5 rfl) rfl (by decide) rfl (by decide) win_4 wfl_X4_37 (fun a3 => ?_)
  refine J_iconst (v := 0) (pc' := 13) ok (dOf dX4_chooseGiver 6 rfl) rfl (by decide) ?_
  refine J_callSv (k2 := kJ7_fill) (as := [.ref a3, .int 0]) (pc' := 16) ok (dOf dX4_chooseGiver 7 rfl) rfl (cw_J7_fill (by decide) (by decide)) wml_X4_87 wstat_J7_fill_53178 ⟨Nat.le_refl 0, Nat.le_refl 0⟩ (Nat.le_of_ble_eq_true rfl) rfl (fun _ _ hf => t_J7_fill hf) (fun _ h4 => ?_)
  refine J_aload_n (pc' := 17) ok (dOf dX4_chooseGiver 8 rfl) rfl rfl rfl ?_
  refine J_aload_n (pc' := 18) ok (dOf dX4_chooseGiver 9 rfl) rfl rfl rfl ?_
  refine J_iload_n (pc' := 19) ok (dOf dX4_chooseGiver 10 rfl) rfl rfl rfl ?_
  refine J_callVi (k2 := kFrt_cheapestFor) (ci := 4) (T := TX4) (N := 12) (as := [.ref v1, .int v2]) (pc' := 22) ok (dOf dX4_chooseGiver 11 rfl) rfl (cw_Frt_cheapestFor (by decide) (by decide)) wml_X4_104 winst_X4_cheapestFor wsel_X4_cheapestFor rfl ⟨Nat.le_refl 0, Nat.le_refl 0⟩ (Nat.le_of_ble_eq_true rfl) rfl (fun _ _ hf => t_Frt_cheapestFor hf) (fun x6 h5 => ?_)
  refine J_istore_n (ls' := [some (.ref v0), some (.ref v1), some (.int v2), some (.int x6)]) (pc' := 23) ok (dOf dX4_chooseGiver 12 rfl) rfl rfl (Nat.le_of_ble_eq_true rfl) rfl rfl ?_
  refine J_iload_n (pc' := 24) ok (dOf dX4_chooseGiver 13 rfl) rfl rfl rfl ?_
  refine J_iconst (v := (-1)) (pc' := 25) ok (dOf dX4_chooseGiver 14 rfl) rfl (by decide) ?_
  refine J_icmp_eq (tgt := 37) (pc' := 28) ok (dOf dX4_chooseGiver 15 rfl) rfl (by decide) ?_ ?_
  · exact Frt_chooseGiver_j37_J ok v0 v1 v2 x6 h5
  · refine J_aload_n (pc' := 29) ok (dOf dX4_chooseGiver 16 rfl) rfl rfl rfl ?_
    refine J_getR (ci := 4) (kf := 4) (C := RX4) (T := TX4) (N := 12) (pc' := 32) ok (dOf dX4_chooseGiver 17 rfl) rfl (by decide) rfl (by decide) win_4 wfl_X4_25 (fun a7 => ?_)
    refine J_iload_n (pc' := 33) ok (dOf dX4_chooseGiver 18 rfl) rfl rfl rfl ?_
    refine J_iald (pc' := 34) ok (dOf dX4_chooseGiver 19 rfl) rfl (fun x8 => ?_)
    refine J_if_le (tgt := 39) (pc' := 37) ok (dOf dX4_chooseGiver 20 rfl) rfl (by decide) ?_ ?_
    · refine J_aload_n (pc' := 40) ok (dOf dX4_chooseGiver 23 rfl) rfl rfl rfl ?_
      refine J_aload_n (pc' := 41) ok (dOf dX4_chooseGiver 24 rfl) rfl rfl rfl ?_
      refine J_callVv (k2 := kFrt_findSwaps) (ci := 4) (T := TX4) (N := 12) (as := [.ref v1]) (pc' := 44) ok (dOf dX4_chooseGiver 25 rfl) rfl (cw_Frt_findSwaps (by decide) (by decide)) wml_X4_107 winst_X4_findSwaps wsel_X4_findSwaps rfl ⟨Nat.le_refl 0, Nat.le_refl 0⟩ (Nat.le_of_ble_eq_true rfl) rfl (fun _ _ hf => t_Frt_findSwaps hf) (fun _ h9 => ?_)
      refine J_aload_n (pc' := 45) ok (dOf dX4_chooseGiver 26 rfl) rfl rfl rfl ?_
      refine J_callVv (k2 := kFrt_findDear) (ci := 4) (T := TX4) (N := 12) (as := []) (pc' := 48) ok (dOf dX4_chooseGiver 27 rfl) rfl (cw_Frt_findDear (by decide) (by decide)) wml_X4_111 winst_X4_findDear wsel_X4_findDear rfl ⟨Nat.le_refl 0, Nat.le_refl 0⟩ (Nat.le_of_ble_eq_true rfl) rfl (fun _ _ hf => t_Frt_findDear hf) (fun _ h10 => ?_)
      refine J_aload_n (pc' := 49) ok (dOf dX4_chooseGiver 28 rfl) rfl rfl rfl ?_
      refine J_aload_n (pc' := 50) ok (dOf dX4_chooseGiver 29 rfl) rfl rfl rfl ?_
      refine J_iload_n (pc' := 51) ok (dOf dX4_chooseGiver 30 rfl) rfl rfl rfl ?_
      refine J_callVi (k2 := kFrt_cheapestFor) (ci := 4) (T := TX4) (N := 12) (as := [.ref v1, .int v2]) (pc' := 54) ok (dOf dX4_chooseGiver 31 rfl) rfl (cw_Frt_cheapestFor (by decide) (by decide)) wml_X4_104 winst_X4_cheapestFor wsel_X4_cheapestFor rfl ⟨Nat.le_refl 0, Nat.le_refl 0⟩ (Nat.le_of_ble_eq_true rfl) rfl (fun _ _ hf => t_Frt_cheapestFor hf) (fun x12 h11 => ?_)
      exact J_ireturn ok (dOf dX4_chooseGiver 32 rfl) rfl (Nat.le_refl 0) (Nat.le_refl 0)
    · exact Frt_chooseGiver_j37_J ok v0 v1 v2 x6 h5
-- X4_bring
abbrev kFrt_bring : Cd := (yX4_bring, cX4_bring, 9, (some .int), 1, 21)
theorem dX4_bring : dcheck cX4_bring [(0, .iload_n 3, 1), (1, .istore 4, 2), (3, .iload_n 1, 1), (4, .istore 5, 2), (6, .iconst 0, 1), (7, .istore 6, 2), (9, .iload 6, 2), (11, .iconst 4, 1), (12, .if_icmp .ge 63, 3), (15, .aload_n 0, 1), (16, .getfield 40, 3), (19, .iload 5, 2), (21, .iaload, 1), (22, .iconst (-1), 1), (23, .if_icmp .eq 52, 3), (26, .aload_n 0, 1), (27, .getfield 40, 3), (30, .iload 5, 2), (32, .iaload, 1), (33, .istore 7, 2), (35, .iload 4, 2), (37, .aload_n 0, 1), (38, .getfield 28, 3), (41, .iload 5, 2), (43, .bipush 6, 2), (45, .imul, 1), (46, .aload_n 0, 1), (47, .getfield 34, 3), (50, .iload 7, 2), (52, .iconst 4, 1), (53, .imul, 1), (54, .iload 5, 2), (56, .iadd, 1), (57, .iaload, 1), (58, .iadd, 1), (59, .iaload, 1), (60, .invokestatic 118, 3), (63, .istore 4, 2), (65, .iload 7, 2), (67, .istore 5, 2), (69, .iinc 6 1, 3), (72, .goto (-63), 3), (75, .iload 4, 2), (77, .aload_n 0, 1), (78, .getfield 25, 3), (81, .iload 5, 2), (83, .iaload, 1), (84, .invokestatic 118, 3), (87, .istore 4, 2), (89, .aload_n 0, 1), (90, .getfield 25, 3), (93, .iload 5, 2), (95, .dup2, 1), (96, .iaload, 1), (97, .iload 4, 2), (99, .isub, 1), (100, .iastore, 1), (101, .iload_n 1, 1), (102, .istore 5, 2), (104, .iconst 0, 1), (105, .istore 6, 2), (107, .iload 6, 2), (109, .iconst 4, 1), (110, .if_icmp .ge 83, 3), (113, .aload_n 0, 1), (114, .getfield 40, 3), (117, .iload 5, 2), (119, .iaload, 1), (120, .iconst (-1), 1), (121, .if_icmp .eq 72, 3), (124, .aload_n 0, 1), (125, .getfield 40, 3), (128, .iload 5, 2), (130, .iaload, 1), (131, .istore 7, 2), (133, .aload_n 0, 1), (134, .getfield 34, 3), (137, .iload 7, 2), (139, .iconst 4, 1), (140, .imul, 1), (141, .iload 5, 2), (143, .iadd, 1), (144, .iaload, 1), (145, .istore 8, 2), (147, .aload_n 0, 1), (148, .getfield 28, 3), (151, .iload 5, 2), (153, .bipush 6, 2), (155, .imul, 1), (156, .iload 8, 2), (158, .iadd, 1), (159, .dup2, 1), (160, .iaload, 1), (161, .iload 4, 2), (163, .isub, 1), (164, .iastore, 1), (165, .aload_n 0, 1), (166, .getfield 28, 3), (169, .iload 7, 2), (171, .bipush 6, 2), (173, .imul, 1), (174, .iload 8, 2), (176, .iadd, 1), (177, .dup2, 1), (178, .iaload, 1), (179, .iload 4, 2), (181, .iadd, 1), (182, .iastore, 1), (183, .iload 7, 2), (185, .istore 5, 2), (187, .iinc 6 1, 3), (190, .goto (-83), 3), (193, .aload_n 0, 1), (194, .getfield 28, 3), (197, .iload_n 1, 1), (198, .bipush 6, 2), (200, .imul, 1), (201, .iload_n 2, 1), (202, .iadd, 1), (203, .dup2, 1), (204, .iaload, 1), (205, .iload 4, 2), (207, .iadd, 1), (208, .iastore, 1), (209, .iload 4, 2), (211, .ireturn, 1)] = true := by decide +kernel
theorem cw_Frt_bring {k : Cd} (h1 : kFrt_bring.2.2.2.2.1 + 1 ≤ k.2.2.2.2.1) (h2 : 8 + (kFrt_bring.2.2.1 + 11) + kFrt_bring.2.2.2.2.2 ≤ k.2.2.2.2.2) : Cw k kFrt_bring 3 := ⟨wcode_X4_bring, wini_SplitProgram_Freight, ⟨by decide, by decide, by decide +kernel⟩, h1, h2⟩
def Frt_bring_b9 (v0 : Nat) (v1 : Int32) (v2 : Int32) (v3 : Int32) (h : AHeap) (s : Int32 × Int32 × Int32) : Option ((Int32 × Int32 × Int32) ⊕ ((Int32 × Int32 × Int32))) :=
  (if 4 ≤ s.2.2 then some (.inr (s.1, s.2.1, s.2.2)) else (gfR h v0 4 9).bind fun a1 => (ald 0 h a1 s.2.1).bind fun x2 => (if x2 = (-1) then some (.inr (s.1, s.2.1, s.2.2)) else (gfR h v0 4 9).bind fun a3 => (ald 0 h a3 s.2.1).bind fun x4 => (gfR h v0 4 5).bind fun a5 => (gfR h v0 4 7).bind fun a6 => (ald 0 h a6 ((x4 * 4) + s.2.1)).bind fun x7 => (ald 0 h a5 ((s.2.1 * 6) + x7)).bind fun x8 => some (.inl ((if x8 < s.1 then x8 else s.1), x4, s.2.2 + 1))))
theorem Frt_bring_b9_J {E : JE} {l : Launch} {G : GX} {r : Option Value} {h' : AHeap} (ok : JOK E l G kFrt_bring 0 0 r h') (v0 : Nat) (v1 : Int32) (v2 : Int32) (v3 : Int32) (h : AHeap) {Y : (Int32 × Int32 × Int32) ⊕ ((Int32 × Int32 × Int32)) → Prop} (k1 : ∀ s' : Int32 × Int32 × Int32, Y (.inl s') → JW E kFrt_bring 9 [some (.ref v0), some (.int v1), some (.int v2), some (.int v3), some (.int s'.1), some (.int s'.2.1), some (.int s'.2.2), none, none] [] h 0 0) (kx75 : ∀ q : Int32 × Int32 × Int32, Y (.inr q) → JW E kFrt_bring 75 [some (.ref v0), some (.int v1), some (.int v2), some (.int v3), some (.int q.1), some (.int q.2.1), some (.int q.2.2), none, none] [] h 0 0) (s : Int32 × Int32 × Int32) : J E kFrt_bring (Frt_bring_b9 v0 v1 v2 v3 h s) Y 9 [some (.ref v0), some (.int v1), some (.int v2), some (.int v3), some (.int s.1), some (.int s.2.1), some (.int s.2.2), none, none] [] h 0 0 := by
  unfold Frt_bring_b9
  refine J_iload (pc' := 11) ok (dOf dX4_bring 6 rfl) rfl rfl ?_
  refine J_iconst (v := 4) (pc' := 12) ok (dOf dX4_bring 7 rfl) rfl (by decide) ?_
  refine J_icmp_ge (tgt := 75) (pc' := 15) ok (dOf dX4_bring 8 rfl) rfl (by decide) ?_ ?_
  · exact J_fin (kx75 (s.1, s.2.1, s.2.2))
  · refine J_aload_n (pc' := 16) ok (dOf dX4_bring 9 rfl) rfl rfl rfl ?_
    refine J_getR (ci := 4) (kf := 9) (C := RX4) (T := TX4) (N := 12) (pc' := 19) ok (dOf dX4_bring 10 rfl) rfl (by decide) rfl (by decide) win_4 wfl_X4_40 (fun a1 => ?_)
    refine J_iload (pc' := 21) ok (dOf dX4_bring 11 rfl) rfl rfl ?_
    refine J_iald (pc' := 22) ok (dOf dX4_bring 12 rfl) rfl (fun x2 => ?_)
    refine J_iconst (v := (-1)) (pc' := 23) ok (dOf dX4_bring 13 rfl) rfl (by decide) ?_
    refine J_icmp_eq (tgt := 75) (pc' := 26) ok (dOf dX4_bring 14 rfl) rfl (by decide) ?_ ?_
    · exact J_fin (kx75 (s.1, s.2.1, s.2.2))
    · refine J_aload_n (pc' := 27) ok (dOf dX4_bring 15 rfl) rfl rfl rfl ?_
      refine J_getR (ci := 4) (kf := 9) (C := RX4) (T := TX4) (N := 12) (pc' := 30) ok (dOf dX4_bring 16 rfl) rfl (by decide) rfl (by decide) win_4 wfl_X4_40 (fun a3 => ?_)
      refine J_iload (pc' := 32) ok (dOf dX4_bring 17 rfl) rfl rfl ?_
      refine J_iald (pc' := 33) ok (dOf dX4_bring 18 rfl) rfl (fun x4 => ?_)
      refine J_istore (ls' := [some (.ref v0), some (.int v1), some (.int v2), some (.int v3), some (.int s.1), some (.int s.2.1), some (.int s.2.2), some (.int x4), none]) (pc' := 35) ok (dOf dX4_bring 19 rfl) rfl (Nat.le_of_ble_eq_true rfl) rfl rfl ?_
      refine J_iload (pc' := 37) ok (dOf dX4_bring 20 rfl) rfl rfl ?_
      refine J_aload_n (pc' := 38) ok (dOf dX4_bring 21 rfl) rfl rfl rfl ?_
      refine J_getR (ci := 4) (kf := 5) (C := RX4) (T := TX4) (N := 12) (pc' := 41) ok (dOf dX4_bring 22 rfl) rfl (by decide) rfl (by decide) win_4 wfl_X4_28 (fun a5 => ?_)
      refine J_iload (pc' := 43) ok (dOf dX4_bring 23 rfl) rfl rfl ?_
      refine J_bipush (v := 6) (pc' := 45) ok (dOf dX4_bring 24 rfl) rfl (by decide) ?_
      refine J_imul (pc' := 46) ok (dOf dX4_bring 25 rfl) rfl ?_
      refine J_aload_n (pc' := 47) ok (dOf dX4_bring 26 rfl) rfl rfl rfl ?_
      refine J_getR (ci := 4) (kf := 7) (C := RX4) (T := TX4) (N := 12) (pc' := 50) ok (dOf dX4_bring 27 rfl) rfl (by decide) rfl (by decide) win_4 wfl_X4_34 (fun a6 => ?_)
      refine J_iload (pc' := 52) ok (dOf dX4_bring 28 rfl) rfl rfl ?_
      refine J_iconst (v := 4) (pc' := 53) ok (dOf dX4_bring 29 rfl) rfl (by decide) ?_
      refine J_imul (pc' := 54) ok (dOf dX4_bring 30 rfl) rfl ?_
      refine J_iload (pc' := 56) ok (dOf dX4_bring 31 rfl) rfl rfl ?_
      refine J_iadd (pc' := 57) ok (dOf dX4_bring 32 rfl) rfl ?_
      refine J_iald (pc' := 58) ok (dOf dX4_bring 33 rfl) rfl (fun x7 => ?_)
      refine J_iadd (pc' := 59) ok (dOf dX4_bring 34 rfl) rfl ?_
      refine J_iald (pc' := 60) ok (dOf dX4_bring 35 rfl) rfl (fun x8 => ?_)
      refine J_mmin (pc' := 63) ok (dOf dX4_bring 36 rfl) rfl wml_X4_118 wstat_J9_min_7cf53 wini_java_lang_Math wcode_J9_min_7cf53 (Nat.le_of_ble_eq_true rfl) (Nat.le_of_ble_eq_true rfl) (Nat.le_refl 0) (Nat.le_refl 0) ?_
      refine J_istore (ls' := [some (.ref v0), some (.int v1), some (.int v2), some (.int v3), some (.int (if x8 < s.1 then x8 else s.1)), some (.int s.2.1), some (.int s.2.2), some (.int x4), none]) (pc' := 65) ok (dOf dX4_bring 37 rfl) rfl (Nat.le_of_ble_eq_true rfl) rfl rfl ?_
      refine J_iload (pc' := 67) ok (dOf dX4_bring 38 rfl) rfl rfl ?_
      refine J_istore (ls' := [some (.ref v0), some (.int v1), some (.int v2), some (.int v3), some (.int (if x8 < s.1 then x8 else s.1)), some (.int x4), some (.int s.2.2), some (.int x4), none]) (pc' := 69) ok (dOf dX4_bring 39 rfl) rfl (Nat.le_of_ble_eq_true rfl) rfl rfl ?_
      refine J_iinc (v := s.2.2 + 1) (ls' := [some (.ref v0), some (.int v1), some (.int v2), some (.int v3), some (.int (if x8 < s.1 then x8 else s.1)), some (.int x4), some (.int (s.2.2 + 1)), some (.int x4), none]) (pc' := 72) ok (dOf dX4_bring 40 rfl) rfl rfl (by rfl) (Nat.le_of_ble_eq_true rfl) rfl rfl ?_
      refine J_goto (tgt := 9) ok (dOf dX4_bring 41 rfl) (by decide) ?_
      refine J_weak (ls' := [some (.ref v0), some (.int v1), some (.int v2), some (.int v3), some (.int (if x8 < s.1 then x8 else s.1)), some (.int x4), some (.int (s.2.2 + 1)), none, none]) ⟨rfl, rfl, rfl, rfl, rfl, rfl, rfl, trivial⟩ ?_
      exact J_fin (k1 ((if x8 < s.1 then x8 else s.1), x4, s.2.2 + 1))
def Frt_bring_b107 (v0 : Nat) (v1 : Int32) (v2 : Int32) (v3 : Int32) (v4 : Int32) (s : Int32 × Int32 × AHeap) : Option ((Int32 × Int32 × AHeap) ⊕ ((Int32 × Int32 × AHeap))) :=
  (if 4 ≤ s.2.1 then some (.inr (s.1, s.2.1, s.2.2)) else (gfR s.2.2 v0 4 9).bind fun a14 => (ald 0 s.2.2 a14 s.1).bind fun x15 => (if x15 = (-1) then some (.inr (s.1, s.2.1, s.2.2)) else (gfR s.2.2 v0 4 9).bind fun a16 => (ald 0 s.2.2 a16 s.1).bind fun x17 => (gfR s.2.2 v0 4 7).bind fun a18 => (ald 0 s.2.2 a18 ((x17 * 4) + s.1)).bind fun x19 => (gfR s.2.2 v0 4 5).bind fun a20 => (ald 0 s.2.2 a20 ((s.1 * 6) + x19)).bind fun x21 => (ast 0 s.2.2 a20 ((s.1 * 6) + x19) (x21 - v4)).bind fun h22 => (gfR h22 v0 4 5).bind fun a23 => (ald 0 h22 a23 ((x17 * 6) + x19)).bind fun x24 => (ast 0 h22 a23 ((x17 * 6) + x19) (x24 + v4)).bind fun h25 => some (.inl (x17, s.2.1 + 1, h25))))
theorem Frt_bring_b107_J {E : JE} {l : Launch} {G : GX} {r : Option Value} {h' : AHeap} (ok : JOK E l G kFrt_bring 0 0 r h') (v0 : Nat) (v1 : Int32) (v2 : Int32) (v3 : Int32) (v4 : Int32) {Y : (Int32 × Int32 × AHeap) ⊕ ((Int32 × Int32 × AHeap)) → Prop} (k1 : ∀ s' : Int32 × Int32 × AHeap, Y (.inl s') → JW E kFrt_bring 107 [some (.ref v0), some (.int v1), some (.int v2), some (.int v3), some (.int v4), some (.int s'.1), some (.int s'.2.1), none, none] [] s'.2.2 0 0) (kx193 : ∀ q : Int32 × Int32 × AHeap, Y (.inr q) → JW E kFrt_bring 193 [some (.ref v0), some (.int v1), some (.int v2), some (.int v3), some (.int v4), some (.int q.1), some (.int q.2.1), none, none] [] q.2.2 0 0) (s : Int32 × Int32 × AHeap) : J E kFrt_bring (Frt_bring_b107 v0 v1 v2 v3 v4 s) Y 107 [some (.ref v0), some (.int v1), some (.int v2), some (.int v3), some (.int v4), some (.int s.1), some (.int s.2.1), none, none] [] s.2.2 0 0 := by
  unfold Frt_bring_b107
  refine J_iload (pc' := 109) ok (dOf dX4_bring 61 rfl) rfl rfl ?_
  refine J_iconst (v := 4) (pc' := 110) ok (dOf dX4_bring 62 rfl) rfl (by decide) ?_
  refine J_icmp_ge (tgt := 193) (pc' := 113) ok (dOf dX4_bring 63 rfl) rfl (by decide) ?_ ?_
  · exact J_fin (kx193 (s.1, s.2.1, s.2.2))
  · refine J_aload_n (pc' := 114) ok (dOf dX4_bring 64 rfl) rfl rfl rfl ?_
    refine J_getR (ci := 4) (kf := 9) (C := RX4) (T := TX4) (N := 12) (pc' := 117) ok (dOf dX4_bring 65 rfl) rfl (by decide) rfl (by decide) win_4 wfl_X4_40 (fun a14 => ?_)
    refine J_iload (pc' := 119) ok (dOf dX4_bring 66 rfl) rfl rfl ?_
    refine J_iald (pc' := 120) ok (dOf dX4_bring 67 rfl) rfl (fun x15 => ?_)
    refine J_iconst (v := (-1)) (pc' := 121) ok (dOf dX4_bring 68 rfl) rfl (by decide) ?_
    refine J_icmp_eq (tgt := 193) (pc' := 124) ok (dOf dX4_bring 69 rfl) rfl (by decide) ?_ ?_
    · exact J_fin (kx193 (s.1, s.2.1, s.2.2))
    · refine J_aload_n (pc' := 125) ok (dOf dX4_bring 70 rfl) rfl rfl rfl ?_
      refine J_getR (ci := 4) (kf := 9) (C := RX4) (T := TX4) (N := 12) (pc' := 128) ok (dOf dX4_bring 71 rfl) rfl (by decide) rfl (by decide) win_4 wfl_X4_40 (fun a16 => ?_)
      refine J_iload (pc' := 130) ok (dOf dX4_bring 72 rfl) rfl rfl ?_
      refine J_iald (pc' := 131) ok (dOf dX4_bring 73 rfl) rfl (fun x17 => ?_)
      refine J_istore (ls' := [some (.ref v0), some (.int v1), some (.int v2), some (.int v3), some (.int v4), some (.int s.1), some (.int s.2.1), some (.int x17), none]) (pc' := 133) ok (dOf dX4_bring 74 rfl) rfl (Nat.le_of_ble_eq_true rfl) rfl rfl ?_
      refine J_aload_n (pc' := 134) ok (dOf dX4_bring 75 rfl) rfl rfl rfl ?_
      refine J_getR (ci := 4) (kf := 7) (C := RX4) (T := TX4) (N := 12) (pc' := 137) ok (dOf dX4_bring 76 rfl) rfl (by decide) rfl (by decide) win_4 wfl_X4_34 (fun a18 => ?_)
      refine J_iload (pc' := 139) ok (dOf dX4_bring 77 rfl) rfl rfl ?_
      refine J_iconst (v := 4) (pc' := 140) ok (dOf dX4_bring 78 rfl) rfl (by decide) ?_
      refine J_imul (pc' := 141) ok (dOf dX4_bring 79 rfl) rfl ?_
      refine J_iload (pc' := 143) ok (dOf dX4_bring 80 rfl) rfl rfl ?_
      refine J_iadd (pc' := 144) ok (dOf dX4_bring 81 rfl) rfl ?_
      refine J_iald (pc' := 145) ok (dOf dX4_bring 82 rfl) rfl (fun x19 => ?_)
      refine J_istore (ls' := [some (.ref v0), some (.int v1), some (.int v2), some (.int v3), some (.int v4), some (.int s.1), some (.int s.2.1), some (.int x17), some (.int x19)]) (pc' := 147) ok (dOf dX4_bring 83 rfl) rfl (Nat.le_of_ble_eq_true rfl) rfl rfl ?_
      refine J_aload_n (pc' := 148) ok (dOf dX4_bring 84 rfl) rfl rfl rfl ?_
      refine J_getR (ci := 4) (kf := 5) (C := RX4) (T := TX4) (N := 12) (pc' := 151) ok (dOf dX4_bring 85 rfl) rfl (by decide) rfl (by decide) win_4 wfl_X4_28 (fun a20 => ?_)
      refine J_iload (pc' := 153) ok (dOf dX4_bring 86 rfl) rfl rfl ?_
      refine J_bipush (v := 6) (pc' := 155) ok (dOf dX4_bring 87 rfl) rfl (by decide) ?_
      refine J_imul (pc' := 156) ok (dOf dX4_bring 88 rfl) rfl ?_
      refine J_iload (pc' := 158) ok (dOf dX4_bring 89 rfl) rfl rfl ?_
      refine J_iadd (pc' := 159) ok (dOf dX4_bring 90 rfl) rfl ?_
      refine J_dup2 (pc' := 160) ok (dOf dX4_bring 91 rfl) rfl rfl rfl ?_
      refine J_iald (pc' := 161) ok (dOf dX4_bring 92 rfl) rfl (fun x21 => ?_)
      refine J_iload (pc' := 163) ok (dOf dX4_bring 93 rfl) rfl rfl ?_
      refine J_isub (pc' := 164) ok (dOf dX4_bring 94 rfl) rfl ?_
      refine J_iast (pc' := 165) ok (dOf dX4_bring 95 rfl) rfl (fun h22 _ => ?_)
      refine J_aload_n (pc' := 166) ok (dOf dX4_bring 96 rfl) rfl rfl rfl ?_
      refine J_getR (ci := 4) (kf := 5) (C := RX4) (T := TX4) (N := 12) (pc' := 169) ok (dOf dX4_bring 97 rfl) rfl (by decide) rfl (by decide) win_4 wfl_X4_28 (fun a23 => ?_)
      refine J_iload (pc' := 171) ok (dOf dX4_bring 98 rfl) rfl rfl ?_
      refine J_bipush (v := 6) (pc' := 173) ok (dOf dX4_bring 99 rfl) rfl (by decide) ?_
      refine J_imul (pc' := 174) ok (dOf dX4_bring 100 rfl) rfl ?_
      refine J_iload (pc' := 176) ok (dOf dX4_bring 101 rfl) rfl rfl ?_
      refine J_iadd (pc' := 177) ok (dOf dX4_bring 102 rfl) rfl ?_
      refine J_dup2 (pc' := 178) ok (dOf dX4_bring 103 rfl) rfl rfl rfl ?_
      refine J_iald (pc' := 179) ok (dOf dX4_bring 104 rfl) rfl (fun x24 => ?_)
      refine J_iload (pc' := 181) ok (dOf dX4_bring 105 rfl) rfl rfl ?_
      refine J_iadd (pc' := 182) ok (dOf dX4_bring 106 rfl) rfl ?_
      refine J_iast (pc' := 183) ok (dOf dX4_bring 107 rfl) rfl (fun h25 _ => ?_)
      refine J_iload (pc' := 185) ok (dOf dX4_bring 108 rfl) rfl rfl ?_
      refine J_istore (ls' := [some (.ref v0), some (.int v1), some (.int v2), some (.int v3), some (.int v4), some (.int x17), some (.int s.2.1), some (.int x17), some (.int x19)]) (pc' := 187) ok (dOf dX4_bring 109 rfl) rfl (Nat.le_of_ble_eq_true rfl) rfl rfl ?_
      refine J_iinc (v := s.2.1 + 1) (ls' := [some (.ref v0), some (.int v1), some (.int v2), some (.int v3), some (.int v4), some (.int x17), some (.int (s.2.1 + 1)), some (.int x17), some (.int x19)]) (pc' := 190) ok (dOf dX4_bring 110 rfl) rfl rfl (by rfl) (Nat.le_of_ble_eq_true rfl) rfl rfl ?_
      refine J_goto (tgt := 107) ok (dOf dX4_bring 111 rfl) (by decide) ?_
      refine J_weak (ls' := [some (.ref v0), some (.int v1), some (.int v2), some (.int v3), some (.int v4), some (.int x17), some (.int (s.2.1 + 1)), none, none]) ⟨rfl, rfl, rfl, rfl, rfl, rfl, rfl, trivial⟩ ?_
      exact J_fin (k1 (x17, s.2.1 + 1, h25))
def Frt_bring_j193 (v0 : Nat) (v1 : Int32) (v2 : Int32) (v3 : Int32) (v4 : Int32) (v5 : Int32) (v6 : Int32) (h : AHeap) : Option (Int32 × AHeap) :=
  (gfR h v0 4 5).bind fun a26 => (ald 0 h a26 ((v1 * 6) + v2)).bind fun x27 => (ast 0 h a26 ((v1 * 6) + v2) (x27 + v4)).bind fun h28 => some (v4, h28)
theorem Frt_bring_j193_J {E : JE} {l : Launch} {G : GX} {v : Int32} {h' : AHeap} (ok : JOK E l G kFrt_bring 0 0 (some (.int v)) h') (v0 : Nat) (v1 : Int32) (v2 : Int32) (v3 : Int32) (v4 : Int32) (v5 : Int32) (v6 : Int32) (h : AHeap) : J E kFrt_bring (Frt_bring_j193 v0 v1 v2 v3 v4 v5 v6 h) (fun z => z = (v, h')) 193 [some (.ref v0), some (.int v1), some (.int v2), some (.int v3), some (.int v4), some (.int v5), some (.int v6), none, none] [] h 0 0 := by
  unfold Frt_bring_j193
  refine J_aload_n (pc' := 194) ok (dOf dX4_bring 112 rfl) rfl rfl rfl ?_
  refine J_getR (ci := 4) (kf := 5) (C := RX4) (T := TX4) (N := 12) (pc' := 197) ok (dOf dX4_bring 113 rfl) rfl (by decide) rfl (by decide) win_4 wfl_X4_28 (fun a26 => ?_)
  refine J_iload_n (pc' := 198) ok (dOf dX4_bring 114 rfl) rfl rfl rfl ?_
  refine J_bipush (v := 6) (pc' := 200) ok (dOf dX4_bring 115 rfl) rfl (by decide) ?_
  refine J_imul (pc' := 201) ok (dOf dX4_bring 116 rfl) rfl ?_
  refine J_iload_n (pc' := 202) ok (dOf dX4_bring 117 rfl) rfl rfl rfl ?_
  refine J_iadd (pc' := 203) ok (dOf dX4_bring 118 rfl) rfl ?_
  refine J_dup2 (pc' := 204) ok (dOf dX4_bring 119 rfl) rfl rfl rfl ?_
  refine J_iald (pc' := 205) ok (dOf dX4_bring 120 rfl) rfl (fun x27 => ?_)
  refine J_iload (pc' := 207) ok (dOf dX4_bring 121 rfl) rfl rfl ?_
  refine J_iadd (pc' := 208) ok (dOf dX4_bring 122 rfl) rfl ?_
  refine J_iast (pc' := 209) ok (dOf dX4_bring 123 rfl) rfl (fun h28 _ => ?_)
  refine J_iload (pc' := 211) ok (dOf dX4_bring 124 rfl) rfl rfl ?_
  exact J_ireturn ok (dOf dX4_bring 125 rfl) rfl (Nat.le_refl 0) (Nat.le_refl 0)
def Frt_bring_j75 (v0 : Nat) (v1 : Int32) (v2 : Int32) (v3 : Int32) (v4 : Int32) (v5 : Int32) (v6 : Int32) (h : AHeap) : Option (Int32 × AHeap) :=
  (gfR h v0 4 4).bind fun a9 => (ald 0 h a9 v5).bind fun x10 => (gfR h v0 4 4).bind fun a11 => (ald 0 h a11 v5).bind fun x12 => (ast 0 h a11 v5 (x12 - (if x10 < v4 then x10 else v4))).bind fun h13 => (iter (Frt_bring_b107 v0 v1 v2 v3 (if x10 < v4 then x10 else v4)) Lmax (v1, 0, h13)).bind (fun q107 => Frt_bring_j193 v0 v1 v2 v3 (if x10 < v4 then x10 else v4) q107.1 q107.2.1 q107.2.2)
theorem Frt_bring_j75_J {E : JE} {l : Launch} {G : GX} {v : Int32} {h' : AHeap} (ok : JOK E l G kFrt_bring 0 0 (some (.int v)) h') (v0 : Nat) (v1 : Int32) (v2 : Int32) (v3 : Int32) (v4 : Int32) (v5 : Int32) (v6 : Int32) (h : AHeap) : J E kFrt_bring (Frt_bring_j75 v0 v1 v2 v3 v4 v5 v6 h) (fun z => z = (v, h')) 75 [some (.ref v0), some (.int v1), some (.int v2), some (.int v3), some (.int v4), some (.int v5), some (.int v6), none, none] [] h 0 0 := by
  unfold Frt_bring_j75
  refine J_iload (pc' := 77) ok (dOf dX4_bring 42 rfl) rfl rfl ?_
  refine J_aload_n (pc' := 78) ok (dOf dX4_bring 43 rfl) rfl rfl rfl ?_
  refine J_getR (ci := 4) (kf := 4) (C := RX4) (T := TX4) (N := 12) (pc' := 81) ok (dOf dX4_bring 44 rfl) rfl (by decide) rfl (by decide) win_4 wfl_X4_25 (fun a9 => ?_)
  refine J_iload (pc' := 83) ok (dOf dX4_bring 45 rfl) rfl rfl ?_
  refine J_iald (pc' := 84) ok (dOf dX4_bring 46 rfl) rfl (fun x10 => ?_)
  refine J_mmin (pc' := 87) ok (dOf dX4_bring 47 rfl) rfl wml_X4_118 wstat_J9_min_7cf53 wini_java_lang_Math wcode_J9_min_7cf53 (Nat.le_of_ble_eq_true rfl) (Nat.le_of_ble_eq_true rfl) (Nat.le_refl 0) (Nat.le_refl 0) ?_
  refine J_istore (ls' := [some (.ref v0), some (.int v1), some (.int v2), some (.int v3), some (.int (if x10 < v4 then x10 else v4)), some (.int v5), some (.int v6), none, none]) (pc' := 89) ok (dOf dX4_bring 48 rfl) rfl (Nat.le_of_ble_eq_true rfl) rfl rfl ?_
  refine J_aload_n (pc' := 90) ok (dOf dX4_bring 49 rfl) rfl rfl rfl ?_
  refine J_getR (ci := 4) (kf := 4) (C := RX4) (T := TX4) (N := 12) (pc' := 93) ok (dOf dX4_bring 50 rfl) rfl (by decide) rfl (by decide) win_4 wfl_X4_25 (fun a11 => ?_)
  refine J_iload (pc' := 95) ok (dOf dX4_bring 51 rfl) rfl rfl ?_
  refine J_dup2 (pc' := 96) ok (dOf dX4_bring 52 rfl) rfl rfl rfl ?_
  refine J_iald (pc' := 97) ok (dOf dX4_bring 53 rfl) rfl (fun x12 => ?_)
  refine J_iload (pc' := 99) ok (dOf dX4_bring 54 rfl) rfl rfl ?_
  refine J_isub (pc' := 100) ok (dOf dX4_bring 55 rfl) rfl ?_
  refine J_iast (pc' := 101) ok (dOf dX4_bring 56 rfl) rfl (fun h13 _ => ?_)
  refine J_iload_n (pc' := 102) ok (dOf dX4_bring 57 rfl) rfl rfl rfl ?_
  refine J_istore (ls' := [some (.ref v0), some (.int v1), some (.int v2), some (.int v3), some (.int (if x10 < v4 then x10 else v4)), some (.int v1), some (.int v6), none, none]) (pc' := 104) ok (dOf dX4_bring 58 rfl) rfl (Nat.le_of_ble_eq_true rfl) rfl rfl ?_
  refine J_iconst (v := 0) (pc' := 105) ok (dOf dX4_bring 59 rfl) rfl (by decide) ?_
  refine J_istore (ls' := [some (.ref v0), some (.int v1), some (.int v2), some (.int v3), some (.int (if x10 < v4 then x10 else v4)), some (.int v1), some (.int 0), none, none]) (pc' := 107) ok (dOf dX4_bring 60 rfl) rfl (Nat.le_of_ble_eq_true rfl) rfl rfl ?_
  refine J_iter (lf := fun z107 => [some (.ref v0), some (.int v1), some (.int v2), some (.int v3), some (.int (if x10 < v4 then x10 else v4)), some (.int z107.1), some (.int z107.2.1), none, none]) (sf := fun _ => []) (hf := fun z107 => z107.2.2) (px := (fun q107 => 193)) (lx := (fun q107 => [some (.ref v0), some (.int v1), some (.int v2), some (.int v3), some (.int (if x10 < v4 then x10 else v4)), some (.int q107.1), some (.int q107.2.1), none, none])) (sx := (fun q107 => [])) (hx := (fun q107 => q107.2.2)) (fun Y2 z107 m1 m2 => Frt_bring_b107_J ok v0 v1 v2 v3 (if x10 < v4 then x10 else v4) m1 m2 z107) (fun q107 => ?_) Lmax _
  exact Frt_bring_j193_J ok v0 v1 v2 v3 (if x10 < v4 then x10 else v4) q107.1 q107.2.1 q107.2.2
def Frt_bring (v0 : Nat) (v1 : Int32) (v2 : Int32) (v3 : Int32) (h : AHeap) : Option (Int32 × AHeap) :=
  (iter (Frt_bring_b9 v0 v1 v2 v3 h) Lmax (v3, v1, 0)).bind (fun q9 => Frt_bring_j75 v0 v1 v2 v3 q9.1 q9.2.1 q9.2.2 h)
theorem t_Frt_bring {l : Launch} {G : GX} {v0 : Nat} {v1 : Int32} {v2 : Int32} {v3 : Int32} {h : AHeap} {v : Int32} {h1 : AHeap} (hf : Frt_bring v0 v1 v2 v3 h = some (v, h1)) : CT l G kFrt_bring 0 0 [.ref v0, .int v1, .int v2, .int v3] h (some (.int v)) h1 := by
  refine CT_of (ls := [some (.ref v0), some (.int v1), some (.int v2), some (.int v3), none, none, none, none, none]) (Z := fun z => z = (v, h1)) (by decide +kernel) (Nat.le_of_ble_eq_true rfl) hf rfl ⟨rfl, rfl, rfl, rfl, trivial⟩ (fun E ok => ?_)
  unfold Frt_bring
  refine J_iload_n (pc' := 1) ok (dOf dX4_bring 0 rfl) rfl rfl rfl ?_
  refine J_istore (ls' := [some (.ref v0), some (.int v1), some (.int v2), some (.int v3), some (.int v3), none, none, none, none]) (pc' := 3) ok (dOf dX4_bring 1 rfl) rfl (Nat.le_of_ble_eq_true rfl) rfl rfl ?_
  refine J_iload_n (pc' := 4) ok (dOf dX4_bring 2 rfl) rfl rfl rfl ?_
  refine J_istore (ls' := [some (.ref v0), some (.int v1), some (.int v2), some (.int v3), some (.int v3), some (.int v1), none, none, none]) (pc' := 6) ok (dOf dX4_bring 3 rfl) rfl (Nat.le_of_ble_eq_true rfl) rfl rfl ?_
  refine J_iconst (v := 0) (pc' := 7) ok (dOf dX4_bring 4 rfl) rfl (by decide) ?_
  refine J_istore (ls' := [some (.ref v0), some (.int v1), some (.int v2), some (.int v3), some (.int v3), some (.int v1), some (.int 0), none, none]) (pc' := 9) ok (dOf dX4_bring 5 rfl) rfl (Nat.le_of_ble_eq_true rfl) rfl rfl ?_
  refine J_iter (lf := fun z9 => [some (.ref v0), some (.int v1), some (.int v2), some (.int v3), some (.int z9.1), some (.int z9.2.1), some (.int z9.2.2), none, none]) (sf := fun _ => []) (hf := fun z9 => h) (px := (fun q9 => 75)) (lx := (fun q9 => [some (.ref v0), some (.int v1), some (.int v2), some (.int v3), some (.int q9.1), some (.int q9.2.1), some (.int q9.2.2), none, none])) (sx := (fun q9 => [])) (hx := (fun q9 => h)) (fun Y2 z9 m1 m2 => Frt_bring_b9_J ok v0 v1 v2 v3 h m1 m2 z9) (fun q9 => ?_) Lmax _
  exact Frt_bring_j75_J ok v0 v1 v2 v3 q9.1 q9.2.1 q9.2.2 h
-- X4_costAt
abbrev kFrt_costAt : Cd := (yX4_costAt, cX4_costAt, 8, (some .int), 3, 73)
theorem dX4_costAt : dcheck cX4_costAt [(0, .aload_n 0, 1), (1, .aload_n 1, 1), (2, .iload_n 3, 1), (3, .invokevirtual 73, 3), (6, .aload_n 0, 1), (7, .getfield 9, 3), (10, .iconst 0, 1), (11, .aload_n 0, 1), (12, .getfield 25, 3), (15, .iconst 0, 1), (16, .iconst 4, 1), (17, .invokestatic 81, 3), (20, .aload_n 0, 1), (21, .getfield 28, 3), (24, .iconst 0, 1), (25, .invokestatic 87, 3), (28, .iconst 0, 1), (29, .istore 4, 2), (31, .iload 4, 2), (33, .aload_n 1, 1), (34, .getfield 49, 3), (37, .if_icmp .ge 78, 3), (40, .aload_n 1, 1), (41, .getfield 59, 3), (44, .iload_n 2, 1), (45, .bipush 6, 2), (47, .imul, 1), (48, .iload 4, 2), (50, .iadd, 1), (51, .iaload, 1), (52, .istore 5, 2), (54, .iconst 0, 1), (55, .istore 6, 2), (57, .iload 6, 2), (59, .bipush 20, 2), (61, .if_icmp .ge 48, 3), (64, .iload 5, 2), (66, .ifCond .le 43, 3), (69, .aload_n 0, 1), (70, .aload_n 1, 1), (71, .iload 4, 2), (73, .invokevirtual 93, 3), (76, .istore 7, 2), (78, .iload 5, 2), (80, .iload 7, 2), (82, .iconst (-1), 1), (83, .if_icmp .ne 7, 3), (86, .iconst 0, 1), (87, .goto 13, 3), (90, .aload_n 0, 1), (91, .iload 7, 2), (93, .iload 4, 2), (95, .iload 5, 2), (97, .invokevirtual 97, 3), (100, .isub, 1), (101, .istore 5, 2), (103, .iinc 6 1, 3), (106, .goto (-49), 3), (109, .iinc 4 1, 3), (112, .goto (-81), 3), (115, .iconst 0, 1), (116, .istore 4, 2), (118, .iconst 0, 1), (119, .istore 5, 2), (121, .iload 5, 2), (123, .bipush 24, 2), (125, .if_icmp .ge 43, 3), (128, .iload 4, 2), (130, .aload_n 0, 1), (131, .getfield 28, 3), (134, .iload 5, 2), (136, .iaload, 1), (137, .ifCond .le 21, 3), (140, .aload_n 0, 1), (141, .getfield 28, 3), (144, .iload 5, 2), (146, .iaload, 1), (147, .aload_n 1, 1), (148, .getfield 101, 3), (151, .iload 5, 2), (153, .iaload, 1), (154, .imul, 1), (155, .goto 4, 3), (158, .iconst 0, 1), (159, .iadd, 1), (160, .istore 4, 2), (162, .iinc 5 1, 3), (165, .goto (-44), 3), (168, .iload 4, 2), (170, .ireturn, 1)] = true := by decide +kernel
theorem cw_Frt_costAt {k : Cd} (h1 : kFrt_costAt.2.2.2.2.1 + 1 ≤ k.2.2.2.2.1) (h2 : 8 + (kFrt_costAt.2.2.1 + 11) + kFrt_costAt.2.2.2.2.2 ≤ k.2.2.2.2.2) : Cw k kFrt_costAt 3 := ⟨wcode_X4_costAt, wini_SplitProgram_Freight, ⟨by decide, by decide, by decide +kernel⟩, h1, h2⟩
def Frt_costAt_j100 (v0 : Nat) (v1 : Nat) (v2 : Int32) (v3 : Int32) (v4 : Int32) (v5 : Int32) (v6 : Int32) (v7 : Int32) (t0 : Int32) (t1 : Int32) (h : AHeap) : Option ((Int32 × Int32 × AHeap) ⊕ ((Int32 × Int32 × AHeap))) :=
  some (.inl (t0 - t1, v6 + 1, h))
theorem Frt_costAt_j100_J {E : JE} {l : Launch} {G : GX} {r : Option Value} {h' : AHeap} (ok : JOK E l G kFrt_costAt 0 0 r h') (v0 : Nat) (v1 : Nat) (v2 : Int32) (v3 : Int32) (v4 : Int32) (v5 : Int32) (v6 : Int32) (v7 : Int32) (t0 : Int32) (t1 : Int32) (h : AHeap) {Y : (Int32 × Int32 × AHeap) ⊕ ((Int32 × Int32 × AHeap)) → Prop} (k1 : ∀ s' : Int32 × Int32 × AHeap, Y (.inl s') → JW E kFrt_costAt 57 [some (.ref v0), some (.ref v1), some (.int v2), some (.int v3), some (.int v4), some (.int s'.1), some (.int s'.2.1), none] [] s'.2.2 0 0) (kx109 : ∀ q : Int32 × Int32 × AHeap, Y (.inr q) → JW E kFrt_costAt 109 [some (.ref v0), some (.ref v1), some (.int v2), some (.int v3), some (.int v4), some (.int q.1), some (.int q.2.1), none] [] q.2.2 0 0) : J E kFrt_costAt (Frt_costAt_j100 v0 v1 v2 v3 v4 v5 v6 v7 t0 t1 h) Y 100 [some (.ref v0), some (.ref v1), some (.int v2), some (.int v3), some (.int v4), some (.int v5), some (.int v6), some (.int v7)] [.int t1, .int t0] h 0 0 := by
  unfold Frt_costAt_j100
  refine J_isub (pc' := 101) ok (dOf dX4_costAt 54 rfl) rfl ?_
  refine J_istore (ls' := [some (.ref v0), some (.ref v1), some (.int v2), some (.int v3), some (.int v4), some (.int (t0 - t1)), some (.int v6), some (.int v7)]) (pc' := 103) ok (dOf dX4_costAt 55 rfl) rfl (Nat.le_of_ble_eq_true rfl) rfl rfl ?_
  refine J_iinc (v := v6 + 1) (ls' := [some (.ref v0), some (.ref v1), some (.int v2), some (.int v3), some (.int v4), some (.int (t0 - t1)), some (.int (v6 + 1)), some (.int v7)]) (pc' := 106) ok (dOf dX4_costAt 56 rfl) rfl rfl (by rfl) (Nat.le_of_ble_eq_true rfl) rfl rfl ?_
  refine J_goto (tgt := 57) ok (dOf dX4_costAt 57 rfl) (by decide) ?_
  refine J_weak (ls' := [some (.ref v0), some (.ref v1), some (.int v2), some (.int v3), some (.int v4), some (.int (t0 - t1)), some (.int (v6 + 1)), none]) ⟨rfl, rfl, rfl, rfl, rfl, rfl, rfl, trivial⟩ ?_
  exact J_fin (k1 (t0 - t1, v6 + 1, h))
def Frt_costAt_b57 (v0 : Nat) (v1 : Nat) (v2 : Int32) (v3 : Int32) (v4 : Int32) (s : Int32 × Int32 × AHeap) : Option ((Int32 × Int32 × AHeap) ⊕ ((Int32 × Int32 × AHeap))) :=
  (if 20 ≤ s.2.1 then some (.inr (s.1, s.2.1, s.2.2)) else (if s.1 ≤ 0 then some (.inr (s.1, s.2.1, s.2.2)) else (chk s.2.2 v0 4).bind fun _ => bnd2 (Frt_chooseGiver v0 v1 v4 s.2.2) fun x11 h10 => (if ¬ x11 = (-1) then (chk h10 v0 4).bind fun _ => bnd2 (Frt_bring v0 x11 v4 s.1 h10) fun x13 h12 => Frt_costAt_j100 v0 v1 v2 v3 v4 s.1 s.2.1 x11 s.1 x13 h12 else Frt_costAt_j100 v0 v1 v2 v3 v4 s.1 s.2.1 x11 s.1 0 h10)))
theorem Frt_costAt_b57_J {E : JE} {l : Launch} {G : GX} {r : Option Value} {h' : AHeap} (ok : JOK E l G kFrt_costAt 0 0 r h') (v0 : Nat) (v1 : Nat) (v2 : Int32) (v3 : Int32) (v4 : Int32) {Y : (Int32 × Int32 × AHeap) ⊕ ((Int32 × Int32 × AHeap)) → Prop} (k1 : ∀ s' : Int32 × Int32 × AHeap, Y (.inl s') → JW E kFrt_costAt 57 [some (.ref v0), some (.ref v1), some (.int v2), some (.int v3), some (.int v4), some (.int s'.1), some (.int s'.2.1), none] [] s'.2.2 0 0) (kx109 : ∀ q : Int32 × Int32 × AHeap, Y (.inr q) → JW E kFrt_costAt 109 [some (.ref v0), some (.ref v1), some (.int v2), some (.int v3), some (.int v4), some (.int q.1), some (.int q.2.1), none] [] q.2.2 0 0) (s : Int32 × Int32 × AHeap) : J E kFrt_costAt (Frt_costAt_b57 v0 v1 v2 v3 v4 s) Y 57 [some (.ref v0), some (.ref v1), some (.int v2), some (.int v3), some (.int v4), some (.int s.1), some (.int s.2.1), none] [] s.2.2 0 0 := by
  unfold Frt_costAt_b57
  refine J_iload (pc' := 59) ok (dOf dX4_costAt 33 rfl) rfl rfl ?_
  refine J_bipush (v := 20) (pc' := 61) ok (dOf dX4_costAt 34 rfl) rfl (by decide) ?_
  refine J_icmp_ge (tgt := 109) (pc' := 64) ok (dOf dX4_costAt 35 rfl) rfl (by decide) ?_ ?_
  · exact J_fin (kx109 (s.1, s.2.1, s.2.2))
  · refine J_iload (pc' := 66) ok (dOf dX4_costAt 36 rfl) rfl rfl ?_
    refine J_if_le (tgt := 109) (pc' := 69) ok (dOf dX4_costAt 37 rfl) rfl (by decide) ?_ ?_
    · exact J_fin (kx109 (s.1, s.2.1, s.2.2))
    · refine J_aload_n (pc' := 70) ok (dOf dX4_costAt 38 rfl) rfl rfl rfl ?_
      refine J_aload_n (pc' := 71) ok (dOf dX4_costAt 39 rfl) rfl rfl rfl ?_
      refine J_iload (pc' := 73) ok (dOf dX4_costAt 40 rfl) rfl rfl ?_
      refine J_callVi (k2 := kFrt_chooseGiver) (ci := 4) (T := TX4) (N := 12) (as := [.ref v1, .int v4]) (pc' := 76) ok (dOf dX4_costAt 41 rfl) rfl (cw_Frt_chooseGiver (by decide) (by decide)) wml_X4_93 winst_X4_chooseGiver wsel_X4_chooseGiver rfl ⟨Nat.le_refl 0, Nat.le_refl 0⟩ (Nat.le_of_ble_eq_true rfl) rfl (fun _ _ hf => t_Frt_chooseGiver hf) (fun x11 h10 => ?_)
      refine J_istore (ls' := [some (.ref v0), some (.ref v1), some (.int v2), some (.int v3), some (.int v4), some (.int s.1), some (.int s.2.1), some (.int x11)]) (pc' := 78) ok (dOf dX4_costAt 42 rfl) rfl (Nat.le_of_ble_eq_true rfl) rfl rfl ?_
      refine J_iload (pc' := 80) ok (dOf dX4_costAt 43 rfl) rfl rfl ?_
      refine J_iload (pc' := 82) ok (dOf dX4_costAt 44 rfl) rfl rfl ?_
      refine J_iconst (v := (-1)) (pc' := 83) ok (dOf dX4_costAt 45 rfl) rfl (by decide) ?_
      refine J_icmp_ne (tgt := 90) (pc' := 86) ok (dOf dX4_costAt 46 rfl) rfl (by decide) ?_ ?_
      · refine J_aload_n (pc' := 91) ok (dOf dX4_costAt 49 rfl) rfl rfl rfl ?_
        refine J_iload (pc' := 93) ok (dOf dX4_costAt 50 rfl) rfl rfl ?_
        refine J_iload (pc' := 95) ok (dOf dX4_costAt 51 rfl) rfl rfl ?_
        refine J_iload (pc' := 97) ok (dOf dX4_costAt 52 rfl) rfl rfl ?_
        refine J_callVi (k2 := kFrt_bring) (ci := 4) (T := TX4) (N := 12) (as := [.int x11, .int v4, .int s.1]) (pc' := 100) ok (dOf dX4_costAt 53 rfl) rfl (cw_Frt_bring (by decide) (by decide)) wml_X4_97 winst_X4_bring wsel_X4_bring rfl ⟨Nat.le_refl 0, Nat.le_refl 0⟩ (Nat.le_of_ble_eq_true rfl) rfl (fun _ _ hf => t_Frt_bring hf) (fun x13 h12 => ?_)
        exact Frt_costAt_j100_J ok v0 v1 v2 v3 v4 s.1 s.2.1 x11 s.1 x13 h12 k1 kx109
      · refine J_iconst (v := 0) (pc' := 87) ok (dOf dX4_costAt 47 rfl) rfl (by decide) ?_
        refine J_goto (tgt := 100) ok (dOf dX4_costAt 48 rfl) (by decide) ?_
        exact Frt_costAt_j100_J ok v0 v1 v2 v3 v4 s.1 s.2.1 x11 s.1 0 h10 k1 kx109
def Frt_costAt_j109 (v0 : Nat) (v1 : Nat) (v2 : Int32) (v3 : Int32) (v4 : Int32) (v5 : Int32) (v6 : Int32) (h : AHeap) : Option ((Int32 × AHeap) ⊕ ((Int32 × AHeap))) :=
  some (.inl (v4 + 1, h))
theorem Frt_costAt_j109_J {E : JE} {l : Launch} {G : GX} {r : Option Value} {h' : AHeap} (ok : JOK E l G kFrt_costAt 0 0 r h') (v0 : Nat) (v1 : Nat) (v2 : Int32) (v3 : Int32) (v4 : Int32) (v5 : Int32) (v6 : Int32) (h : AHeap) {Y : (Int32 × AHeap) ⊕ ((Int32 × AHeap)) → Prop} (k1 : ∀ s' : Int32 × AHeap, Y (.inl s') → JW E kFrt_costAt 31 [some (.ref v0), some (.ref v1), some (.int v2), some (.int v3), some (.int s'.1), none, none, none] [] s'.2 0 0) (kx115 : ∀ q : Int32 × AHeap, Y (.inr q) → JW E kFrt_costAt 115 [some (.ref v0), some (.ref v1), some (.int v2), some (.int v3), some (.int q.1), none, none, none] [] q.2 0 0) : J E kFrt_costAt (Frt_costAt_j109 v0 v1 v2 v3 v4 v5 v6 h) Y 109 [some (.ref v0), some (.ref v1), some (.int v2), some (.int v3), some (.int v4), some (.int v5), some (.int v6), none] [] h 0 0 := by
  unfold Frt_costAt_j109
  refine J_iinc (v := v4 + 1) (ls' := [some (.ref v0), some (.ref v1), some (.int v2), some (.int v3), some (.int (v4 + 1)), some (.int v5), some (.int v6), none]) (pc' := 112) ok (dOf dX4_costAt 58 rfl) rfl rfl (by rfl) (Nat.le_of_ble_eq_true rfl) rfl rfl ?_
  refine J_goto (tgt := 31) ok (dOf dX4_costAt 59 rfl) (by decide) ?_
  refine J_weak (ls' := [some (.ref v0), some (.ref v1), some (.int v2), some (.int v3), some (.int (v4 + 1)), none, none, none]) ⟨rfl, rfl, rfl, rfl, rfl, trivial⟩ ?_
  exact J_fin (k1 (v4 + 1, h))
def Frt_costAt_b31 (v0 : Nat) (v1 : Nat) (v2 : Int32) (v3 : Int32) (s : Int32 × AHeap) : Option ((Int32 × AHeap) ⊕ ((Int32 × AHeap))) :=
  (gfI s.2 v1 6 1).bind fun x7 => (if x7 ≤ s.1 then some (.inr (s.1, s.2)) else (gfR s.2 v1 6 8).bind fun a8 => (ald 0 s.2 a8 ((v2 * 6) + s.1)).bind fun x9 => (iter (Frt_costAt_b57 v0 v1 v2 v3 s.1) Lmax (x9, 0, s.2)).bind (fun q57 => Frt_costAt_j109 v0 v1 v2 v3 s.1 q57.1 q57.2.1 q57.2.2))
theorem Frt_costAt_b31_J {E : JE} {l : Launch} {G : GX} {r : Option Value} {h' : AHeap} (ok : JOK E l G kFrt_costAt 0 0 r h') (v0 : Nat) (v1 : Nat) (v2 : Int32) (v3 : Int32) {Y : (Int32 × AHeap) ⊕ ((Int32 × AHeap)) → Prop} (k1 : ∀ s' : Int32 × AHeap, Y (.inl s') → JW E kFrt_costAt 31 [some (.ref v0), some (.ref v1), some (.int v2), some (.int v3), some (.int s'.1), none, none, none] [] s'.2 0 0) (kx115 : ∀ q : Int32 × AHeap, Y (.inr q) → JW E kFrt_costAt 115 [some (.ref v0), some (.ref v1), some (.int v2), some (.int v3), some (.int q.1), none, none, none] [] q.2 0 0) (s : Int32 × AHeap) : J E kFrt_costAt (Frt_costAt_b31 v0 v1 v2 v3 s) Y 31 [some (.ref v0), some (.ref v1), some (.int v2), some (.int v3), some (.int s.1), none, none, none] [] s.2 0 0 := by
  unfold Frt_costAt_b31
  refine J_iload (pc' := 33) ok (dOf dX4_costAt 18 rfl) rfl rfl ?_
  refine J_aload_n (pc' := 34) ok (dOf dX4_costAt 19 rfl) rfl rfl rfl ?_
  refine J_getI (ci := 6) (kf := 1) (C := RX6) (T := TX6) (N := 9) (pc' := 37) ok (dOf dX4_costAt 20 rfl) rfl (by decide) rfl (by decide) win_6 wfl_X4_49 (fun x7 => ?_)
  refine J_icmp_ge (tgt := 115) (pc' := 40) ok (dOf dX4_costAt 21 rfl) rfl (by decide) ?_ ?_
  · exact J_fin (kx115 (s.1, s.2))
  · refine J_aload_n (pc' := 41) ok (dOf dX4_costAt 22 rfl) rfl rfl rfl ?_
    refine J_getR (ci := 6) (kf := 8) (C := RX6) (T := TX6) (N := 9) (pc' := 44) ok (dOf dX4_costAt 23 rfl) rfl (by decide) rfl (by decide) win_6 wfl_X4_59 (fun a8 => ?_)
    refine J_iload_n (pc' := 45) ok (dOf dX4_costAt 24 rfl) rfl rfl rfl ?_
    refine J_bipush (v := 6) (pc' := 47) ok (dOf dX4_costAt 25 rfl) rfl (by decide) ?_
    refine J_imul (pc' := 48) ok (dOf dX4_costAt 26 rfl) rfl ?_
    refine J_iload (pc' := 50) ok (dOf dX4_costAt 27 rfl) rfl rfl ?_
    refine J_iadd (pc' := 51) ok (dOf dX4_costAt 28 rfl) rfl ?_
    refine J_iald (pc' := 52) ok (dOf dX4_costAt 29 rfl) rfl (fun x9 => ?_)
    refine J_istore (ls' := [some (.ref v0), some (.ref v1), some (.int v2), some (.int v3), some (.int s.1), some (.int x9), none, none]) (pc' := 54) ok (dOf dX4_costAt 30 rfl) rfl (Nat.le_of_ble_eq_true rfl) rfl rfl ?_
    refine J_iconst (v := 0) (pc' := 55) ok (dOf dX4_costAt 31 rfl) rfl (by decide) ?_
    refine J_istore (ls' := [some (.ref v0), some (.ref v1), some (.int v2), some (.int v3), some (.int s.1), some (.int x9), some (.int 0), none]) (pc' := 57) ok (dOf dX4_costAt 32 rfl) rfl (Nat.le_of_ble_eq_true rfl) rfl rfl ?_
    refine J_iter (lf := fun z57 => [some (.ref v0), some (.ref v1), some (.int v2), some (.int v3), some (.int s.1), some (.int z57.1), some (.int z57.2.1), none]) (sf := fun _ => []) (hf := fun z57 => z57.2.2) (px := (fun q57 => 109)) (lx := (fun q57 => [some (.ref v0), some (.ref v1), some (.int v2), some (.int v3), some (.int s.1), some (.int q57.1), some (.int q57.2.1), none])) (sx := (fun q57 => [])) (hx := (fun q57 => q57.2.2)) (fun Y2 z57 m1 m2 => Frt_costAt_b57_J ok v0 v1 v2 v3 s.1 m1 m2 z57) (fun q57 => ?_) Lmax _
    exact Frt_costAt_j109_J ok v0 v1 v2 v3 s.1 q57.1 q57.2.1 q57.2.2 k1 kx115
def Frt_costAt_j159 (v0 : Nat) (v1 : Nat) (v2 : Int32) (v3 : Int32) (v4 : Int32) (v5 : Int32) (t0 : Int32) (t1 : Int32) (h : AHeap) : Option ((Int32 × Int32) ⊕ ((Int32 × Int32))) :=
  some (.inl (t0 + t1, v5 + 1))
theorem Frt_costAt_j159_J {E : JE} {l : Launch} {G : GX} {r : Option Value} {h' : AHeap} (ok : JOK E l G kFrt_costAt 0 0 r h') (v0 : Nat) (v1 : Nat) (v2 : Int32) (v3 : Int32) (v4 : Int32) (v5 : Int32) (t0 : Int32) (t1 : Int32) (h : AHeap) {Y : (Int32 × Int32) ⊕ ((Int32 × Int32)) → Prop} (k1 : ∀ s' : Int32 × Int32, Y (.inl s') → JW E kFrt_costAt 121 [some (.ref v0), some (.ref v1), some (.int v2), some (.int v3), some (.int s'.1), some (.int s'.2), none, none] [] h 0 0) (kx168 : ∀ q : Int32 × Int32, Y (.inr q) → JW E kFrt_costAt 168 [some (.ref v0), some (.ref v1), some (.int v2), some (.int v3), some (.int q.1), some (.int q.2), none, none] [] h 0 0) : J E kFrt_costAt (Frt_costAt_j159 v0 v1 v2 v3 v4 v5 t0 t1 h) Y 159 [some (.ref v0), some (.ref v1), some (.int v2), some (.int v3), some (.int v4), some (.int v5), none, none] [.int t1, .int t0] h 0 0 := by
  unfold Frt_costAt_j159
  refine J_iadd (pc' := 160) ok (dOf dX4_costAt 84 rfl) rfl ?_
  refine J_istore (ls' := [some (.ref v0), some (.ref v1), some (.int v2), some (.int v3), some (.int (t0 + t1)), some (.int v5), none, none]) (pc' := 162) ok (dOf dX4_costAt 85 rfl) rfl (Nat.le_of_ble_eq_true rfl) rfl rfl ?_
  refine J_iinc (v := v5 + 1) (ls' := [some (.ref v0), some (.ref v1), some (.int v2), some (.int v3), some (.int (t0 + t1)), some (.int (v5 + 1)), none, none]) (pc' := 165) ok (dOf dX4_costAt 86 rfl) rfl rfl (by rfl) (Nat.le_of_ble_eq_true rfl) rfl rfl ?_
  refine J_goto (tgt := 121) ok (dOf dX4_costAt 87 rfl) (by decide) ?_
  exact J_fin (k1 (t0 + t1, v5 + 1))
def Frt_costAt_b121 (v0 : Nat) (v1 : Nat) (v2 : Int32) (v3 : Int32) (h : AHeap) (s : Int32 × Int32) : Option ((Int32 × Int32) ⊕ ((Int32 × Int32))) :=
  (if 24 ≤ s.2 then some (.inr (s.1, s.2)) else (gfR h v0 4 5).bind fun a14 => (ald 0 h a14 s.2).bind fun x15 => (if x15 ≤ 0 then Frt_costAt_j159 v0 v1 v2 v3 s.1 s.2 s.1 0 h else (gfR h v0 4 5).bind fun a16 => (ald 0 h a16 s.2).bind fun x17 => (gfR h v1 6 6).bind fun a18 => (ald 0 h a18 s.2).bind fun x19 => Frt_costAt_j159 v0 v1 v2 v3 s.1 s.2 s.1 (x17 * x19) h))
theorem Frt_costAt_b121_J {E : JE} {l : Launch} {G : GX} {r : Option Value} {h' : AHeap} (ok : JOK E l G kFrt_costAt 0 0 r h') (v0 : Nat) (v1 : Nat) (v2 : Int32) (v3 : Int32) (h : AHeap) {Y : (Int32 × Int32) ⊕ ((Int32 × Int32)) → Prop} (k1 : ∀ s' : Int32 × Int32, Y (.inl s') → JW E kFrt_costAt 121 [some (.ref v0), some (.ref v1), some (.int v2), some (.int v3), some (.int s'.1), some (.int s'.2), none, none] [] h 0 0) (kx168 : ∀ q : Int32 × Int32, Y (.inr q) → JW E kFrt_costAt 168 [some (.ref v0), some (.ref v1), some (.int v2), some (.int v3), some (.int q.1), some (.int q.2), none, none] [] h 0 0) (s : Int32 × Int32) : J E kFrt_costAt (Frt_costAt_b121 v0 v1 v2 v3 h s) Y 121 [some (.ref v0), some (.ref v1), some (.int v2), some (.int v3), some (.int s.1), some (.int s.2), none, none] [] h 0 0 := by
  unfold Frt_costAt_b121
  refine J_iload (pc' := 123) ok (dOf dX4_costAt 64 rfl) rfl rfl ?_
  refine J_bipush (v := 24) (pc' := 125) ok (dOf dX4_costAt 65 rfl) rfl (by decide) ?_
  refine J_icmp_ge (tgt := 168) (pc' := 128) ok (dOf dX4_costAt 66 rfl) rfl (by decide) ?_ ?_
  · exact J_fin (kx168 (s.1, s.2))
  · refine J_iload (pc' := 130) ok (dOf dX4_costAt 67 rfl) rfl rfl ?_
    refine J_aload_n (pc' := 131) ok (dOf dX4_costAt 68 rfl) rfl rfl rfl ?_
    refine J_getR (ci := 4) (kf := 5) (C := RX4) (T := TX4) (N := 12) (pc' := 134) ok (dOf dX4_costAt 69 rfl) rfl (by decide) rfl (by decide) win_4 wfl_X4_28 (fun a14 => ?_)
    refine J_iload (pc' := 136) ok (dOf dX4_costAt 70 rfl) rfl rfl ?_
    refine J_iald (pc' := 137) ok (dOf dX4_costAt 71 rfl) rfl (fun x15 => ?_)
    refine J_if_le (tgt := 158) (pc' := 140) ok (dOf dX4_costAt 72 rfl) rfl (by decide) ?_ ?_
    · refine J_iconst (v := 0) (pc' := 159) ok (dOf dX4_costAt 83 rfl) rfl (by decide) ?_
      exact Frt_costAt_j159_J ok v0 v1 v2 v3 s.1 s.2 s.1 0 h k1 kx168
    · refine J_aload_n (pc' := 141) ok (dOf dX4_costAt 73 rfl) rfl rfl rfl ?_
      refine J_getR (ci := 4) (kf := 5) (C := RX4) (T := TX4) (N := 12) (pc' := 144) ok (dOf dX4_costAt 74 rfl) rfl (by decide) rfl (by decide) win_4 wfl_X4_28 (fun a16 => ?_)
      refine J_iload (pc' := 146) ok (dOf dX4_costAt 75 rfl) rfl rfl ?_
      refine J_iald (pc' := 147) ok (dOf dX4_costAt 76 rfl) rfl (fun x17 => ?_)
      refine J_aload_n (pc' := 148) ok (dOf dX4_costAt 77 rfl) rfl rfl rfl ?_
      refine J_getR (ci := 6) (kf := 6) (C := RX6) (T := TX6) (N := 9) (pc' := 151) ok (dOf dX4_costAt 78 rfl) rfl (by decide) rfl (by decide) win_6 wfl_X4_101 (fun a18 => ?_)
      refine J_iload (pc' := 153) ok (dOf dX4_costAt 79 rfl) rfl rfl ?_
      refine J_iald (pc' := 154) ok (dOf dX4_costAt 80 rfl) rfl (fun x19 => ?_)
      refine J_imul (pc' := 155) ok (dOf dX4_costAt 81 rfl) rfl ?_
      refine J_goto (tgt := 159) ok (dOf dX4_costAt 82 rfl) (by decide) ?_
      exact Frt_costAt_j159_J ok v0 v1 v2 v3 s.1 s.2 s.1 (x17 * x19) h k1 kx168
def Frt_costAt_j168 (v0 : Nat) (v1 : Nat) (v2 : Int32) (v3 : Int32) (v4 : Int32) (v5 : Int32) (h : AHeap) : Option (Int32 × AHeap) :=
  some (v4, h)
theorem Frt_costAt_j168_J {E : JE} {l : Launch} {G : GX} {v : Int32} {h' : AHeap} (ok : JOK E l G kFrt_costAt 0 0 (some (.int v)) h') (v0 : Nat) (v1 : Nat) (v2 : Int32) (v3 : Int32) (v4 : Int32) (v5 : Int32) (h : AHeap) : J E kFrt_costAt (Frt_costAt_j168 v0 v1 v2 v3 v4 v5 h) (fun z => z = (v, h')) 168 [some (.ref v0), some (.ref v1), some (.int v2), some (.int v3), some (.int v4), some (.int v5), none, none] [] h 0 0 := by
  unfold Frt_costAt_j168
  refine J_iload (pc' := 170) ok (dOf dX4_costAt 88 rfl) rfl rfl ?_
  exact J_ireturn ok (dOf dX4_costAt 89 rfl) rfl (Nat.le_refl 0) (Nat.le_refl 0)
def Frt_costAt_j115 (v0 : Nat) (v1 : Nat) (v2 : Int32) (v3 : Int32) (v4 : Int32) (h : AHeap) : Option (Int32 × AHeap) :=
  (iter (Frt_costAt_b121 v0 v1 v2 v3 h) Lmax (0, 0)).bind (fun q121 => Frt_costAt_j168 v0 v1 v2 v3 q121.1 q121.2 h)
theorem Frt_costAt_j115_J {E : JE} {l : Launch} {G : GX} {v : Int32} {h' : AHeap} (ok : JOK E l G kFrt_costAt 0 0 (some (.int v)) h') (v0 : Nat) (v1 : Nat) (v2 : Int32) (v3 : Int32) (v4 : Int32) (h : AHeap) : J E kFrt_costAt (Frt_costAt_j115 v0 v1 v2 v3 v4 h) (fun z => z = (v, h')) 115 [some (.ref v0), some (.ref v1), some (.int v2), some (.int v3), some (.int v4), none, none, none] [] h 0 0 := by
  unfold Frt_costAt_j115
  refine J_iconst (v := 0) (pc' := 116) ok (dOf dX4_costAt 60 rfl) rfl (by decide) ?_
  refine J_istore (ls' := [some (.ref v0), some (.ref v1), some (.int v2), some (.int v3), some (.int 0), none, none, none]) (pc' := 118) ok (dOf dX4_costAt 61 rfl) rfl (Nat.le_of_ble_eq_true rfl) rfl rfl ?_
  refine J_iconst (v := 0) (pc' := 119) ok (dOf dX4_costAt 62 rfl) rfl (by decide) ?_
  refine J_istore (ls' := [some (.ref v0), some (.ref v1), some (.int v2), some (.int v3), some (.int 0), some (.int 0), none, none]) (pc' := 121) ok (dOf dX4_costAt 63 rfl) rfl (Nat.le_of_ble_eq_true rfl) rfl rfl ?_
  refine J_iter (lf := fun z121 => [some (.ref v0), some (.ref v1), some (.int v2), some (.int v3), some (.int z121.1), some (.int z121.2), none, none]) (sf := fun _ => []) (hf := fun z121 => h) (px := (fun q121 => 168)) (lx := (fun q121 => [some (.ref v0), some (.ref v1), some (.int v2), some (.int v3), some (.int q121.1), some (.int q121.2), none, none])) (sx := (fun q121 => [])) (hx := (fun q121 => h)) (fun Y2 z121 m1 m2 => Frt_costAt_b121_J ok v0 v1 v2 v3 h m1 m2 z121) (fun q121 => ?_) Lmax _
  exact Frt_costAt_j168_J ok v0 v1 v2 v3 q121.1 q121.2 h
def Frt_costAt (v0 : Nat) (v1 : Nat) (v2 : Int32) (v3 : Int32) (h : AHeap) : Option (Int32 × AHeap) :=
  (chk h v0 4).bind fun _ => bnd2 (Frt_findStocks v0 v1 v3 h) fun _ h1 => (gfR h1 v0 4 0).bind fun a2 => (gfR h1 v0 4 4).bind fun a3 => (acp h1 a2 0 a3 0 4).bind fun h4 => (gfR h4 v0 4 5).bind fun a5 => bnd2 (J7_fill a5 0 h4) fun _ h6 => (iter (Frt_costAt_b31 v0 v1 v2 v3) Lmax (0, h6)).bind (fun q31 => Frt_costAt_j115 v0 v1 v2 v3 q31.1 q31.2)
theorem t_Frt_costAt {l : Launch} {G : GX} {v0 : Nat} {v1 : Nat} {v2 : Int32} {v3 : Int32} {h : AHeap} {v : Int32} {h1 : AHeap} (hf : Frt_costAt v0 v1 v2 v3 h = some (v, h1)) : CT l G kFrt_costAt 0 0 [.ref v0, .ref v1, .int v2, .int v3] h (some (.int v)) h1 := by
  refine CT_of (ls := [some (.ref v0), some (.ref v1), some (.int v2), some (.int v3), none, none, none, none]) (Z := fun z => z = (v, h1)) (by decide +kernel) (Nat.le_of_ble_eq_true rfl) hf rfl ⟨rfl, rfl, rfl, rfl, trivial⟩ (fun E ok => ?_)
  unfold Frt_costAt
  refine J_aload_n (pc' := 1) ok (dOf dX4_costAt 0 rfl) rfl rfl rfl ?_
  refine J_aload_n (pc' := 2) ok (dOf dX4_costAt 1 rfl) rfl rfl rfl ?_
  refine J_iload_n (pc' := 3) ok (dOf dX4_costAt 2 rfl) rfl rfl rfl ?_
  refine J_callVv (k2 := kFrt_findStocks) (ci := 4) (T := TX4) (N := 12) (as := [.ref v1, .int v3]) (pc' := 6) ok (dOf dX4_costAt 3 rfl) rfl (cw_Frt_findStocks (by decide) (by decide)) wml_X4_73 winst_X4_findStocks wsel_X4_findStocks rfl ⟨Nat.le_refl 0, Nat.le_refl 0⟩ (Nat.le_of_ble_eq_true rfl) rfl (fun _ _ hf => t_Frt_findStocks hf) (fun _ h1 => ?_)
  refine J_aload_n (pc' := 7) ok (dOf dX4_costAt 4 rfl) rfl rfl rfl ?_
  refine J_getR (ci := 4) (kf := 0) (C := RX4) (T := TX4) (N := 12) (pc' := 10) ok (dOf dX4_costAt 5 rfl) rfl (by decide) rfl (by decide) win_4 wfl_X4_9 (fun a2 => ?_)
  refine J_iconst (v := 0) (pc' := 11) ok (dOf dX4_costAt 6 rfl) rfl (by decide) ?_
  refine J_aload_n (pc' := 12) ok (dOf dX4_costAt 7 rfl) rfl rfl rfl ?_
  refine J_getR (ci := 4) (kf := 4) (C := RX4) (T := TX4) (N := 12) (pc' := 15) ok (dOf dX4_costAt 8 rfl) rfl (by decide) rfl (by decide) win_4 wfl_X4_25 (fun a3 => ?_)
  refine J_iconst (v := 0) (pc' := 16) ok (dOf dX4_costAt 9 rfl) rfl (by decide) ?_
  refine J_iconst (v := 4) (pc' := 17) ok (dOf dX4_costAt 10 rfl) rfl (by decide) ?_
  refine J_acp (pc' := 20) ok (dOf dX4_costAt 11 rfl) rfl wml_X4_81 wnat_java_lang_System_arraycopy wstat_java_lang_System_arraycopy wini_java_lang_System (Nat.le_of_ble_eq_true rfl) (Nat.le_of_ble_eq_true rfl) (fun h4 _ => ?_)
  refine J_aload_n (pc' := 21) ok (dOf dX4_costAt 12 rfl) rfl rfl rfl ?_
  refine J_getR (ci := 4) (kf := 5) (C := RX4) (T := TX4) (N := 12) (pc' := 24) ok (dOf dX4_costAt 13 rfl) rfl (by decide) rfl (by decide) win_4 wfl_X4_28 (fun a5 => ?_)
  refine J_iconst (v := 0) (pc' := 25) ok (dOf dX4_costAt 14 rfl) rfl (by decide) ?_
  refine J_callSv (k2 := kJ7_fill) (as := [.ref a5, .int 0]) (pc' := 28) ok (dOf dX4_costAt 15 rfl) rfl (cw_J7_fill (by decide) (by decide)) wml_X4_87 wstat_J7_fill_53178 ⟨Nat.le_refl 0, Nat.le_refl 0⟩ (Nat.le_of_ble_eq_true rfl) rfl (fun _ _ hf => t_J7_fill hf) (fun _ h6 => ?_)
  refine J_iconst (v := 0) (pc' := 29) ok (dOf dX4_costAt 16 rfl) rfl (by decide) ?_
  refine J_istore (ls' := [some (.ref v0), some (.ref v1), some (.int v2), some (.int v3), some (.int 0), none, none, none]) (pc' := 31) ok (dOf dX4_costAt 17 rfl) rfl (Nat.le_of_ble_eq_true rfl) rfl rfl ?_
  refine J_iter (lf := fun z31 => [some (.ref v0), some (.ref v1), some (.int v2), some (.int v3), some (.int z31.1), none, none, none]) (sf := fun _ => []) (hf := fun z31 => z31.2) (px := (fun q31 => 115)) (lx := (fun q31 => [some (.ref v0), some (.ref v1), some (.int v2), some (.int v3), some (.int q31.1), none, none, none])) (sx := (fun q31 => [])) (hx := (fun q31 => q31.2)) (fun Y2 z31 m1 m2 => Frt_costAt_b31_J ok v0 v1 v2 v3 m1 m2 z31) (fun q31 => ?_) Lmax _
  exact Frt_costAt_j115_J ok v0 v1 v2 v3 q31.1 q31.2
-- X0_priceAt
abbrev kBook_priceAt : Cd := (yX0_priceAt, cX0_priceAt, 5, (some .int), 4, 100)
theorem dX0_priceAt : dcheck cX0_priceAt [(0, .iload_n 2, 1), (1, .sipush 256, 3), (4, .imul, 1), (5, .iload_n 3, 1), (6, .iadd, 1), (7, .istore 4, 2), (9, .aload_n 0, 1), (10, .getfield 18, 3), (13, .iload 4, 2), (15, .iaload, 1), (16, .bipush (-2), 2), (18, .if_icmp .ne 37, 3), (21, .aload_n 0, 1), (22, .getfield 18, 3), (25, .iload 4, 2), (27, .aload_n 0, 1), (28, .getfield 12, 3), (31, .aload_n 1, 1), (32, .iload_n 2, 1), (33, .iload_n 3, 1), (34, .invokevirtual 32, 3), (37, .ifCond .le 7, 3), (40, .iconst (-1), 1), (41, .goto 13, 3), (44, .aload_n 0, 1), (45, .getfield 12, 3), (48, .aload_n 1, 1), (49, .iload_n 2, 1), (50, .iload_n 3, 1), (51, .invokevirtual 36, 3), (54, .iastore, 1), (55, .aload_n 0, 1), (56, .getfield 18, 3), (59, .iload 4, 2), (61, .iaload, 1), (62, .ireturn, 1)] = true := by decide +kernel
theorem cw_Book_priceAt {k : Cd} (h1 : kBook_priceAt.2.2.2.2.1 + 1 ≤ k.2.2.2.2.1) (h2 : 8 + (kBook_priceAt.2.2.1 + 11) + kBook_priceAt.2.2.2.2.2 ≤ k.2.2.2.2.2) : Cw k kBook_priceAt 3 := ⟨wcode_X0_priceAt, wini_SplitProgram_Book, ⟨by decide, by decide, by decide +kernel⟩, h1, h2⟩
def Book_priceAt_j55 (v0 : Nat) (v1 : Nat) (v2 : Int32) (v3 : Int32) (v4 : Int32) (h : AHeap) : Option (Int32 × AHeap) :=
  (gfR h v0 0 1).bind fun a3 => (ald 0 h a3 v4).bind fun x4 => some (x4, h)
theorem Book_priceAt_j55_J {E : JE} {l : Launch} {G : GX} {v : Int32} {h' : AHeap} (ok : JOK E l G kBook_priceAt 0 0 (some (.int v)) h') (v0 : Nat) (v1 : Nat) (v2 : Int32) (v3 : Int32) (v4 : Int32) (h : AHeap) : J E kBook_priceAt (Book_priceAt_j55 v0 v1 v2 v3 v4 h) (fun z => z = (v, h')) 55 [some (.ref v0), some (.ref v1), some (.int v2), some (.int v3), some (.int v4)] [] h 0 0 := by
  unfold Book_priceAt_j55
  refine J_aload_n (pc' := 56) ok (dOf dX0_priceAt 31 rfl) rfl rfl rfl ?_
  refine J_getR (ci := 0) (kf := 1) (C := RX0) (T := TX0) (N := 2) (pc' := 59) ok (dOf dX0_priceAt 32 rfl) rfl (by decide) rfl (by decide) win_0 wfl_X0_18 (fun a3 => ?_)
  refine J_iload (pc' := 61) ok (dOf dX0_priceAt 33 rfl) rfl rfl ?_
  refine J_iald (pc' := 62) ok (dOf dX0_priceAt 34 rfl) rfl (fun x4 => ?_)
  exact J_ireturn ok (dOf dX0_priceAt 35 rfl) rfl (Nat.le_refl 0) (Nat.le_refl 0)
def Book_priceAt_j54 (v0 : Nat) (v1 : Nat) (v2 : Int32) (v3 : Int32) (v4 : Int32) (t0 : Nat) (t1 : Int32) (t2 : Int32) (h : AHeap) : Option (Int32 × AHeap) :=
  (ast 0 h t0 t1 t2).bind fun h12 => Book_priceAt_j55 v0 v1 v2 v3 v4 h12
theorem Book_priceAt_j54_J {E : JE} {l : Launch} {G : GX} {v : Int32} {h' : AHeap} (ok : JOK E l G kBook_priceAt 0 0 (some (.int v)) h') (v0 : Nat) (v1 : Nat) (v2 : Int32) (v3 : Int32) (v4 : Int32) (t0 : Nat) (t1 : Int32) (t2 : Int32) (h : AHeap) : J E kBook_priceAt (Book_priceAt_j54 v0 v1 v2 v3 v4 t0 t1 t2 h) (fun z => z = (v, h')) 54 [some (.ref v0), some (.ref v1), some (.int v2), some (.int v3), some (.int v4)] [.int t2, .int t1, .ref t0] h 0 0 := by
  unfold Book_priceAt_j54
  refine J_iast (pc' := 55) ok (dOf dX0_priceAt 30 rfl) rfl (fun h12 _ => ?_)
  exact Book_priceAt_j55_J ok v0 v1 v2 v3 v4 h12
def Book_priceAt (v0 : Nat) (v1 : Nat) (v2 : Int32) (v3 : Int32) (h : AHeap) : Option (Int32 × AHeap) :=
  (gfR h v0 0 1).bind fun a1 => (ald 0 h a1 ((v2 * 256) + v3)).bind fun x2 => (if ¬ x2 = (-2) then Book_priceAt_j55 v0 v1 v2 v3 ((v2 * 256) + v3) h else (gfR h v0 0 1).bind fun a5 => (gfR h v0 0 0).bind fun a6 => (chk h a6 4).bind fun _ => bnd2 (Frt_lackAt a6 v1 v2 v3 h) fun x8 h7 => (if x8 ≤ 0 then (gfR h7 v0 0 0).bind fun a9 => (chk h7 a9 4).bind fun _ => bnd2 (Frt_costAt a9 v1 v2 v3 h7) fun x11 h10 => Book_priceAt_j54 v0 v1 v2 v3 ((v2 * 256) + v3) a5 ((v2 * 256) + v3) x11 h10 else Book_priceAt_j54 v0 v1 v2 v3 ((v2 * 256) + v3) a5 ((v2 * 256) + v3) (-1) h7))
theorem t_Book_priceAt {l : Launch} {G : GX} {v0 : Nat} {v1 : Nat} {v2 : Int32} {v3 : Int32} {h : AHeap} {v : Int32} {h1 : AHeap} (hf : Book_priceAt v0 v1 v2 v3 h = some (v, h1)) : CT l G kBook_priceAt 0 0 [.ref v0, .ref v1, .int v2, .int v3] h (some (.int v)) h1 := by
  refine CT_of (ls := [some (.ref v0), some (.ref v1), some (.int v2), some (.int v3), none]) (Z := fun z => z = (v, h1)) (by decide +kernel) (Nat.le_of_ble_eq_true rfl) hf rfl ⟨rfl, rfl, rfl, rfl, trivial⟩ (fun E ok => ?_)
  unfold Book_priceAt
  refine J_iload_n (pc' := 1) ok (dOf dX0_priceAt 0 rfl) rfl rfl rfl ?_
  refine J_sipush (v := 256) (pc' := 4) ok (dOf dX0_priceAt 1 rfl) rfl (by decide) ?_
  refine J_imul (pc' := 5) ok (dOf dX0_priceAt 2 rfl) rfl ?_
  refine J_iload_n (pc' := 6) ok (dOf dX0_priceAt 3 rfl) rfl rfl rfl ?_
  refine J_iadd (pc' := 7) ok (dOf dX0_priceAt 4 rfl) rfl ?_
  refine J_istore (ls' := [some (.ref v0), some (.ref v1), some (.int v2), some (.int v3), some (.int ((v2 * 256) + v3))]) (pc' := 9) ok (dOf dX0_priceAt 5 rfl) rfl (Nat.le_of_ble_eq_true rfl) rfl rfl ?_
  refine J_aload_n (pc' := 10) ok (dOf dX0_priceAt 6 rfl) rfl rfl rfl ?_
  refine J_getR (ci := 0) (kf := 1) (C := RX0) (T := TX0) (N := 2) (pc' := 13) ok (dOf dX0_priceAt 7 rfl) rfl (by decide) rfl (by decide) win_0 wfl_X0_18 (fun a1 => ?_)
  refine J_iload (pc' := 15) ok (dOf dX0_priceAt 8 rfl) rfl rfl ?_
  refine J_iald (pc' := 16) ok (dOf dX0_priceAt 9 rfl) rfl (fun x2 => ?_)
  refine J_bipush (v := (-2)) (pc' := 18) ok (dOf dX0_priceAt 10 rfl) rfl (by decide) ?_
  refine J_icmp_ne (tgt := 55) (pc' := 21) ok (dOf dX0_priceAt 11 rfl) rfl (by decide) ?_ ?_
  · exact Book_priceAt_j55_J ok v0 v1 v2 v3 ((v2 * 256) + v3) h
  · refine J_aload_n (pc' := 22) ok (dOf dX0_priceAt 12 rfl) rfl rfl rfl ?_
    refine J_getR (ci := 0) (kf := 1) (C := RX0) (T := TX0) (N := 2) (pc' := 25) ok (dOf dX0_priceAt 13 rfl) rfl (by decide) rfl (by decide) win_0 wfl_X0_18 (fun a5 => ?_)
    refine J_iload (pc' := 27) ok (dOf dX0_priceAt 14 rfl) rfl rfl ?_
    refine J_aload_n (pc' := 28) ok (dOf dX0_priceAt 15 rfl) rfl rfl rfl ?_
    refine J_getR (ci := 0) (kf := 0) (C := RX0) (T := TX0) (N := 2) (pc' := 31) ok (dOf dX0_priceAt 16 rfl) rfl (by decide) rfl (by decide) win_0 wfl_X0_12 (fun a6 => ?_)
    refine J_aload_n (pc' := 32) ok (dOf dX0_priceAt 17 rfl) rfl rfl rfl ?_
    refine J_iload_n (pc' := 33) ok (dOf dX0_priceAt 18 rfl) rfl rfl rfl ?_
    refine J_iload_n (pc' := 34) ok (dOf dX0_priceAt 19 rfl) rfl rfl rfl ?_
    refine J_callVi (k2 := kFrt_lackAt) (ci := 4) (T := TX4) (N := 12) (as := [.ref v1, .int v2, .int v3]) (pc' := 37) ok (dOf dX0_priceAt 20 rfl) rfl (cw_Frt_lackAt (by decide) (by decide)) wml_X0_32 winst_X4_lackAt wsel_X4_lackAt rfl ⟨Nat.le_refl 0, Nat.le_refl 0⟩ (Nat.le_of_ble_eq_true rfl) rfl (fun _ _ hf => t_Frt_lackAt hf) (fun x8 h7 => ?_)
    refine J_if_le (tgt := 44) (pc' := 40) ok (dOf dX0_priceAt 21 rfl) rfl (by decide) ?_ ?_
    · refine J_aload_n (pc' := 45) ok (dOf dX0_priceAt 24 rfl) rfl rfl rfl ?_
      refine J_getR (ci := 0) (kf := 0) (C := RX0) (T := TX0) (N := 2) (pc' := 48) ok (dOf dX0_priceAt 25 rfl) rfl (by decide) rfl (by decide) win_0 wfl_X0_12 (fun a9 => ?_)
      refine J_aload_n (pc' := 49) ok (dOf dX0_priceAt 26 rfl) rfl rfl rfl ?_
      refine J_iload_n (pc' := 50) ok (dOf dX0_priceAt 27 rfl) rfl rfl rfl ?_
      refine J_iload_n (pc' := 51) ok (dOf dX0_priceAt 28 rfl) rfl rfl rfl ?_
      refine J_callVi (k2 := kFrt_costAt) (ci := 4) (T := TX4) (N := 12) (as := [.ref v1, .int v2, .int v3]) (pc' := 54) ok (dOf dX0_priceAt 29 rfl) rfl (cw_Frt_costAt (by decide) (by decide)) wml_X0_36 winst_X4_costAt wsel_X4_costAt rfl ⟨Nat.le_refl 0, Nat.le_refl 0⟩ (Nat.le_of_ble_eq_true rfl) rfl (fun _ _ hf => t_Frt_costAt hf) (fun x11 h10 => ?_)
      exact Book_priceAt_j54_J ok v0 v1 v2 v3 ((v2 * 256) + v3) a5 ((v2 * 256) + v3) x11 h10
    · refine J_iconst (v := (-1)) (pc' := 41) ok (dOf dX0_priceAt 22 rfl) rfl (by decide) ?_
      refine J_goto (tgt := 54) ok (dOf dX0_priceAt 23 rfl) (by decide) ?_
      exact Book_priceAt_j54_J ok v0 v1 v2 v3 ((v2 * 256) + v3) a5 ((v2 * 256) + v3) (-1) h7
-- X2_valueAt
abbrev kCuts_valueAt : Cd := (yX2_valueAt, cX2_valueAt, 6, (some .int), 1, 24)
theorem dX2_valueAt : dcheck cX2_valueAt [(0, .aload_n 0, 1), (1, .aload_n 1, 1), (2, .iload_n 2, 1), (3, .invokevirtual 71, 3), (6, .istore 4, 2), (8, .iconst 0, 1), (9, .istore 5, 2), (11, .iload 5, 2), (13, .aload_n 1, 1), (14, .getfield 54, 3), (17, .if_icmp .ge 29, 3), (20, .iload 4, 2), (22, .iload_n 3, 1), (23, .iload 5, 2), (25, .invokestatic 75, 3), (28, .aload_n 0, 1), (29, .aload_n 1, 1), (30, .iload_n 2, 1), (31, .iload 5, 2), (33, .invokevirtual 78, 3), (36, .imul, 1), (37, .isub, 1), (38, .istore 4, 2), (40, .iinc 5 1, 3), (43, .goto (-32), 3), (46, .iload 4, 2), (48, .ireturn, 1)] = true := by decide +kernel
theorem cw_Cuts_valueAt {k : Cd} (h1 : kCuts_valueAt.2.2.2.2.1 + 1 ≤ k.2.2.2.2.1) (h2 : 8 + (kCuts_valueAt.2.2.1 + 11) + kCuts_valueAt.2.2.2.2.2 ≤ k.2.2.2.2.2) : Cw k kCuts_valueAt 3 := ⟨wcode_X2_valueAt, wini_SplitProgram_Cuts, ⟨by decide, by decide, by decide +kernel⟩, h1, h2⟩
def Cuts_valueAt_b11 (v0 : Nat) (v1 : Nat) (v2 : Int32) (v3 : Int32) (s : Int32 × Int32 × AHeap) : Option ((Int32 × Int32 × AHeap) ⊕ ((Int32 × Int32 × AHeap))) :=
  (gfI s.2.2 v1 6 0).bind fun x3 => (if x3 ≤ s.2.1 then some (.inr (s.1, s.2.1, s.2.2)) else bnd2 (Sp_unitsIn v3 s.2.1 s.2.2) fun x5 h4 => (chk h4 v0 2).bind fun _ => bnd2 (Cuts_slopeOf v0 v1 v2 s.2.1 h4) fun x7 h6 => some (.inl (s.1 - (x5 * x7), s.2.1 + 1, h6)))
theorem Cuts_valueAt_b11_J {E : JE} {l : Launch} {G : GX} {r : Option Value} {h' : AHeap} (ok : JOK E l G kCuts_valueAt 0 0 r h') (v0 : Nat) (v1 : Nat) (v2 : Int32) (v3 : Int32) {Y : (Int32 × Int32 × AHeap) ⊕ ((Int32 × Int32 × AHeap)) → Prop} (k1 : ∀ s' : Int32 × Int32 × AHeap, Y (.inl s') → JW E kCuts_valueAt 11 [some (.ref v0), some (.ref v1), some (.int v2), some (.int v3), some (.int s'.1), some (.int s'.2.1)] [] s'.2.2 0 0) (kx46 : ∀ q : Int32 × Int32 × AHeap, Y (.inr q) → JW E kCuts_valueAt 46 [some (.ref v0), some (.ref v1), some (.int v2), some (.int v3), some (.int q.1), some (.int q.2.1)] [] q.2.2 0 0) (s : Int32 × Int32 × AHeap) : J E kCuts_valueAt (Cuts_valueAt_b11 v0 v1 v2 v3 s) Y 11 [some (.ref v0), some (.ref v1), some (.int v2), some (.int v3), some (.int s.1), some (.int s.2.1)] [] s.2.2 0 0 := by
  unfold Cuts_valueAt_b11
  refine J_iload (pc' := 13) ok (dOf dX2_valueAt 7 rfl) rfl rfl ?_
  refine J_aload_n (pc' := 14) ok (dOf dX2_valueAt 8 rfl) rfl rfl rfl ?_
  refine J_getI (ci := 6) (kf := 0) (C := RX6) (T := TX6) (N := 9) (pc' := 17) ok (dOf dX2_valueAt 9 rfl) rfl (by decide) rfl (by decide) win_6 wfl_X2_54 (fun x3 => ?_)
  refine J_icmp_ge (tgt := 46) (pc' := 20) ok (dOf dX2_valueAt 10 rfl) rfl (by decide) ?_ ?_
  · exact J_fin (kx46 (s.1, s.2.1, s.2.2))
  · refine J_iload (pc' := 22) ok (dOf dX2_valueAt 11 rfl) rfl rfl ?_
    refine J_iload_n (pc' := 23) ok (dOf dX2_valueAt 12 rfl) rfl rfl rfl ?_
    refine J_iload (pc' := 25) ok (dOf dX2_valueAt 13 rfl) rfl rfl ?_
    refine J_callSNi (k2 := kSp_unitsIn) (as := [.int v3, .int s.2.1]) (pc' := 28) ok (dOf dX2_valueAt 14 rfl) rfl (cw_Sp_unitsIn (by decide) (by decide)) wmn_X2_75 wstat_X10_unitsIn ⟨Nat.le_refl 0, Nat.le_refl 0⟩ (Nat.le_of_ble_eq_true rfl) rfl (fun _ _ hf => t_Sp_unitsIn hf) (fun x5 h4 => ?_)
    refine J_aload_n (pc' := 29) ok (dOf dX2_valueAt 15 rfl) rfl rfl rfl ?_
    refine J_aload_n (pc' := 30) ok (dOf dX2_valueAt 16 rfl) rfl rfl rfl ?_
    refine J_iload_n (pc' := 31) ok (dOf dX2_valueAt 17 rfl) rfl rfl rfl ?_
    refine J_iload (pc' := 33) ok (dOf dX2_valueAt 18 rfl) rfl rfl ?_
    refine J_callVi (k2 := kCuts_slopeOf) (ci := 2) (T := TX2) (N := 7) (as := [.ref v1, .int v2, .int s.2.1]) (pc' := 36) ok (dOf dX2_valueAt 19 rfl) rfl (cw_Cuts_slopeOf (by decide) (by decide)) wml_X2_78 winst_X2_slopeOf wsel_X2_slopeOf rfl ⟨Nat.le_refl 0, Nat.le_refl 0⟩ (Nat.le_of_ble_eq_true rfl) rfl (fun _ _ hf => t_Cuts_slopeOf hf) (fun x7 h6 => ?_)
    refine J_imul (pc' := 37) ok (dOf dX2_valueAt 20 rfl) rfl ?_
    refine J_isub (pc' := 38) ok (dOf dX2_valueAt 21 rfl) rfl ?_
    refine J_istore (ls' := [some (.ref v0), some (.ref v1), some (.int v2), some (.int v3), some (.int (s.1 - (x5 * x7))), some (.int s.2.1)]) (pc' := 40) ok (dOf dX2_valueAt 22 rfl) rfl (Nat.le_of_ble_eq_true rfl) rfl rfl ?_
    refine J_iinc (v := s.2.1 + 1) (ls' := [some (.ref v0), some (.ref v1), some (.int v2), some (.int v3), some (.int (s.1 - (x5 * x7))), some (.int (s.2.1 + 1))]) (pc' := 43) ok (dOf dX2_valueAt 23 rfl) rfl rfl (by rfl) (Nat.le_of_ble_eq_true rfl) rfl rfl ?_
    refine J_goto (tgt := 11) ok (dOf dX2_valueAt 24 rfl) (by decide) ?_
    exact J_fin (k1 (s.1 - (x5 * x7), s.2.1 + 1, h6))
def Cuts_valueAt_j46 (v0 : Nat) (v1 : Nat) (v2 : Int32) (v3 : Int32) (v4 : Int32) (v5 : Int32) (h : AHeap) : Option (Int32 × AHeap) :=
  some (v4, h)
theorem Cuts_valueAt_j46_J {E : JE} {l : Launch} {G : GX} {v : Int32} {h' : AHeap} (ok : JOK E l G kCuts_valueAt 0 0 (some (.int v)) h') (v0 : Nat) (v1 : Nat) (v2 : Int32) (v3 : Int32) (v4 : Int32) (v5 : Int32) (h : AHeap) : J E kCuts_valueAt (Cuts_valueAt_j46 v0 v1 v2 v3 v4 v5 h) (fun z => z = (v, h')) 46 [some (.ref v0), some (.ref v1), some (.int v2), some (.int v3), some (.int v4), some (.int v5)] [] h 0 0 := by
  unfold Cuts_valueAt_j46
  refine J_iload (pc' := 48) ok (dOf dX2_valueAt 25 rfl) rfl rfl ?_
  exact J_ireturn ok (dOf dX2_valueAt 26 rfl) rfl (Nat.le_refl 0) (Nat.le_refl 0)
def Cuts_valueAt (v0 : Nat) (v1 : Nat) (v2 : Int32) (v3 : Int32) (h : AHeap) : Option (Int32 × AHeap) :=
  (chk h v0 2).bind fun _ => bnd2 (Cuts_baseOf v0 v1 v2 h) fun x2 h1 => (iter (Cuts_valueAt_b11 v0 v1 v2 v3) Lmax (x2, 0, h1)).bind (fun q11 => Cuts_valueAt_j46 v0 v1 v2 v3 q11.1 q11.2.1 q11.2.2)
theorem t_Cuts_valueAt {l : Launch} {G : GX} {v0 : Nat} {v1 : Nat} {v2 : Int32} {v3 : Int32} {h : AHeap} {v : Int32} {h1 : AHeap} (hf : Cuts_valueAt v0 v1 v2 v3 h = some (v, h1)) : CT l G kCuts_valueAt 0 0 [.ref v0, .ref v1, .int v2, .int v3] h (some (.int v)) h1 := by
  refine CT_of (ls := [some (.ref v0), some (.ref v1), some (.int v2), some (.int v3), none, none]) (Z := fun z => z = (v, h1)) (by decide +kernel) (Nat.le_of_ble_eq_true rfl) hf rfl ⟨rfl, rfl, rfl, rfl, trivial⟩ (fun E ok => ?_)
  unfold Cuts_valueAt
  refine J_aload_n (pc' := 1) ok (dOf dX2_valueAt 0 rfl) rfl rfl rfl ?_
  refine J_aload_n (pc' := 2) ok (dOf dX2_valueAt 1 rfl) rfl rfl rfl ?_
  refine J_iload_n (pc' := 3) ok (dOf dX2_valueAt 2 rfl) rfl rfl rfl ?_
  refine J_callVi (k2 := kCuts_baseOf) (ci := 2) (T := TX2) (N := 7) (as := [.ref v1, .int v2]) (pc' := 6) ok (dOf dX2_valueAt 3 rfl) rfl (cw_Cuts_baseOf (by decide) (by decide)) wml_X2_71 winst_X2_baseOf wsel_X2_baseOf rfl ⟨Nat.le_refl 0, Nat.le_refl 0⟩ (Nat.le_of_ble_eq_true rfl) rfl (fun _ _ hf => t_Cuts_baseOf hf) (fun x2 h1 => ?_)
  refine J_istore (ls' := [some (.ref v0), some (.ref v1), some (.int v2), some (.int v3), some (.int x2), none]) (pc' := 8) ok (dOf dX2_valueAt 4 rfl) rfl (Nat.le_of_ble_eq_true rfl) rfl rfl ?_
  refine J_iconst (v := 0) (pc' := 9) ok (dOf dX2_valueAt 5 rfl) rfl (by decide) ?_
  refine J_istore (ls' := [some (.ref v0), some (.ref v1), some (.int v2), some (.int v3), some (.int x2), some (.int 0)]) (pc' := 11) ok (dOf dX2_valueAt 6 rfl) rfl (Nat.le_of_ble_eq_true rfl) rfl rfl ?_
  refine J_iter (lf := fun z11 => [some (.ref v0), some (.ref v1), some (.int v2), some (.int v3), some (.int z11.1), some (.int z11.2.1)]) (sf := fun _ => []) (hf := fun z11 => z11.2.2) (px := (fun q11 => 46)) (lx := (fun q11 => [some (.ref v0), some (.ref v1), some (.int v2), some (.int v3), some (.int q11.1), some (.int q11.2.1)])) (sx := (fun q11 => [])) (hx := (fun q11 => q11.2.2)) (fun Y2 z11 m1 m2 => Cuts_valueAt_b11_J ok v0 v1 v2 v3 m1 m2 z11) (fun q11 => ?_) Lmax _
  exact Cuts_valueAt_j46_J ok v0 v1 v2 v3 q11.1 q11.2.1 q11.2.2
-- X3_findAges
abbrev kEng_findAges : Cd := (yX3_findAges, cX3_findAges, 6, none, 2, 49)
theorem dX3_findAges : dcheck cX3_findAges [(0, .iconst 0, 1), (1, .istore_n 3, 1), (2, .iload_n 3, 1), (3, .aload_n 2, 1), (4, .getfield 94, 3), (7, .if_icmp .ge 86, 3), (10, .aload_n 2, 1), (11, .getfield 99, 3), (14, .iload_n 3, 1), (15, .iaload, 1), (16, .iconst 1, 1), (17, .if_icmp .ne 7, 3), (20, .iconst 0, 1), (21, .goto 14, 3), (24, .aload_n 0, 1), (25, .getfield 29, 3), (28, .aload_n 2, 1), (29, .getfield 102, 3), (32, .iload_n 3, 1), (33, .iaload, 1), (34, .iaload, 1), (35, .istore 4, 2), (37, .aload_n 2, 1), (38, .aload_n 1, 1), (39, .iload_n 3, 1), (40, .aload_n 0, 1), (41, .getfield 61, 3), (44, .invokevirtual 104, 3), (47, .iload 4, 2), (49, .if_icmp .ne 7, 3), (52, .iconst 1, 1), (53, .goto 4, 3), (56, .iconst 0, 1), (57, .istore 5, 2), (59, .aload_n 0, 1), (60, .getfield 36, 3), (63, .iload_n 3, 1), (64, .iload 5, 2), (66, .ifCond .eq 7, 3), (69, .iconst 0, 1), (70, .goto 16, 3), (73, .aload_n 2, 1), (74, .getfield 107, 3), (77, .iload_n 3, 1), (78, .iaload, 1), (79, .iconst 1, 1), (80, .iadd, 1), (81, .bipush 99, 2), (83, .invokestatic 108, 3), (86, .iastore, 1), (87, .iinc 3 1, 3), (90, .goto (-88), 3), (93, .return_, 1)] = true := by decide +kernel
theorem cw_Eng_findAges {k : Cd} (h1 : kEng_findAges.2.2.2.2.1 + 1 ≤ k.2.2.2.2.1) (h2 : 8 + (kEng_findAges.2.2.1 + 11) + kEng_findAges.2.2.2.2.2 ≤ k.2.2.2.2.2) : Cw k kEng_findAges 2 := ⟨wcode_X3_findAges, wini_SplitProgram_Engine, ⟨by decide, by decide, by decide +kernel⟩, h1, h2⟩
def Eng_findAges_j86 (v0 : Nat) (v1 : Nat) (v2 : Nat) (v3 : Int32) (v4 : Int32) (v5 : Int32) (t0 : Nat) (t1 : Int32) (t2 : Int32) (h : AHeap) : Option ((Int32 × AHeap) ⊕ ((Int32 × AHeap))) :=
  (ast 0 h t0 t1 t2).bind fun h14 => some (.inl (v3 + 1, h14))
theorem Eng_findAges_j86_J {E : JE} {l : Launch} {G : GX} {r : Option Value} {h' : AHeap} (ok : JOK E l G kEng_findAges 0 0 r h') (v0 : Nat) (v1 : Nat) (v2 : Nat) (v3 : Int32) (v4 : Int32) (v5 : Int32) (t0 : Nat) (t1 : Int32) (t2 : Int32) (h : AHeap) {Y : (Int32 × AHeap) ⊕ ((Int32 × AHeap)) → Prop} (k1 : ∀ s' : Int32 × AHeap, Y (.inl s') → JW E kEng_findAges 2 [some (.ref v0), some (.ref v1), some (.ref v2), some (.int s'.1), none, none] [] s'.2 0 0) (kx93 : ∀ q : Int32 × AHeap, Y (.inr q) → JW E kEng_findAges 93 [some (.ref v0), some (.ref v1), some (.ref v2), some (.int q.1), none, none] [] q.2 0 0) : J E kEng_findAges (Eng_findAges_j86 v0 v1 v2 v3 v4 v5 t0 t1 t2 h) Y 86 [some (.ref v0), some (.ref v1), some (.ref v2), some (.int v3), some (.int v4), some (.int v5)] [.int t2, .int t1, .ref t0] h 0 0 := by
  unfold Eng_findAges_j86
  refine J_iast (pc' := 87) ok (dOf dX3_findAges 49 rfl) rfl (fun h14 _ => ?_)
  refine J_iinc (v := v3 + 1) (ls' := [some (.ref v0), some (.ref v1), some (.ref v2), some (.int (v3 + 1)), some (.int v4), some (.int v5)]) (pc' := 90) ok (dOf dX3_findAges 50 rfl) rfl rfl (by rfl) (Nat.le_of_ble_eq_true rfl) rfl rfl ?_
  refine J_goto (tgt := 2) ok (dOf dX3_findAges 51 rfl) (by decide) ?_
  refine J_weak (ls' := [some (.ref v0), some (.ref v1), some (.ref v2), some (.int (v3 + 1)), none, none]) ⟨rfl, rfl, rfl, rfl, trivial⟩ ?_
  exact J_fin (k1 (v3 + 1, h14))
def Eng_findAges_j57 (v0 : Nat) (v1 : Nat) (v2 : Nat) (v3 : Int32) (v4 : Int32) (t0 : Int32) (h : AHeap) : Option ((Int32 × AHeap) ⊕ ((Int32 × AHeap))) :=
  (gfR h v0 3 5).bind fun a11 => (if t0 = 0 then (gfR h v2 2 4).bind fun a12 => (ald 0 h a12 v3).bind fun x13 => Eng_findAges_j86 v0 v1 v2 v3 v4 t0 a11 v3 (if 99 < (x13 + 1) then 99 else (x13 + 1)) h else Eng_findAges_j86 v0 v1 v2 v3 v4 t0 a11 v3 0 h)
theorem Eng_findAges_j57_J {E : JE} {l : Launch} {G : GX} {r : Option Value} {h' : AHeap} (ok : JOK E l G kEng_findAges 0 0 r h') (v0 : Nat) (v1 : Nat) (v2 : Nat) (v3 : Int32) (v4 : Int32) (t0 : Int32) (h : AHeap) {Y : (Int32 × AHeap) ⊕ ((Int32 × AHeap)) → Prop} (k1 : ∀ s' : Int32 × AHeap, Y (.inl s') → JW E kEng_findAges 2 [some (.ref v0), some (.ref v1), some (.ref v2), some (.int s'.1), none, none] [] s'.2 0 0) (kx93 : ∀ q : Int32 × AHeap, Y (.inr q) → JW E kEng_findAges 93 [some (.ref v0), some (.ref v1), some (.ref v2), some (.int q.1), none, none] [] q.2 0 0) : J E kEng_findAges (Eng_findAges_j57 v0 v1 v2 v3 v4 t0 h) Y 57 [some (.ref v0), some (.ref v1), some (.ref v2), some (.int v3), some (.int v4), none] [.int t0] h 0 0 := by
  unfold Eng_findAges_j57
  refine J_istore (ls' := [some (.ref v0), some (.ref v1), some (.ref v2), some (.int v3), some (.int v4), some (.int t0)]) (pc' := 59) ok (dOf dX3_findAges 33 rfl) rfl (Nat.le_of_ble_eq_true rfl) rfl rfl ?_
  refine J_aload_n (pc' := 60) ok (dOf dX3_findAges 34 rfl) rfl rfl rfl ?_
  refine J_getR (ci := 3) (kf := 5) (C := RX3) (T := TX3) (N := 12) (pc' := 63) ok (dOf dX3_findAges 35 rfl) rfl (by decide) rfl (by decide) win_3 wfl_X3_36 (fun a11 => ?_)
  refine J_iload_n (pc' := 64) ok (dOf dX3_findAges 36 rfl) rfl rfl rfl ?_
  refine J_iload (pc' := 66) ok (dOf dX3_findAges 37 rfl) rfl rfl ?_
  refine J_if_eq (tgt := 73) (pc' := 69) ok (dOf dX3_findAges 38 rfl) rfl (by decide) ?_ ?_
  · refine J_aload_n (pc' := 74) ok (dOf dX3_findAges 41 rfl) rfl rfl rfl ?_
    refine J_getR (ci := 2) (kf := 4) (C := RX2) (T := TX2) (N := 7) (pc' := 77) ok (dOf dX3_findAges 42 rfl) rfl (by decide) rfl (by decide) win_2 wfl_X3_107 (fun a12 => ?_)
    refine J_iload_n (pc' := 78) ok (dOf dX3_findAges 43 rfl) rfl rfl rfl ?_
    refine J_iald (pc' := 79) ok (dOf dX3_findAges 44 rfl) rfl (fun x13 => ?_)
    refine J_iconst (v := 1) (pc' := 80) ok (dOf dX3_findAges 45 rfl) rfl (by decide) ?_
    refine J_iadd (pc' := 81) ok (dOf dX3_findAges 46 rfl) rfl ?_
    refine J_bipush (v := 99) (pc' := 83) ok (dOf dX3_findAges 47 rfl) rfl (by decide) ?_
    refine J_mmin (pc' := 86) ok (dOf dX3_findAges 48 rfl) rfl wml_X3_108 wstat_J9_min_7cf53 wini_java_lang_Math wcode_J9_min_7cf53 (Nat.le_of_ble_eq_true rfl) (Nat.le_of_ble_eq_true rfl) (Nat.le_refl 0) (Nat.le_refl 0) ?_
    exact Eng_findAges_j86_J ok v0 v1 v2 v3 v4 t0 a11 v3 (if 99 < (x13 + 1) then 99 else (x13 + 1)) h k1 kx93
  · refine J_iconst (v := 0) (pc' := 70) ok (dOf dX3_findAges 39 rfl) rfl (by decide) ?_
    refine J_goto (tgt := 86) ok (dOf dX3_findAges 40 rfl) (by decide) ?_
    exact Eng_findAges_j86_J ok v0 v1 v2 v3 v4 t0 a11 v3 0 h k1 kx93
def Eng_findAges_j35 (v0 : Nat) (v1 : Nat) (v2 : Nat) (v3 : Int32) (t0 : Int32) (h : AHeap) : Option ((Int32 × AHeap) ⊕ ((Int32 × AHeap))) :=
  (gfI h v0 3 6).bind fun x8 => (chk h v2 2).bind fun _ => bnd2 (Cuts_valueAt v2 v1 v3 x8 h) fun x10 h9 => (if ¬ x10 = t0 then Eng_findAges_j57 v0 v1 v2 v3 t0 0 h9 else Eng_findAges_j57 v0 v1 v2 v3 t0 1 h9)
theorem Eng_findAges_j35_J {E : JE} {l : Launch} {G : GX} {r : Option Value} {h' : AHeap} (ok : JOK E l G kEng_findAges 0 0 r h') (v0 : Nat) (v1 : Nat) (v2 : Nat) (v3 : Int32) (t0 : Int32) (h : AHeap) {Y : (Int32 × AHeap) ⊕ ((Int32 × AHeap)) → Prop} (k1 : ∀ s' : Int32 × AHeap, Y (.inl s') → JW E kEng_findAges 2 [some (.ref v0), some (.ref v1), some (.ref v2), some (.int s'.1), none, none] [] s'.2 0 0) (kx93 : ∀ q : Int32 × AHeap, Y (.inr q) → JW E kEng_findAges 93 [some (.ref v0), some (.ref v1), some (.ref v2), some (.int q.1), none, none] [] q.2 0 0) : J E kEng_findAges (Eng_findAges_j35 v0 v1 v2 v3 t0 h) Y 35 [some (.ref v0), some (.ref v1), some (.ref v2), some (.int v3), none, none] [.int t0] h 0 0 := by
  unfold Eng_findAges_j35
  refine J_istore (ls' := [some (.ref v0), some (.ref v1), some (.ref v2), some (.int v3), some (.int t0), none]) (pc' := 37) ok (dOf dX3_findAges 21 rfl) rfl (Nat.le_of_ble_eq_true rfl) rfl rfl ?_
  refine J_aload_n (pc' := 38) ok (dOf dX3_findAges 22 rfl) rfl rfl rfl ?_
  refine J_aload_n (pc' := 39) ok (dOf dX3_findAges 23 rfl) rfl rfl rfl ?_
  refine J_iload_n (pc' := 40) ok (dOf dX3_findAges 24 rfl) rfl rfl rfl ?_
  refine J_aload_n (pc' := 41) ok (dOf dX3_findAges 25 rfl) rfl rfl rfl ?_
  refine J_getI (ci := 3) (kf := 6) (C := RX3) (T := TX3) (N := 12) (pc' := 44) ok (dOf dX3_findAges 26 rfl) rfl (by decide) rfl (by decide) win_3 wfl_X3_61 (fun x8 => ?_)
  refine J_callVi (k2 := kCuts_valueAt) (ci := 2) (T := TX2) (N := 7) (as := [.ref v1, .int v3, .int x8]) (pc' := 47) ok (dOf dX3_findAges 27 rfl) rfl (cw_Cuts_valueAt (by decide) (by decide)) wml_X3_104 winst_X2_valueAt wsel_X2_valueAt rfl ⟨Nat.le_refl 0, Nat.le_refl 0⟩ (Nat.le_of_ble_eq_true rfl) rfl (fun _ _ hf => t_Cuts_valueAt hf) (fun x10 h9 => ?_)
  refine J_iload (pc' := 49) ok (dOf dX3_findAges 28 rfl) rfl rfl ?_
  refine J_icmp_ne (tgt := 56) (pc' := 52) ok (dOf dX3_findAges 29 rfl) rfl (by decide) ?_ ?_
  · refine J_iconst (v := 0) (pc' := 57) ok (dOf dX3_findAges 32 rfl) rfl (by decide) ?_
    exact Eng_findAges_j57_J ok v0 v1 v2 v3 t0 0 h9 k1 kx93
  · refine J_iconst (v := 1) (pc' := 53) ok (dOf dX3_findAges 30 rfl) rfl (by decide) ?_
    refine J_goto (tgt := 57) ok (dOf dX3_findAges 31 rfl) (by decide) ?_
    exact Eng_findAges_j57_J ok v0 v1 v2 v3 t0 1 h9 k1 kx93
def Eng_findAges_b2 (v0 : Nat) (v1 : Nat) (v2 : Nat) (s : Int32 × AHeap) : Option ((Int32 × AHeap) ⊕ ((Int32 × AHeap))) :=
  (gfI s.2 v2 2 1).bind fun x1 => (if x1 ≤ s.1 then some (.inr (s.1, s.2)) else (gfR s.2 v2 2 3).bind fun a2 => (ald 0 s.2 a2 s.1).bind fun x3 => (if ¬ x3 = 1 then (gfR s.2 v0 3 3).bind fun a4 => (gfR s.2 v2 2 2).bind fun a5 => (ald 0 s.2 a5 s.1).bind fun x6 => (ald 0 s.2 a4 x6).bind fun x7 => Eng_findAges_j35 v0 v1 v2 s.1 x7 s.2 else Eng_findAges_j35 v0 v1 v2 s.1 0 s.2))
theorem Eng_findAges_b2_J {E : JE} {l : Launch} {G : GX} {r : Option Value} {h' : AHeap} (ok : JOK E l G kEng_findAges 0 0 r h') (v0 : Nat) (v1 : Nat) (v2 : Nat) {Y : (Int32 × AHeap) ⊕ ((Int32 × AHeap)) → Prop} (k1 : ∀ s' : Int32 × AHeap, Y (.inl s') → JW E kEng_findAges 2 [some (.ref v0), some (.ref v1), some (.ref v2), some (.int s'.1), none, none] [] s'.2 0 0) (kx93 : ∀ q : Int32 × AHeap, Y (.inr q) → JW E kEng_findAges 93 [some (.ref v0), some (.ref v1), some (.ref v2), some (.int q.1), none, none] [] q.2 0 0) (s : Int32 × AHeap) : J E kEng_findAges (Eng_findAges_b2 v0 v1 v2 s) Y 2 [some (.ref v0), some (.ref v1), some (.ref v2), some (.int s.1), none, none] [] s.2 0 0 := by
  unfold Eng_findAges_b2
  refine J_iload_n (pc' := 3) ok (dOf dX3_findAges 2 rfl) rfl rfl rfl ?_
  refine J_aload_n (pc' := 4) ok (dOf dX3_findAges 3 rfl) rfl rfl rfl ?_
  refine J_getI (ci := 2) (kf := 1) (C := RX2) (T := TX2) (N := 7) (pc' := 7) ok (dOf dX3_findAges 4 rfl) rfl (by decide) rfl (by decide) win_2 wfl_X3_94 (fun x1 => ?_)
  refine J_icmp_ge (tgt := 93) (pc' := 10) ok (dOf dX3_findAges 5 rfl) rfl (by decide) ?_ ?_
  · exact J_fin (kx93 (s.1, s.2))
  · refine J_aload_n (pc' := 11) ok (dOf dX3_findAges 6 rfl) rfl rfl rfl ?_
    refine J_getR (ci := 2) (kf := 3) (C := RX2) (T := TX2) (N := 7) (pc' := 14) ok (dOf dX3_findAges 7 rfl) rfl (by decide) rfl (by decide) win_2 wfl_X3_99 (fun a2 => ?_)
    refine J_iload_n (pc' := 15) ok (dOf dX3_findAges 8 rfl) rfl rfl rfl ?_
    refine J_iald (pc' := 16) ok (dOf dX3_findAges 9 rfl) rfl (fun x3 => ?_)
    refine J_iconst (v := 1) (pc' := 17) ok (dOf dX3_findAges 10 rfl) rfl (by decide) ?_
    refine J_icmp_ne (tgt := 24) (pc' := 20) ok (dOf dX3_findAges 11 rfl) rfl (by decide) ?_ ?_
    · refine J_aload_n (pc' := 25) ok (dOf dX3_findAges 14 rfl) rfl rfl rfl ?_
      refine J_getR (ci := 3) (kf := 3) (C := RX3) (T := TX3) (N := 12) (pc' := 28) ok (dOf dX3_findAges 15 rfl) rfl (by decide) rfl (by decide) win_3 wfl_X3_29 (fun a4 => ?_)
      refine J_aload_n (pc' := 29) ok (dOf dX3_findAges 16 rfl) rfl rfl rfl ?_
      refine J_getR (ci := 2) (kf := 2) (C := RX2) (T := TX2) (N := 7) (pc' := 32) ok (dOf dX3_findAges 17 rfl) rfl (by decide) rfl (by decide) win_2 wfl_X3_102 (fun a5 => ?_)
      refine J_iload_n (pc' := 33) ok (dOf dX3_findAges 18 rfl) rfl rfl rfl ?_
      refine J_iald (pc' := 34) ok (dOf dX3_findAges 19 rfl) rfl (fun x6 => ?_)
      refine J_iald (pc' := 35) ok (dOf dX3_findAges 20 rfl) rfl (fun x7 => ?_)
      exact Eng_findAges_j35_J ok v0 v1 v2 s.1 x7 s.2 k1 kx93
    · refine J_iconst (v := 0) (pc' := 21) ok (dOf dX3_findAges 12 rfl) rfl (by decide) ?_
      refine J_goto (tgt := 35) ok (dOf dX3_findAges 13 rfl) (by decide) ?_
      exact Eng_findAges_j35_J ok v0 v1 v2 s.1 0 s.2 k1 kx93
def Eng_findAges_j93 (v0 : Nat) (v1 : Nat) (v2 : Nat) (v3 : Int32) (h : AHeap) : Option (Unit × AHeap) :=
  some ((), h)
theorem Eng_findAges_j93_J {E : JE} {l : Launch} {G : GX} {h' : AHeap} (ok : JOK E l G kEng_findAges 0 0 none h') (v0 : Nat) (v1 : Nat) (v2 : Nat) (v3 : Int32) (h : AHeap) : J E kEng_findAges (Eng_findAges_j93 v0 v1 v2 v3 h) (fun z => z = ((), h')) 93 [some (.ref v0), some (.ref v1), some (.ref v2), some (.int v3), none, none] [] h 0 0 := by
  unfold Eng_findAges_j93
  exact J_vreturn ok (dOf dX3_findAges 52 rfl) rfl (Nat.le_refl 0) (Nat.le_refl 0)
def Eng_findAges (v0 : Nat) (v1 : Nat) (v2 : Nat) (h : AHeap) : Option (Unit × AHeap) :=
  (iter (Eng_findAges_b2 v0 v1 v2) Lmax (0, h)).bind (fun q2 => Eng_findAges_j93 v0 v1 v2 q2.1 q2.2)
theorem t_Eng_findAges {l : Launch} {G : GX} {v0 : Nat} {v1 : Nat} {v2 : Nat} {h : AHeap} {h1 : AHeap} (hf : Eng_findAges v0 v1 v2 h = some ((), h1)) : CT l G kEng_findAges 0 0 [.ref v0, .ref v1, .ref v2] h none h1 := by
  refine CT_of (ls := [some (.ref v0), some (.ref v1), some (.ref v2), none, none, none]) (Z := fun z => z = ((), h1)) (by decide +kernel) (Nat.le_of_ble_eq_true rfl) hf rfl ⟨rfl, rfl, rfl, trivial⟩ (fun E ok => ?_)
  unfold Eng_findAges
  refine J_iconst (v := 0) (pc' := 1) ok (dOf dX3_findAges 0 rfl) rfl (by decide) ?_
  refine J_istore_n (ls' := [some (.ref v0), some (.ref v1), some (.ref v2), some (.int 0), none, none]) (pc' := 2) ok (dOf dX3_findAges 1 rfl) rfl rfl (Nat.le_of_ble_eq_true rfl) rfl rfl ?_
  refine J_iter (lf := fun z2 => [some (.ref v0), some (.ref v1), some (.ref v2), some (.int z2.1), none, none]) (sf := fun _ => []) (hf := fun z2 => z2.2) (px := (fun q2 => 93)) (lx := (fun q2 => [some (.ref v0), some (.ref v1), some (.ref v2), some (.int q2.1), none, none])) (sx := (fun q2 => [])) (hx := (fun q2 => q2.2)) (fun Y2 z2 m1 m2 => Eng_findAges_b2_J ok v0 v1 v2 m1 m2 z2) (fun q2 => ?_) Lmax _
  exact Eng_findAges_j93_J ok v0 v1 v2 q2.1 q2.2
-- X3_masterTotal
abbrev kEng_masterTotal : Cd := (yX3_masterTotal, cX3_masterTotal, 4, (some .int), 2, 44)
theorem dX3_masterTotal : dcheck cX3_masterTotal [(0, .aload_n 1, 1), (1, .aload_n 0, 1), (2, .getfield 61, 3), (5, .invokevirtual 136, 3), (8, .istore_n 2, 1), (9, .iconst 0, 1), (10, .istore_n 3, 1), (11, .iload_n 3, 1), (12, .aload_n 1, 1), (13, .getfield 65, 3), (16, .if_icmp .ge 37, 3), (19, .aload_n 0, 1), (20, .getfield 25, 3), (23, .iload_n 3, 1), (24, .iaload, 1), (25, .iconst (-1), 1), (26, .if_icmp .ne 5, 3), (29, .iconst (-1), 1), (30, .ireturn, 1), (31, .iload_n 2, 1), (32, .aload_n 1, 1), (33, .getfield 139, 3), (36, .iload_n 3, 1), (37, .iaload, 1), (38, .aload_n 0, 1), (39, .getfield 25, 3), (42, .iload_n 3, 1), (43, .iaload, 1), (44, .imul, 1), (45, .iadd, 1), (46, .istore_n 2, 1), (47, .iinc 3 1, 3), (50, .goto (-39), 3), (53, .iload_n 2, 1), (54, .ireturn, 1)] = true := by decide +kernel
theorem cw_Eng_masterTotal {k : Cd} (h1 : kEng_masterTotal.2.2.2.2.1 + 1 ≤ k.2.2.2.2.1) (h2 : 8 + (kEng_masterTotal.2.2.1 + 11) + kEng_masterTotal.2.2.2.2.2 ≤ k.2.2.2.2.2) : Cw k kEng_masterTotal 1 := ⟨wcode_X3_masterTotal, wini_SplitProgram_Engine, ⟨by decide, by decide, by decide +kernel⟩, h1, h2⟩
def Eng_masterTotal_b11 (v0 : Nat) (v1 : Nat) (h : AHeap) (s : Int32 × Int32) : Option ((Int32 × Int32) ⊕ ((Int32 × Int32) ⊕ (Int32 × Int32))) :=
  (gfI h v1 6 2).bind fun x4 => (if x4 ≤ s.2 then some (.inr (.inr (s.1, s.2))) else (gfR h v0 3 2).bind fun a5 => (ald 0 h a5 s.2).bind fun x6 => (if ¬ x6 = (-1) then (gfR h v1 6 7).bind fun a7 => (ald 0 h a7 s.2).bind fun x8 => (gfR h v0 3 2).bind fun a9 => (ald 0 h a9 s.2).bind fun x10 => some (.inl (s.1 + (x8 * x10), s.2 + 1)) else some (.inr (.inl (s.1, s.2)))))
theorem Eng_masterTotal_b11_J {E : JE} {l : Launch} {G : GX} {r : Option Value} {h' : AHeap} (ok : JOK E l G kEng_masterTotal 0 0 r h') (v0 : Nat) (v1 : Nat) (h : AHeap) {Y : (Int32 × Int32) ⊕ ((Int32 × Int32) ⊕ (Int32 × Int32)) → Prop} (k1 : ∀ s' : Int32 × Int32, Y (.inl s') → JW E kEng_masterTotal 11 [some (.ref v0), some (.ref v1), some (.int s'.1), some (.int s'.2)] [] h 0 0) (kx29 : ∀ q : Int32 × Int32, Y (.inr (.inl q)) → JW E kEng_masterTotal 29 [some (.ref v0), some (.ref v1), some (.int q.1), some (.int q.2)] [] h 0 0) (kx53 : ∀ q : Int32 × Int32, Y (.inr (.inr q)) → JW E kEng_masterTotal 53 [some (.ref v0), some (.ref v1), some (.int q.1), some (.int q.2)] [] h 0 0) (s : Int32 × Int32) : J E kEng_masterTotal (Eng_masterTotal_b11 v0 v1 h s) Y 11 [some (.ref v0), some (.ref v1), some (.int s.1), some (.int s.2)] [] h 0 0 := by
  unfold Eng_masterTotal_b11
  refine J_iload_n (pc' := 12) ok (dOf dX3_masterTotal 7 rfl) rfl rfl rfl ?_
  refine J_aload_n (pc' := 13) ok (dOf dX3_masterTotal 8 rfl) rfl rfl rfl ?_
  refine J_getI (ci := 6) (kf := 2) (C := RX6) (T := TX6) (N := 9) (pc' := 16) ok (dOf dX3_masterTotal 9 rfl) rfl (by decide) rfl (by decide) win_6 wfl_X3_65 (fun x4 => ?_)
  refine J_icmp_ge (tgt := 53) (pc' := 19) ok (dOf dX3_masterTotal 10 rfl) rfl (by decide) ?_ ?_
  · exact J_fin (kx53 (s.1, s.2))
  · refine J_aload_n (pc' := 20) ok (dOf dX3_masterTotal 11 rfl) rfl rfl rfl ?_
    refine J_getR (ci := 3) (kf := 2) (C := RX3) (T := TX3) (N := 12) (pc' := 23) ok (dOf dX3_masterTotal 12 rfl) rfl (by decide) rfl (by decide) win_3 wfl_X3_25 (fun a5 => ?_)
    refine J_iload_n (pc' := 24) ok (dOf dX3_masterTotal 13 rfl) rfl rfl rfl ?_
    refine J_iald (pc' := 25) ok (dOf dX3_masterTotal 14 rfl) rfl (fun x6 => ?_)
    refine J_iconst (v := (-1)) (pc' := 26) ok (dOf dX3_masterTotal 15 rfl) rfl (by decide) ?_
    refine J_icmp_ne (tgt := 31) (pc' := 29) ok (dOf dX3_masterTotal 16 rfl) rfl (by decide) ?_ ?_
    · refine J_iload_n (pc' := 32) ok (dOf dX3_masterTotal 19 rfl) rfl rfl rfl ?_
      refine J_aload_n (pc' := 33) ok (dOf dX3_masterTotal 20 rfl) rfl rfl rfl ?_
      refine J_getR (ci := 6) (kf := 7) (C := RX6) (T := TX6) (N := 9) (pc' := 36) ok (dOf dX3_masterTotal 21 rfl) rfl (by decide) rfl (by decide) win_6 wfl_X3_139 (fun a7 => ?_)
      refine J_iload_n (pc' := 37) ok (dOf dX3_masterTotal 22 rfl) rfl rfl rfl ?_
      refine J_iald (pc' := 38) ok (dOf dX3_masterTotal 23 rfl) rfl (fun x8 => ?_)
      refine J_aload_n (pc' := 39) ok (dOf dX3_masterTotal 24 rfl) rfl rfl rfl ?_
      refine J_getR (ci := 3) (kf := 2) (C := RX3) (T := TX3) (N := 12) (pc' := 42) ok (dOf dX3_masterTotal 25 rfl) rfl (by decide) rfl (by decide) win_3 wfl_X3_25 (fun a9 => ?_)
      refine J_iload_n (pc' := 43) ok (dOf dX3_masterTotal 26 rfl) rfl rfl rfl ?_
      refine J_iald (pc' := 44) ok (dOf dX3_masterTotal 27 rfl) rfl (fun x10 => ?_)
      refine J_imul (pc' := 45) ok (dOf dX3_masterTotal 28 rfl) rfl ?_
      refine J_iadd (pc' := 46) ok (dOf dX3_masterTotal 29 rfl) rfl ?_
      refine J_istore_n (ls' := [some (.ref v0), some (.ref v1), some (.int (s.1 + (x8 * x10))), some (.int s.2)]) (pc' := 47) ok (dOf dX3_masterTotal 30 rfl) rfl rfl (Nat.le_of_ble_eq_true rfl) rfl rfl ?_
      refine J_iinc (v := s.2 + 1) (ls' := [some (.ref v0), some (.ref v1), some (.int (s.1 + (x8 * x10))), some (.int (s.2 + 1))]) (pc' := 50) ok (dOf dX3_masterTotal 31 rfl) rfl rfl (by rfl) (Nat.le_of_ble_eq_true rfl) rfl rfl ?_
      refine J_goto (tgt := 11) ok (dOf dX3_masterTotal 32 rfl) (by decide) ?_
      exact J_fin (k1 (s.1 + (x8 * x10), s.2 + 1))
    · exact J_fin (kx29 (s.1, s.2))
def Eng_masterTotal_j29 (v0 : Nat) (v1 : Nat) (v2 : Int32) (v3 : Int32) (h : AHeap) : Option (Int32 × AHeap) :=
  some ((-1), h)
theorem Eng_masterTotal_j29_J {E : JE} {l : Launch} {G : GX} {v : Int32} {h' : AHeap} (ok : JOK E l G kEng_masterTotal 0 0 (some (.int v)) h') (v0 : Nat) (v1 : Nat) (v2 : Int32) (v3 : Int32) (h : AHeap) : J E kEng_masterTotal (Eng_masterTotal_j29 v0 v1 v2 v3 h) (fun z => z = (v, h')) 29 [some (.ref v0), some (.ref v1), some (.int v2), some (.int v3)] [] h 0 0 := by
  unfold Eng_masterTotal_j29
  refine J_iconst (v := (-1)) (pc' := 30) ok (dOf dX3_masterTotal 17 rfl) rfl (by decide) ?_
  exact J_ireturn ok (dOf dX3_masterTotal 18 rfl) rfl (Nat.le_refl 0) (Nat.le_refl 0)
def Eng_masterTotal_j53 (v0 : Nat) (v1 : Nat) (v2 : Int32) (v3 : Int32) (h : AHeap) : Option (Int32 × AHeap) :=
  some (v2, h)
theorem Eng_masterTotal_j53_J {E : JE} {l : Launch} {G : GX} {v : Int32} {h' : AHeap} (ok : JOK E l G kEng_masterTotal 0 0 (some (.int v)) h') (v0 : Nat) (v1 : Nat) (v2 : Int32) (v3 : Int32) (h : AHeap) : J E kEng_masterTotal (Eng_masterTotal_j53 v0 v1 v2 v3 h) (fun z => z = (v, h')) 53 [some (.ref v0), some (.ref v1), some (.int v2), some (.int v3)] [] h 0 0 := by
  unfold Eng_masterTotal_j53
  refine J_iload_n (pc' := 54) ok (dOf dX3_masterTotal 33 rfl) rfl rfl rfl ?_
  exact J_ireturn ok (dOf dX3_masterTotal 34 rfl) rfl (Nat.le_refl 0) (Nat.le_refl 0)
def Eng_masterTotal (v0 : Nat) (v1 : Nat) (h : AHeap) : Option (Int32 × AHeap) :=
  (gfI h v0 3 6).bind fun x1 => (chk h v1 6).bind fun _ => bnd2 (Prog_feesOf v1 x1 h) fun x3 h2 => (iter (Eng_masterTotal_b11 v0 v1 h2) Lmax (x3, 0)).bind (Sum.elim (fun q11 => Eng_masterTotal_j29 v0 v1 q11.1 q11.2 h2) (fun q11 => Eng_masterTotal_j53 v0 v1 q11.1 q11.2 h2))
theorem t_Eng_masterTotal {l : Launch} {G : GX} {v0 : Nat} {v1 : Nat} {h : AHeap} {v : Int32} {h1 : AHeap} (hf : Eng_masterTotal v0 v1 h = some (v, h1)) : CT l G kEng_masterTotal 0 0 [.ref v0, .ref v1] h (some (.int v)) h1 := by
  refine CT_of (ls := [some (.ref v0), some (.ref v1), none, none]) (Z := fun z => z = (v, h1)) (by decide +kernel) (Nat.le_of_ble_eq_true rfl) hf rfl ⟨rfl, rfl, trivial⟩ (fun E ok => ?_)
  unfold Eng_masterTotal
  refine J_aload_n (pc' := 1) ok (dOf dX3_masterTotal 0 rfl) rfl rfl rfl ?_
  refine J_aload_n (pc' := 2) ok (dOf dX3_masterTotal 1 rfl) rfl rfl rfl ?_
  refine J_getI (ci := 3) (kf := 6) (C := RX3) (T := TX3) (N := 12) (pc' := 5) ok (dOf dX3_masterTotal 2 rfl) rfl (by decide) rfl (by decide) win_3 wfl_X3_61 (fun x1 => ?_)
  refine J_callVi (k2 := kProg_feesOf) (ci := 6) (T := TX6) (N := 9) (as := [.int x1]) (pc' := 8) ok (dOf dX3_masterTotal 3 rfl) rfl (cw_Prog_feesOf (by decide) (by decide)) wml_X3_136 winst_X6_feesOf wsel_X6_feesOf rfl ⟨Nat.le_refl 0, Nat.le_refl 0⟩ (Nat.le_of_ble_eq_true rfl) rfl (fun _ _ hf => t_Prog_feesOf hf) (fun x3 h2 => ?_)
  refine J_istore_n (ls' := [some (.ref v0), some (.ref v1), some (.int x3), none]) (pc' := 9) ok (dOf dX3_masterTotal 4 rfl) rfl rfl (Nat.le_of_ble_eq_true rfl) rfl rfl ?_
  refine J_iconst (v := 0) (pc' := 10) ok (dOf dX3_masterTotal 5 rfl) rfl (by decide) ?_
  refine J_istore_n (ls' := [some (.ref v0), some (.ref v1), some (.int x3), some (.int 0)]) (pc' := 11) ok (dOf dX3_masterTotal 6 rfl) rfl rfl (Nat.le_of_ble_eq_true rfl) rfl rfl ?_
  refine J_iter (lf := fun z11 => [some (.ref v0), some (.ref v1), some (.int z11.1), some (.int z11.2)]) (sf := fun _ => []) (hf := fun z11 => h2) (px := (Sum.elim (fun q11 => 29) (fun q11 => 53))) (lx := (Sum.elim (fun q11 => [some (.ref v0), some (.ref v1), some (.int q11.1), some (.int q11.2)]) (fun q11 => [some (.ref v0), some (.ref v1), some (.int q11.1), some (.int q11.2)]))) (sx := (Sum.elim (fun q11 => []) (fun q11 => []))) (hx := (Sum.elim (fun q11 => h2) (fun q11 => h2))) (fun Y2 z11 m1 m2 => Eng_masterTotal_b11_J ok v0 v1 h2 m1 (fun q hq => m2 (.inl q) hq) (fun q hq => m2 (.inr q) hq) z11) (fun q11 => ?_) Lmax _
  rcases q11 with q11 | q11
  · show J E kEng_masterTotal (Eng_masterTotal_j29 v0 v1 q11.1 q11.2 h2) _ 29 [some (.ref v0), some (.ref v1), some (.int q11.1), some (.int q11.2)] [] h2 0 0
    exact Eng_masterTotal_j29_J ok v0 v1 q11.1 q11.2 h2
  · show J E kEng_masterTotal (Eng_masterTotal_j53 v0 v1 q11.1 q11.2 h2) _ 53 [some (.ref v0), some (.ref v1), some (.int q11.1), some (.int q11.2)] [] h2 0 0
    exact Eng_masterTotal_j53_J ok v0 v1 q11.1 q11.2 h2
-- X3_moveBounds
abbrev kEng_moveBounds : Cd := (yX3_moveBounds, cX3_moveBounds, 6, none, 3, 68)
theorem dX3_moveBounds : dcheck cX3_moveBounds [(0, .aload_n 0, 1), (1, .getfield 21, 3), (4, .aload_n 1, 1), (5, .aload_n 0, 1), (6, .getfield 61, 3), (9, .invokevirtual 114, 3), (12, .istore_n 3, 1), (13, .aload_n 0, 1), (14, .aload_n 2, 1), (15, .getfield 117, 3), (18, .iconst (-1), 1), (19, .if_icmp .eq 11, 3), (22, .iload_n 3, 1), (23, .aload_n 2, 1), (24, .getfield 117, 3), (27, .if_icmp .le 7, 3), (30, .iconst 1, 1), (31, .goto 4, 3), (34, .iconst 0, 1), (35, .putfield 120, 3), (38, .aload_n 0, 1), (39, .aload_n 0, 1), (40, .getfield 120, 3), (43, .ifCond .eq 7, 3), (46, .iload_n 3, 1), (47, .goto 7, 3), (50, .aload_n 2, 1), (51, .getfield 117, 3), (54, .putfield 124, 3), (57, .aload_n 0, 1), (58, .aload_n 1, 1), (59, .invokevirtual 125, 3), (62, .istore 4, 2), (64, .iload 4, 2), (66, .iconst (-1), 1), (67, .if_icmp .eq 24, 3), (70, .aload_n 2, 1), (71, .getfield 128, 3), (74, .iconst (-1), 1), (75, .if_icmp .eq 12, 3), (78, .iload 4, 2), (80, .aload_n 2, 1), (81, .getfield 128, 3), (84, .if_icmp .ge 7, 3), (87, .iconst 1, 1), (88, .goto 4, 3), (91, .iconst 0, 1), (92, .istore 5, 2), (94, .aload_n 0, 1), (95, .iload 5, 2), (97, .ifCond .eq 8, 3), (100, .iload 4, 2), (102, .goto 7, 3), (105, .aload_n 2, 1), (106, .getfield 128, 3), (109, .putfield 131, 3), (112, .aload_n 0, 1), (113, .iload 5, 2), (115, .ifCond .eq 10, 3), (118, .aload_n 0, 1), (119, .getfield 61, 3), (122, .goto 7, 3), (125, .aload_n 2, 1), (126, .getfield 132, 3), (129, .putfield 135, 3), (132, .return_, 1)] = true := by decide +kernel
theorem cw_Eng_moveBounds {k : Cd} (h1 : kEng_moveBounds.2.2.2.2.1 + 1 ≤ k.2.2.2.2.1) (h2 : 8 + (kEng_moveBounds.2.2.1 + 11) + kEng_moveBounds.2.2.2.2.2 ≤ k.2.2.2.2.2) : Cw k kEng_moveBounds 2 := ⟨wcode_X3_moveBounds, wini_SplitProgram_Engine, ⟨by decide, by decide, by decide +kernel⟩, h1, h2⟩
def Eng_moveBounds_j129 (v0 : Nat) (v1 : Nat) (v2 : Nat) (v3 : Int32) (v4 : Int32) (v5 : Int32) (t0 : Nat) (t1 : Int32) (h : AHeap) : Option (Unit × AHeap) :=
  (pfV h t0 3 10 (.int t1)).bind fun h16 => some ((), h16)
theorem Eng_moveBounds_j129_J {E : JE} {l : Launch} {G : GX} {h' : AHeap} (ok : JOK E l G kEng_moveBounds 0 0 none h') (v0 : Nat) (v1 : Nat) (v2 : Nat) (v3 : Int32) (v4 : Int32) (v5 : Int32) (t0 : Nat) (t1 : Int32) (h : AHeap) : J E kEng_moveBounds (Eng_moveBounds_j129 v0 v1 v2 v3 v4 v5 t0 t1 h) (fun z => z = ((), h')) 129 [some (.ref v0), some (.ref v1), some (.ref v2), some (.int v3), some (.int v4), some (.int v5)] [.int t1, .ref t0] h 0 0 := by
  unfold Eng_moveBounds_j129
  refine J_putI (ci := 3) (kf := 10) (C := RX3) (T := TX3) (N := 12) (pc' := 132) ok tyX3 (dOf dX3_moveBounds 64 rfl) rfl rfl (by decide) win_3 tyX3_ok nmX3 rfl rfl wfl_X3_135 (fun h16 _ => ?_)
  exact J_vreturn ok (dOf dX3_moveBounds 65 rfl) rfl (Nat.le_refl 0) (Nat.le_refl 0)
def Eng_moveBounds_j109 (v0 : Nat) (v1 : Nat) (v2 : Nat) (v3 : Int32) (v4 : Int32) (v5 : Int32) (t0 : Nat) (t1 : Int32) (h : AHeap) : Option (Unit × AHeap) :=
  (pfV h t0 3 9 (.int t1)).bind fun h14 => (if v5 = 0 then (gfI h14 v2 7 3).bind fun x15 => Eng_moveBounds_j129 v0 v1 v2 v3 v4 v5 v0 x15 h14 else (gfI h14 v0 3 6).bind fun x17 => Eng_moveBounds_j129 v0 v1 v2 v3 v4 v5 v0 x17 h14)
theorem Eng_moveBounds_j109_J {E : JE} {l : Launch} {G : GX} {h' : AHeap} (ok : JOK E l G kEng_moveBounds 0 0 none h') (v0 : Nat) (v1 : Nat) (v2 : Nat) (v3 : Int32) (v4 : Int32) (v5 : Int32) (t0 : Nat) (t1 : Int32) (h : AHeap) : J E kEng_moveBounds (Eng_moveBounds_j109 v0 v1 v2 v3 v4 v5 t0 t1 h) (fun z => z = ((), h')) 109 [some (.ref v0), some (.ref v1), some (.ref v2), some (.int v3), some (.int v4), some (.int v5)] [.int t1, .ref t0] h 0 0 := by
  unfold Eng_moveBounds_j109
  refine J_putI (ci := 3) (kf := 9) (C := RX3) (T := TX3) (N := 12) (pc' := 112) ok tyX3 (dOf dX3_moveBounds 55 rfl) rfl rfl (by decide) win_3 tyX3_ok nmX3 rfl rfl wfl_X3_131 (fun h14 _ => ?_)
  refine J_aload_n (pc' := 113) ok (dOf dX3_moveBounds 56 rfl) rfl rfl rfl ?_
  refine J_iload (pc' := 115) ok (dOf dX3_moveBounds 57 rfl) rfl rfl ?_
  refine J_if_eq (tgt := 125) (pc' := 118) ok (dOf dX3_moveBounds 58 rfl) rfl (by decide) ?_ ?_
  · refine J_aload_n (pc' := 126) ok (dOf dX3_moveBounds 62 rfl) rfl rfl rfl ?_
    refine J_getI (ci := 7) (kf := 3) (C := RX7) (T := TX7) (N := 7) (pc' := 129) ok (dOf dX3_moveBounds 63 rfl) rfl (by decide) rfl (by decide) win_7 wfl_X3_132 (fun x15 => ?_)
    exact Eng_moveBounds_j129_J ok v0 v1 v2 v3 v4 v5 v0 x15 h14
  · refine J_aload_n (pc' := 119) ok (dOf dX3_moveBounds 59 rfl) rfl rfl rfl ?_
    refine J_getI (ci := 3) (kf := 6) (C := RX3) (T := TX3) (N := 12) (pc' := 122) ok (dOf dX3_moveBounds 60 rfl) rfl (by decide) rfl (by decide) win_3 wfl_X3_61 (fun x17 => ?_)
    refine J_goto (tgt := 129) ok (dOf dX3_moveBounds 61 rfl) (by decide) ?_
    exact Eng_moveBounds_j129_J ok v0 v1 v2 v3 v4 v5 v0 x17 h14
def Eng_moveBounds_j92 (v0 : Nat) (v1 : Nat) (v2 : Nat) (v3 : Int32) (v4 : Int32) (t0 : Int32) (h : AHeap) : Option (Unit × AHeap) :=
  (if t0 = 0 then (gfI h v2 7 2).bind fun x13 => Eng_moveBounds_j109 v0 v1 v2 v3 v4 t0 v0 x13 h else Eng_moveBounds_j109 v0 v1 v2 v3 v4 t0 v0 v4 h)
theorem Eng_moveBounds_j92_J {E : JE} {l : Launch} {G : GX} {h' : AHeap} (ok : JOK E l G kEng_moveBounds 0 0 none h') (v0 : Nat) (v1 : Nat) (v2 : Nat) (v3 : Int32) (v4 : Int32) (t0 : Int32) (h : AHeap) : J E kEng_moveBounds (Eng_moveBounds_j92 v0 v1 v2 v3 v4 t0 h) (fun z => z = ((), h')) 92 [some (.ref v0), some (.ref v1), some (.ref v2), some (.int v3), some (.int v4), none] [.int t0] h 0 0 := by
  unfold Eng_moveBounds_j92
  refine J_istore (ls' := [some (.ref v0), some (.ref v1), some (.ref v2), some (.int v3), some (.int v4), some (.int t0)]) (pc' := 94) ok (dOf dX3_moveBounds 47 rfl) rfl (Nat.le_of_ble_eq_true rfl) rfl rfl ?_
  refine J_aload_n (pc' := 95) ok (dOf dX3_moveBounds 48 rfl) rfl rfl rfl ?_
  refine J_iload (pc' := 97) ok (dOf dX3_moveBounds 49 rfl) rfl rfl ?_
  refine J_if_eq (tgt := 105) (pc' := 100) ok (dOf dX3_moveBounds 50 rfl) rfl (by decide) ?_ ?_
  · refine J_aload_n (pc' := 106) ok (dOf dX3_moveBounds 53 rfl) rfl rfl rfl ?_
    refine J_getI (ci := 7) (kf := 2) (C := RX7) (T := TX7) (N := 7) (pc' := 109) ok (dOf dX3_moveBounds 54 rfl) rfl (by decide) rfl (by decide) win_7 wfl_X3_128 (fun x13 => ?_)
    exact Eng_moveBounds_j109_J ok v0 v1 v2 v3 v4 t0 v0 x13 h
  · refine J_iload (pc' := 102) ok (dOf dX3_moveBounds 51 rfl) rfl rfl ?_
    refine J_goto (tgt := 109) ok (dOf dX3_moveBounds 52 rfl) (by decide) ?_
    exact Eng_moveBounds_j109_J ok v0 v1 v2 v3 v4 t0 v0 v4 h
def Eng_moveBounds_j91 (v0 : Nat) (v1 : Nat) (v2 : Nat) (v3 : Int32) (v4 : Int32) (h : AHeap) : Option (Unit × AHeap) :=
  Eng_moveBounds_j92 v0 v1 v2 v3 v4 0 h
theorem Eng_moveBounds_j91_J {E : JE} {l : Launch} {G : GX} {h' : AHeap} (ok : JOK E l G kEng_moveBounds 0 0 none h') (v0 : Nat) (v1 : Nat) (v2 : Nat) (v3 : Int32) (v4 : Int32) (h : AHeap) : J E kEng_moveBounds (Eng_moveBounds_j91 v0 v1 v2 v3 v4 h) (fun z => z = ((), h')) 91 [some (.ref v0), some (.ref v1), some (.ref v2), some (.int v3), some (.int v4), none] [] h 0 0 := by
  unfold Eng_moveBounds_j91
  refine J_iconst (v := 0) (pc' := 92) ok (dOf dX3_moveBounds 46 rfl) rfl (by decide) ?_
  exact Eng_moveBounds_j92_J ok v0 v1 v2 v3 v4 0 h
def Eng_moveBounds_j87 (v0 : Nat) (v1 : Nat) (v2 : Nat) (v3 : Int32) (v4 : Int32) (h : AHeap) : Option (Unit × AHeap) :=
  Eng_moveBounds_j92 v0 v1 v2 v3 v4 1 h
theorem Eng_moveBounds_j87_J {E : JE} {l : Launch} {G : GX} {h' : AHeap} (ok : JOK E l G kEng_moveBounds 0 0 none h') (v0 : Nat) (v1 : Nat) (v2 : Nat) (v3 : Int32) (v4 : Int32) (h : AHeap) : J E kEng_moveBounds (Eng_moveBounds_j87 v0 v1 v2 v3 v4 h) (fun z => z = ((), h')) 87 [some (.ref v0), some (.ref v1), some (.ref v2), some (.int v3), some (.int v4), none] [] h 0 0 := by
  unfold Eng_moveBounds_j87
  refine J_iconst (v := 1) (pc' := 88) ok (dOf dX3_moveBounds 44 rfl) rfl (by decide) ?_
  refine J_goto (tgt := 92) ok (dOf dX3_moveBounds 45 rfl) (by decide) ?_
  exact Eng_moveBounds_j92_J ok v0 v1 v2 v3 v4 1 h
def Eng_moveBounds_j54 (v0 : Nat) (v1 : Nat) (v2 : Nat) (v3 : Int32) (t0 : Nat) (t1 : Int32) (h : AHeap) : Option (Unit × AHeap) :=
  (pfV h t0 3 8 (.int t1)).bind fun h10 => (chk h10 v0 3).bind fun _ => bnd2 (Eng_masterTotal v0 v1 h10) fun x12 h11 => (if x12 = (-1) then Eng_moveBounds_j91 v0 v1 v2 v3 x12 h11 else (gfI h11 v2 7 2).bind fun x18 => (if x18 = (-1) then Eng_moveBounds_j87 v0 v1 v2 v3 x12 h11 else (gfI h11 v2 7 2).bind fun x19 => (if x19 ≤ x12 then Eng_moveBounds_j91 v0 v1 v2 v3 x12 h11 else Eng_moveBounds_j87 v0 v1 v2 v3 x12 h11)))
theorem Eng_moveBounds_j54_J {E : JE} {l : Launch} {G : GX} {h' : AHeap} (ok : JOK E l G kEng_moveBounds 0 0 none h') (v0 : Nat) (v1 : Nat) (v2 : Nat) (v3 : Int32) (t0 : Nat) (t1 : Int32) (h : AHeap) : J E kEng_moveBounds (Eng_moveBounds_j54 v0 v1 v2 v3 t0 t1 h) (fun z => z = ((), h')) 54 [some (.ref v0), some (.ref v1), some (.ref v2), some (.int v3), none, none] [.int t1, .ref t0] h 0 0 := by
  unfold Eng_moveBounds_j54
  refine J_putI (ci := 3) (kf := 8) (C := RX3) (T := TX3) (N := 12) (pc' := 57) ok tyX3 (dOf dX3_moveBounds 28 rfl) rfl rfl (by decide) win_3 tyX3_ok nmX3 rfl rfl wfl_X3_124 (fun h10 _ => ?_)
  refine J_aload_n (pc' := 58) ok (dOf dX3_moveBounds 29 rfl) rfl rfl rfl ?_
  refine J_aload_n (pc' := 59) ok (dOf dX3_moveBounds 30 rfl) rfl rfl rfl ?_
  refine J_callVi (k2 := kEng_masterTotal) (ci := 3) (T := TX3) (N := 12) (as := [.ref v1]) (pc' := 62) ok (dOf dX3_moveBounds 31 rfl) rfl (cw_Eng_masterTotal (by decide) (by decide)) wml_X3_125 winst_X3_masterTotal wsel_X3_masterTotal rfl ⟨Nat.le_refl 0, Nat.le_refl 0⟩ (Nat.le_of_ble_eq_true rfl) rfl (fun _ _ hf => t_Eng_masterTotal hf) (fun x12 h11 => ?_)
  refine J_istore (ls' := [some (.ref v0), some (.ref v1), some (.ref v2), some (.int v3), some (.int x12), none]) (pc' := 64) ok (dOf dX3_moveBounds 32 rfl) rfl (Nat.le_of_ble_eq_true rfl) rfl rfl ?_
  refine J_iload (pc' := 66) ok (dOf dX3_moveBounds 33 rfl) rfl rfl ?_
  refine J_iconst (v := (-1)) (pc' := 67) ok (dOf dX3_moveBounds 34 rfl) rfl (by decide) ?_
  refine J_icmp_eq (tgt := 91) (pc' := 70) ok (dOf dX3_moveBounds 35 rfl) rfl (by decide) ?_ ?_
  · exact Eng_moveBounds_j91_J ok v0 v1 v2 v3 x12 h11
  · refine J_aload_n (pc' := 71) ok (dOf dX3_moveBounds 36 rfl) rfl rfl rfl ?_
    refine J_getI (ci := 7) (kf := 2) (C := RX7) (T := TX7) (N := 7) (pc' := 74) ok (dOf dX3_moveBounds 37 rfl) rfl (by decide) rfl (by decide) win_7 wfl_X3_128 (fun x18 => ?_)
    refine J_iconst (v := (-1)) (pc' := 75) ok (dOf dX3_moveBounds 38 rfl) rfl (by decide) ?_
    refine J_icmp_eq (tgt := 87) (pc' := 78) ok (dOf dX3_moveBounds 39 rfl) rfl (by decide) ?_ ?_
    · exact Eng_moveBounds_j87_J ok v0 v1 v2 v3 x12 h11
    · refine J_iload (pc' := 80) ok (dOf dX3_moveBounds 40 rfl) rfl rfl ?_
      refine J_aload_n (pc' := 81) ok (dOf dX3_moveBounds 41 rfl) rfl rfl rfl ?_
      refine J_getI (ci := 7) (kf := 2) (C := RX7) (T := TX7) (N := 7) (pc' := 84) ok (dOf dX3_moveBounds 42 rfl) rfl (by decide) rfl (by decide) win_7 wfl_X3_128 (fun x19 => ?_)
      refine J_icmp_ge (tgt := 91) (pc' := 87) ok (dOf dX3_moveBounds 43 rfl) rfl (by decide) ?_ ?_
      · exact Eng_moveBounds_j91_J ok v0 v1 v2 v3 x12 h11
      · exact Eng_moveBounds_j87_J ok v0 v1 v2 v3 x12 h11
def Eng_moveBounds_j35 (v0 : Nat) (v1 : Nat) (v2 : Nat) (v3 : Int32) (t0 : Nat) (t1 : Int32) (h : AHeap) : Option (Unit × AHeap) :=
  (bz t1).bind fun x7 => (pfV h t0 3 11 (.int x7)).bind fun h6 => (gfI h6 v0 3 11).bind fun x8 => (if x8 = 0 then (gfI h6 v2 7 1).bind fun x9 => Eng_moveBounds_j54 v0 v1 v2 v3 v0 x9 h6 else Eng_moveBounds_j54 v0 v1 v2 v3 v0 v3 h6)
theorem Eng_moveBounds_j35_J {E : JE} {l : Launch} {G : GX} {h' : AHeap} (ok : JOK E l G kEng_moveBounds 0 0 none h') (v0 : Nat) (v1 : Nat) (v2 : Nat) (v3 : Int32) (t0 : Nat) (t1 : Int32) (h : AHeap) : J E kEng_moveBounds (Eng_moveBounds_j35 v0 v1 v2 v3 t0 t1 h) (fun z => z = ((), h')) 35 [some (.ref v0), some (.ref v1), some (.ref v2), some (.int v3), none, none] [.int t1, .ref t0] h 0 0 := by
  unfold Eng_moveBounds_j35
  refine J_putZ (ci := 3) (kf := 11) (C := RX3) (T := TX3) (N := 12) (pc' := 38) ok tyX3 (dOf dX3_moveBounds 19 rfl) rfl rfl (by decide) win_3 tyX3_ok nmX3 rfl rfl wfl_X3_120 (fun h6 _ => ?_)
  refine J_aload_n (pc' := 39) ok (dOf dX3_moveBounds 20 rfl) rfl rfl rfl ?_
  refine J_aload_n (pc' := 40) ok (dOf dX3_moveBounds 21 rfl) rfl rfl rfl ?_
  refine J_getI (ci := 3) (kf := 11) (C := RX3) (T := TX3) (N := 12) (pc' := 43) ok (dOf dX3_moveBounds 22 rfl) rfl (by decide) rfl (by decide) win_3 wfl_X3_120 (fun x8 => ?_)
  refine J_if_eq (tgt := 50) (pc' := 46) ok (dOf dX3_moveBounds 23 rfl) rfl (by decide) ?_ ?_
  · refine J_aload_n (pc' := 51) ok (dOf dX3_moveBounds 26 rfl) rfl rfl rfl ?_
    refine J_getI (ci := 7) (kf := 1) (C := RX7) (T := TX7) (N := 7) (pc' := 54) ok (dOf dX3_moveBounds 27 rfl) rfl (by decide) rfl (by decide) win_7 wfl_X3_117 (fun x9 => ?_)
    exact Eng_moveBounds_j54_J ok v0 v1 v2 v3 v0 x9 h6
  · refine J_iload_n (pc' := 47) ok (dOf dX3_moveBounds 24 rfl) rfl rfl rfl ?_
    refine J_goto (tgt := 54) ok (dOf dX3_moveBounds 25 rfl) (by decide) ?_
    exact Eng_moveBounds_j54_J ok v0 v1 v2 v3 v0 v3 h6
def Eng_moveBounds_j30 (v0 : Nat) (v1 : Nat) (v2 : Nat) (v3 : Int32) (t0 : Nat) (h : AHeap) : Option (Unit × AHeap) :=
  Eng_moveBounds_j35 v0 v1 v2 v3 t0 1 h
theorem Eng_moveBounds_j30_J {E : JE} {l : Launch} {G : GX} {h' : AHeap} (ok : JOK E l G kEng_moveBounds 0 0 none h') (v0 : Nat) (v1 : Nat) (v2 : Nat) (v3 : Int32) (t0 : Nat) (h : AHeap) : J E kEng_moveBounds (Eng_moveBounds_j30 v0 v1 v2 v3 t0 h) (fun z => z = ((), h')) 30 [some (.ref v0), some (.ref v1), some (.ref v2), some (.int v3), none, none] [.ref t0] h 0 0 := by
  unfold Eng_moveBounds_j30
  refine J_iconst (v := 1) (pc' := 31) ok (dOf dX3_moveBounds 16 rfl) rfl (by decide) ?_
  refine J_goto (tgt := 35) ok (dOf dX3_moveBounds 17 rfl) (by decide) ?_
  exact Eng_moveBounds_j35_J ok v0 v1 v2 v3 t0 1 h
def Eng_moveBounds (v0 : Nat) (v1 : Nat) (v2 : Nat) (h : AHeap) : Option (Unit × AHeap) :=
  (gfR h v0 3 1).bind fun a1 => (gfI h v0 3 6).bind fun x2 => (chk h a1 1).bind fun _ => bnd2 (Bnds_floorAt a1 v1 x2 h) fun x4 h3 => (gfI h3 v2 7 1).bind fun x5 => (if x5 = (-1) then Eng_moveBounds_j30 v0 v1 v2 x4 v0 h3 else (gfI h3 v2 7 1).bind fun x20 => (if x4 ≤ x20 then Eng_moveBounds_j35 v0 v1 v2 x4 v0 0 h3 else Eng_moveBounds_j30 v0 v1 v2 x4 v0 h3))
theorem t_Eng_moveBounds {l : Launch} {G : GX} {v0 : Nat} {v1 : Nat} {v2 : Nat} {h : AHeap} {h1 : AHeap} (hf : Eng_moveBounds v0 v1 v2 h = some ((), h1)) : CT l G kEng_moveBounds 0 0 [.ref v0, .ref v1, .ref v2] h none h1 := by
  refine CT_of (ls := [some (.ref v0), some (.ref v1), some (.ref v2), none, none, none]) (Z := fun z => z = ((), h1)) (by decide +kernel) (Nat.le_of_ble_eq_true rfl) hf rfl ⟨rfl, rfl, rfl, trivial⟩ (fun E ok => ?_)
  unfold Eng_moveBounds
  refine J_aload_n (pc' := 1) ok (dOf dX3_moveBounds 0 rfl) rfl rfl rfl ?_
  refine J_getR (ci := 3) (kf := 1) (C := RX3) (T := TX3) (N := 12) (pc' := 4) ok (dOf dX3_moveBounds 1 rfl) rfl (by decide) rfl (by decide) win_3 wfl_X3_21 (fun a1 => ?_)
  refine J_aload_n (pc' := 5) ok (dOf dX3_moveBounds 2 rfl) rfl rfl rfl ?_
  refine J_aload_n (pc' := 6) ok (dOf dX3_moveBounds 3 rfl) rfl rfl rfl ?_
  refine J_getI (ci := 3) (kf := 6) (C := RX3) (T := TX3) (N := 12) (pc' := 9) ok (dOf dX3_moveBounds 4 rfl) rfl (by decide) rfl (by decide) win_3 wfl_X3_61 (fun x2 => ?_)
  refine J_callVi (k2 := kBnds_floorAt) (ci := 1) (T := TX1) (N := 3) (as := [.ref v1, .int x2]) (pc' := 12) ok (dOf dX3_moveBounds 5 rfl) rfl (cw_Bnds_floorAt (by decide) (by decide)) wml_X3_114 winst_X1_floorAt wsel_X1_floorAt rfl ⟨Nat.le_refl 0, Nat.le_refl 0⟩ (Nat.le_of_ble_eq_true rfl) rfl (fun _ _ hf => t_Bnds_floorAt hf) (fun x4 h3 => ?_)
  refine J_istore_n (ls' := [some (.ref v0), some (.ref v1), some (.ref v2), some (.int x4), none, none]) (pc' := 13) ok (dOf dX3_moveBounds 6 rfl) rfl rfl (Nat.le_of_ble_eq_true rfl) rfl rfl ?_
  refine J_aload_n (pc' := 14) ok (dOf dX3_moveBounds 7 rfl) rfl rfl rfl ?_
  refine J_aload_n (pc' := 15) ok (dOf dX3_moveBounds 8 rfl) rfl rfl rfl ?_
  refine J_getI (ci := 7) (kf := 1) (C := RX7) (T := TX7) (N := 7) (pc' := 18) ok (dOf dX3_moveBounds 9 rfl) rfl (by decide) rfl (by decide) win_7 wfl_X3_117 (fun x5 => ?_)
  refine J_iconst (v := (-1)) (pc' := 19) ok (dOf dX3_moveBounds 10 rfl) rfl (by decide) ?_
  refine J_icmp_eq (tgt := 30) (pc' := 22) ok (dOf dX3_moveBounds 11 rfl) rfl (by decide) ?_ ?_
  · exact Eng_moveBounds_j30_J ok v0 v1 v2 x4 v0 h3
  · refine J_iload_n (pc' := 23) ok (dOf dX3_moveBounds 12 rfl) rfl rfl rfl ?_
    refine J_aload_n (pc' := 24) ok (dOf dX3_moveBounds 13 rfl) rfl rfl rfl ?_
    refine J_getI (ci := 7) (kf := 1) (C := RX7) (T := TX7) (N := 7) (pc' := 27) ok (dOf dX3_moveBounds 14 rfl) rfl (by decide) rfl (by decide) win_7 wfl_X3_117 (fun x20 => ?_)
    refine J_icmp_le (tgt := 34) (pc' := 30) ok (dOf dX3_moveBounds 15 rfl) rfl (by decide) ?_ ?_
    · refine J_iconst (v := 0) (pc' := 35) ok (dOf dX3_moveBounds 18 rfl) rfl (by decide) ?_
      exact Eng_moveBounds_j35_J ok v0 v1 v2 x4 v0 0 h3
    · exact Eng_moveBounds_j30_J ok v0 v1 v2 x4 v0 h3
-- X10_gapBetween
abbrev kSp_gapBetween : Cd := (yX10_gapBetween, cX10_gapBetween, 2, (some .float), 0, 0)
theorem dX10_gapBetween : dcheck cX10_gapBetween [(0, .iload_n 1, 1), (1, .ifCond .gt 5, 3), (4, .fconst 0, 1), (5, .freturn, 1), (6, .iload_n 1, 1), (7, .iload_n 0, 1), (8, .isub, 1), (9, .i2f, 1), (10, .iload_n 1, 1), (11, .i2f, 1), (12, .fdiv, 1), (13, .freturn, 1)] = true := by decide +kernel
theorem cw_Sp_gapBetween {k : Cd} (h1 : kSp_gapBetween.2.2.2.2.1 + 1 ≤ k.2.2.2.2.1) (h2 : 8 + (kSp_gapBetween.2.2.1 + 11) + kSp_gapBetween.2.2.2.2.2 ≤ k.2.2.2.2.2) : Cw k kSp_gapBetween 2 := ⟨wcode_X10_gapBetween, wini_SplitProgram, ⟨by decide, by decide, by decide +kernel⟩, h1, h2⟩
def Sp_gapBetween (v0 : Int32) (v1 : Int32) (h : AHeap) : Option (UInt32 × AHeap) :=
  (if 0 < v1 then (n32 (FP.fdiv (FP.i2f (v1 - v0)) (FP.i2f v1))).bind fun x1 => some (x1, h) else some (FP.fconst0, h))
theorem t_Sp_gapBetween {l : Launch} {G : GX} {v0 : Int32} {v1 : Int32} {h : AHeap} {v : UInt32} {h1 : AHeap} (hf : Sp_gapBetween v0 v1 h = some (v, h1)) : CT l G kSp_gapBetween 0 0 [.int v0, .int v1] h (some (.float v)) h1 := by
  refine CT_of (ls := [some (.int v0), some (.int v1)]) (Z := fun z => z = (v, h1)) (by decide +kernel) (Nat.le_of_ble_eq_true rfl) hf rfl ⟨rfl, rfl, trivial⟩ (fun E ok => ?_)
  unfold Sp_gapBetween
  refine J_iload_n (pc' := 1) ok (dOf dX10_gapBetween 0 rfl) rfl rfl rfl ?_
  refine J_if_gt (tgt := 6) (pc' := 4) ok (dOf dX10_gapBetween 1 rfl) rfl (by decide) ?_ ?_
  · refine J_iload_n (pc' := 7) ok (dOf dX10_gapBetween 4 rfl) rfl rfl rfl ?_
    refine J_iload_n (pc' := 8) ok (dOf dX10_gapBetween 5 rfl) rfl rfl rfl ?_
    refine J_isub (pc' := 9) ok (dOf dX10_gapBetween 6 rfl) rfl ?_
    refine J_i2f (pc' := 10) ok (dOf dX10_gapBetween 7 rfl) rfl ?_
    refine J_iload_n (pc' := 11) ok (dOf dX10_gapBetween 8 rfl) rfl rfl rfl ?_
    refine J_i2f (pc' := 12) ok (dOf dX10_gapBetween 9 rfl) rfl ?_
    refine J_fdiv (pc' := 13) ok (dOf dX10_gapBetween 10 rfl) rfl ?_
    exact J_freturn ok (dOf dX10_gapBetween 11 rfl) rfl (Nat.le_refl 0) (Nat.le_refl 0)
  · refine J_fconst0 (pc' := 5) ok (dOf dX10_gapBetween 2 rfl) rfl ?_
    exact J_freturn ok (dOf dX10_gapBetween 3 rfl) rfl (Nat.le_refl 0) (Nat.le_refl 0)
-- X3_judge
abbrev kEng_judge : Cd := (yX3_judge, cX3_judge, 2, (some .int), 1, 21)
theorem dX3_judge : dcheck cX3_judge [(0, .aload_n 0, 1), (1, .getfield 131, 3), (4, .iconst (-1), 1), (5, .if_icmp .ne 5, 3), (8, .iconst 0, 1), (9, .ireturn, 1), (10, .aload_n 0, 1), (11, .getfield 124, 3), (14, .aload_n 0, 1), (15, .getfield 131, 3), (18, .if_icmp .lt 5, 3), (21, .iconst 1, 1), (22, .ireturn, 1), (23, .aload_n 0, 1), (24, .getfield 124, 3), (27, .aload_n 0, 1), (28, .getfield 131, 3), (31, .invokestatic 142, 3), (34, .iload_n 1, 1), (35, .i2f, 1), (36, .ldc 146, 2), (38, .fdiv, 1), (39, .fcmp .g, 1), (40, .ifCond .gt 7, 3), (43, .iconst 3, 1), (44, .goto 4, 3), (47, .iconst 0, 1), (48, .ireturn, 1)] = true := by decide +kernel
theorem cw_Eng_judge {k : Cd} (h1 : kEng_judge.2.2.2.2.1 + 1 ≤ k.2.2.2.2.1) (h2 : 8 + (kEng_judge.2.2.1 + 11) + kEng_judge.2.2.2.2.2 ≤ k.2.2.2.2.2) : Cw k kEng_judge 1 := ⟨wcode_X3_judge, wini_SplitProgram_Engine, ⟨by decide, by decide, by decide +kernel⟩, h1, h2⟩
def Eng_judge_j48 (v0 : Nat) (v1 : Int32) (t0 : Int32) (h : AHeap) : Option (Int32 × AHeap) :=
  some (t0, h)
theorem Eng_judge_j48_J {E : JE} {l : Launch} {G : GX} {v : Int32} {h' : AHeap} (ok : JOK E l G kEng_judge 0 0 (some (.int v)) h') (v0 : Nat) (v1 : Int32) (t0 : Int32) (h : AHeap) : J E kEng_judge (Eng_judge_j48 v0 v1 t0 h) (fun z => z = (v, h')) 48 [some (.ref v0), some (.int v1)] [.int t0] h 0 0 := by
  unfold Eng_judge_j48
  exact J_ireturn ok (dOf dX3_judge 27 rfl) rfl (Nat.le_refl 0) (Nat.le_refl 0)
def Eng_judge (v0 : Nat) (v1 : Int32) (h : AHeap) : Option (Int32 × AHeap) :=
  (gfI h v0 3 9).bind fun x1 => (if ¬ x1 = (-1) then (gfI h v0 3 8).bind fun x2 => (gfI h v0 3 9).bind fun x3 => (if x2 < x3 then (gfI h v0 3 8).bind fun x4 => (gfI h v0 3 9).bind fun x5 => bnd2 (Sp_gapBetween x4 x5 h) fun x7 h6 => (n32 (FP.fdiv (FP.i2f v1) 1148846080)).bind fun x8 => (if 0 < (Op.cmpValue (FP.fcmp x7 x8) .g) then Eng_judge_j48 v0 v1 0 h6 else Eng_judge_j48 v0 v1 3 h6) else some (1, h)) else some (0, h))
theorem t_Eng_judge {l : Launch} {G : GX} {v0 : Nat} {v1 : Int32} {h : AHeap} {v : Int32} {h1 : AHeap} (hf : Eng_judge v0 v1 h = some (v, h1)) : CT l G kEng_judge 0 0 [.ref v0, .int v1] h (some (.int v)) h1 := by
  refine CT_of (ls := [some (.ref v0), some (.int v1)]) (Z := fun z => z = (v, h1)) (by decide +kernel) (Nat.le_of_ble_eq_true rfl) hf rfl ⟨rfl, rfl, trivial⟩ (fun E ok => ?_)
  unfold Eng_judge
  refine J_aload_n (pc' := 1) ok (dOf dX3_judge 0 rfl) rfl rfl rfl ?_
  refine J_getI (ci := 3) (kf := 9) (C := RX3) (T := TX3) (N := 12) (pc' := 4) ok (dOf dX3_judge 1 rfl) rfl (by decide) rfl (by decide) win_3 wfl_X3_131 (fun x1 => ?_)
  refine J_iconst (v := (-1)) (pc' := 5) ok (dOf dX3_judge 2 rfl) rfl (by decide) ?_
  refine J_icmp_ne (tgt := 10) (pc' := 8) ok (dOf dX3_judge 3 rfl) rfl (by decide) ?_ ?_
  · refine J_aload_n (pc' := 11) ok (dOf dX3_judge 6 rfl) rfl rfl rfl ?_
    refine J_getI (ci := 3) (kf := 8) (C := RX3) (T := TX3) (N := 12) (pc' := 14) ok (dOf dX3_judge 7 rfl) rfl (by decide) rfl (by decide) win_3 wfl_X3_124 (fun x2 => ?_)
    refine J_aload_n (pc' := 15) ok (dOf dX3_judge 8 rfl) rfl rfl rfl ?_
    refine J_getI (ci := 3) (kf := 9) (C := RX3) (T := TX3) (N := 12) (pc' := 18) ok (dOf dX3_judge 9 rfl) rfl (by decide) rfl (by decide) win_3 wfl_X3_131 (fun x3 => ?_)
    refine J_icmp_lt (tgt := 23) (pc' := 21) ok (dOf dX3_judge 10 rfl) rfl (by decide) ?_ ?_
    · refine J_aload_n (pc' := 24) ok (dOf dX3_judge 13 rfl) rfl rfl rfl ?_
      refine J_getI (ci := 3) (kf := 8) (C := RX3) (T := TX3) (N := 12) (pc' := 27) ok (dOf dX3_judge 14 rfl) rfl (by decide) rfl (by decide) win_3 wfl_X3_124 (fun x4 => ?_)
      refine J_aload_n (pc' := 28) ok (dOf dX3_judge 15 rfl) rfl rfl rfl ?_
      refine J_getI (ci := 3) (kf := 9) (C := RX3) (T := TX3) (N := 12) (pc' := 31) ok (dOf dX3_judge 16 rfl) rfl (by decide) rfl (by decide) win_3 wfl_X3_131 (fun x5 => ?_)
      refine J_callSNf (k2 := kSp_gapBetween) (as := [.int x4, .int x5]) (pc' := 34) ok (dOf dX3_judge 17 rfl) rfl (cw_Sp_gapBetween (by decide) (by decide)) wmn_X3_142 wstat_X10_gapBetween ⟨Nat.le_refl 0, Nat.le_refl 0⟩ (Nat.le_of_ble_eq_true rfl) rfl (fun _ _ hf => t_Sp_gapBetween hf) (fun x7 h6 => ?_)
      refine J_iload_n (pc' := 35) ok (dOf dX3_judge 18 rfl) rfl rfl rfl ?_
      refine J_i2f (pc' := 36) ok (dOf dX3_judge 19 rfl) rfl ?_
      refine J_ldcf (v := 1148846080) (pc' := 38) ok (dOf dX3_judge 20 rfl) rfl wconf_X3_146 ?_
      refine J_fdiv (pc' := 39) ok (dOf dX3_judge 21 rfl) rfl ?_
      refine J_fcmp (pc' := 40) ok (dOf dX3_judge 22 rfl) rfl ?_
      refine J_if_gt (tgt := 47) (pc' := 43) ok (dOf dX3_judge 23 rfl) rfl (by decide) ?_ ?_
      · refine J_iconst (v := 0) (pc' := 48) ok (dOf dX3_judge 26 rfl) rfl (by decide) ?_
        exact Eng_judge_j48_J ok v0 v1 0 h6
      · refine J_iconst (v := 3) (pc' := 44) ok (dOf dX3_judge 24 rfl) rfl (by decide) ?_
        refine J_goto (tgt := 48) ok (dOf dX3_judge 25 rfl) (by decide) ?_
        exact Eng_judge_j48_J ok v0 v1 3 h6
    · refine J_iconst (v := 1) (pc' := 22) ok (dOf dX3_judge 11 rfl) rfl (by decide) ?_
      exact J_ireturn ok (dOf dX3_judge 12 rfl) rfl (Nat.le_refl 0) (Nat.le_refl 0)
  · refine J_iconst (v := 0) (pc' := 9) ok (dOf dX3_judge 4 rfl) rfl (by decide) ?_
    exact J_ireturn ok (dOf dX3_judge 5 rfl) rfl (Nat.le_refl 0) (Nat.le_refl 0)
-- X3_worstCase
abbrev kEng_worstCase : Cd := (yX3_worstCase, cX3_worstCase, 6, (some .int), 3, 74)
theorem dX3_worstCase : dcheck cX3_worstCase [(0, .iconst (-1), 1), (1, .istore_n 2, 1), (2, .iconst 0, 1), (3, .istore_n 3, 1), (4, .iconst 0, 1), (5, .istore 4, 2), (7, .iload 4, 2), (9, .aload_n 1, 1), (10, .getfield 65, 3), (13, .if_icmp .ge 55, 3), (16, .aload_n 0, 1), (17, .getfield 25, 3), (20, .iload 4, 2), (22, .iaload, 1), (23, .iconst (-1), 1), (24, .if_icmp .ne 23, 3), (27, .aload_n 0, 1), (28, .getfield 12, 3), (31, .getfield 150, 3), (34, .aload_n 1, 1), (35, .iload 4, 2), (37, .aload_n 0, 1), (38, .getfield 61, 3), (41, .invokevirtual 154, 3), (44, .goto 4, 3), (47, .iconst 0, 1), (48, .istore 5, 2), (50, .iload 5, 2), (52, .iload_n 3, 1), (53, .if_icmp .le 9, 3), (56, .iload 5, 2), (58, .istore_n 3, 1), (59, .iload 4, 2), (61, .istore_n 2, 1), (62, .iinc 4 1, 3), (65, .goto (-58), 3), (68, .iload_n 2, 1), (69, .iconst (-1), 1), (70, .if_icmp .eq 5, 3), (73, .iload_n 2, 1), (74, .ireturn, 1), (75, .iconst 0, 1), (76, .istore 4, 2), (78, .iload 4, 2), (80, .aload_n 1, 1), (81, .getfield 65, 3), (84, .if_icmp .ge 46, 3), (87, .aload_n 1, 1), (88, .getfield 139, 3), (91, .iload 4, 2), (93, .iaload, 1), (94, .aload_n 0, 1), (95, .getfield 25, 3), (98, .iload 4, 2), (100, .iaload, 1), (101, .aload_n 0, 1), (102, .getfield 29, 3), (105, .iload 4, 2), (107, .iaload, 1), (108, .isub, 1), (109, .imul, 1), (110, .istore 5, 2), (112, .iload 5, 2), (114, .iload_n 3, 1), (115, .if_icmp .le 9, 3), (118, .iload 5, 2), (120, .istore_n 3, 1), (121, .iload 4, 2), (123, .istore_n 2, 1), (124, .iinc 4 1, 3), (127, .goto (-49), 3), (130, .iload_n 2, 1), (131, .ireturn, 1)] = true := by decide +kernel
theorem cw_Eng_worstCase {k : Cd} (h1 : kEng_worstCase.2.2.2.2.1 + 1 ≤ k.2.2.2.2.1) (h2 : 8 + (kEng_worstCase.2.2.1 + 11) + kEng_worstCase.2.2.2.2.2 ≤ k.2.2.2.2.2) : Cw k kEng_worstCase 1 := ⟨wcode_X3_worstCase, wini_SplitProgram_Engine, ⟨by decide, by decide, by decide +kernel⟩, h1, h2⟩
def Eng_worstCase_j62 (v0 : Nat) (v1 : Nat) (v2 : Int32) (v3 : Int32) (v4 : Int32) (v5 : Int32) (h : AHeap) : Option ((Int32 × Int32 × Int32 × AHeap) ⊕ ((Int32 × Int32 × Int32 × AHeap))) :=
  some (.inl (v2, v3, v4 + 1, h))
theorem Eng_worstCase_j62_J {E : JE} {l : Launch} {G : GX} {r : Option Value} {h' : AHeap} (ok : JOK E l G kEng_worstCase 0 0 r h') (v0 : Nat) (v1 : Nat) (v2 : Int32) (v3 : Int32) (v4 : Int32) (v5 : Int32) (h : AHeap) {Y : (Int32 × Int32 × Int32 × AHeap) ⊕ ((Int32 × Int32 × Int32 × AHeap)) → Prop} (k1 : ∀ s' : Int32 × Int32 × Int32 × AHeap, Y (.inl s') → JW E kEng_worstCase 7 [some (.ref v0), some (.ref v1), some (.int s'.1), some (.int s'.2.1), some (.int s'.2.2.1), none] [] s'.2.2.2 0 0) (kx68 : ∀ q : Int32 × Int32 × Int32 × AHeap, Y (.inr q) → JW E kEng_worstCase 68 [some (.ref v0), some (.ref v1), some (.int q.1), some (.int q.2.1), some (.int q.2.2.1), none] [] q.2.2.2 0 0) : J E kEng_worstCase (Eng_worstCase_j62 v0 v1 v2 v3 v4 v5 h) Y 62 [some (.ref v0), some (.ref v1), some (.int v2), some (.int v3), some (.int v4), some (.int v5)] [] h 0 0 := by
  unfold Eng_worstCase_j62
  refine J_iinc (v := v4 + 1) (ls' := [some (.ref v0), some (.ref v1), some (.int v2), some (.int v3), some (.int (v4 + 1)), some (.int v5)]) (pc' := 65) ok (dOf dX3_worstCase 34 rfl) rfl rfl (by rfl) (Nat.le_of_ble_eq_true rfl) rfl rfl ?_
  refine J_goto (tgt := 7) ok (dOf dX3_worstCase 35 rfl) (by decide) ?_
  refine J_weak (ls' := [some (.ref v0), some (.ref v1), some (.int v2), some (.int v3), some (.int (v4 + 1)), none]) ⟨rfl, rfl, rfl, rfl, rfl, trivial⟩ ?_
  exact J_fin (k1 (v2, v3, v4 + 1, h))
def Eng_worstCase_j48 (v0 : Nat) (v1 : Nat) (v2 : Int32) (v3 : Int32) (v4 : Int32) (t0 : Int32) (h : AHeap) : Option ((Int32 × Int32 × Int32 × AHeap) ⊕ ((Int32 × Int32 × Int32 × AHeap))) :=
  (if t0 ≤ v3 then Eng_worstCase_j62 v0 v1 v2 v3 v4 t0 h else Eng_worstCase_j62 v0 v1 v4 t0 v4 t0 h)
theorem Eng_worstCase_j48_J {E : JE} {l : Launch} {G : GX} {r : Option Value} {h' : AHeap} (ok : JOK E l G kEng_worstCase 0 0 r h') (v0 : Nat) (v1 : Nat) (v2 : Int32) (v3 : Int32) (v4 : Int32) (t0 : Int32) (h : AHeap) {Y : (Int32 × Int32 × Int32 × AHeap) ⊕ ((Int32 × Int32 × Int32 × AHeap)) → Prop} (k1 : ∀ s' : Int32 × Int32 × Int32 × AHeap, Y (.inl s') → JW E kEng_worstCase 7 [some (.ref v0), some (.ref v1), some (.int s'.1), some (.int s'.2.1), some (.int s'.2.2.1), none] [] s'.2.2.2 0 0) (kx68 : ∀ q : Int32 × Int32 × Int32 × AHeap, Y (.inr q) → JW E kEng_worstCase 68 [some (.ref v0), some (.ref v1), some (.int q.1), some (.int q.2.1), some (.int q.2.2.1), none] [] q.2.2.2 0 0) : J E kEng_worstCase (Eng_worstCase_j48 v0 v1 v2 v3 v4 t0 h) Y 48 [some (.ref v0), some (.ref v1), some (.int v2), some (.int v3), some (.int v4), none] [.int t0] h 0 0 := by
  unfold Eng_worstCase_j48
  refine J_istore (ls' := [some (.ref v0), some (.ref v1), some (.int v2), some (.int v3), some (.int v4), some (.int t0)]) (pc' := 50) ok (dOf dX3_worstCase 26 rfl) rfl (Nat.le_of_ble_eq_true rfl) rfl rfl ?_
  refine J_iload (pc' := 52) ok (dOf dX3_worstCase 27 rfl) rfl rfl ?_
  refine J_iload_n (pc' := 53) ok (dOf dX3_worstCase 28 rfl) rfl rfl rfl ?_
  refine J_icmp_le (tgt := 62) (pc' := 56) ok (dOf dX3_worstCase 29 rfl) rfl (by decide) ?_ ?_
  · exact Eng_worstCase_j62_J ok v0 v1 v2 v3 v4 t0 h k1 kx68
  · refine J_iload (pc' := 58) ok (dOf dX3_worstCase 30 rfl) rfl rfl ?_
    refine J_istore_n (ls' := [some (.ref v0), some (.ref v1), some (.int v2), some (.int t0), some (.int v4), some (.int t0)]) (pc' := 59) ok (dOf dX3_worstCase 31 rfl) rfl rfl (Nat.le_of_ble_eq_true rfl) rfl rfl ?_
    refine J_iload (pc' := 61) ok (dOf dX3_worstCase 32 rfl) rfl rfl ?_
    refine J_istore_n (ls' := [some (.ref v0), some (.ref v1), some (.int v4), some (.int t0), some (.int v4), some (.int t0)]) (pc' := 62) ok (dOf dX3_worstCase 33 rfl) rfl rfl (Nat.le_of_ble_eq_true rfl) rfl rfl ?_
    exact Eng_worstCase_j62_J ok v0 v1 v4 t0 v4 t0 h k1 kx68
def Eng_worstCase_b7 (v0 : Nat) (v1 : Nat) (s : Int32 × Int32 × Int32 × AHeap) : Option ((Int32 × Int32 × Int32 × AHeap) ⊕ ((Int32 × Int32 × Int32 × AHeap))) :=
  (gfI s.2.2.2 v1 6 2).bind fun x1 => (if x1 ≤ s.2.2.1 then some (.inr (s.1, s.2.1, s.2.2.1, s.2.2.2)) else (gfR s.2.2.2 v0 3 2).bind fun a2 => (ald 0 s.2.2.2 a2 s.2.2.1).bind fun x3 => (if ¬ x3 = (-1) then Eng_worstCase_j48 v0 v1 s.1 s.2.1 s.2.2.1 0 s.2.2.2 else (gfR s.2.2.2 v0 3 0).bind fun a4 => (gfR s.2.2.2 a4 0 0).bind fun a5 => (gfI s.2.2.2 v0 3 6).bind fun x6 => (chk s.2.2.2 a5 4).bind fun _ => bnd2 (Frt_lackAt a5 v1 s.2.2.1 x6 s.2.2.2) fun x8 h7 => Eng_worstCase_j48 v0 v1 s.1 s.2.1 s.2.2.1 x8 h7))
theorem Eng_worstCase_b7_J {E : JE} {l : Launch} {G : GX} {r : Option Value} {h' : AHeap} (ok : JOK E l G kEng_worstCase 0 0 r h') (v0 : Nat) (v1 : Nat) {Y : (Int32 × Int32 × Int32 × AHeap) ⊕ ((Int32 × Int32 × Int32 × AHeap)) → Prop} (k1 : ∀ s' : Int32 × Int32 × Int32 × AHeap, Y (.inl s') → JW E kEng_worstCase 7 [some (.ref v0), some (.ref v1), some (.int s'.1), some (.int s'.2.1), some (.int s'.2.2.1), none] [] s'.2.2.2 0 0) (kx68 : ∀ q : Int32 × Int32 × Int32 × AHeap, Y (.inr q) → JW E kEng_worstCase 68 [some (.ref v0), some (.ref v1), some (.int q.1), some (.int q.2.1), some (.int q.2.2.1), none] [] q.2.2.2 0 0) (s : Int32 × Int32 × Int32 × AHeap) : J E kEng_worstCase (Eng_worstCase_b7 v0 v1 s) Y 7 [some (.ref v0), some (.ref v1), some (.int s.1), some (.int s.2.1), some (.int s.2.2.1), none] [] s.2.2.2 0 0 := by
  unfold Eng_worstCase_b7
  refine J_iload (pc' := 9) ok (dOf dX3_worstCase 6 rfl) rfl rfl ?_
  refine J_aload_n (pc' := 10) ok (dOf dX3_worstCase 7 rfl) rfl rfl rfl ?_
  refine J_getI (ci := 6) (kf := 2) (C := RX6) (T := TX6) (N := 9) (pc' := 13) ok (dOf dX3_worstCase 8 rfl) rfl (by decide) rfl (by decide) win_6 wfl_X3_65 (fun x1 => ?_)
  refine J_icmp_ge (tgt := 68) (pc' := 16) ok (dOf dX3_worstCase 9 rfl) rfl (by decide) ?_ ?_
  · exact J_fin (kx68 (s.1, s.2.1, s.2.2.1, s.2.2.2))
  · refine J_aload_n (pc' := 17) ok (dOf dX3_worstCase 10 rfl) rfl rfl rfl ?_
    refine J_getR (ci := 3) (kf := 2) (C := RX3) (T := TX3) (N := 12) (pc' := 20) ok (dOf dX3_worstCase 11 rfl) rfl (by decide) rfl (by decide) win_3 wfl_X3_25 (fun a2 => ?_)
    refine J_iload (pc' := 22) ok (dOf dX3_worstCase 12 rfl) rfl rfl ?_
    refine J_iald (pc' := 23) ok (dOf dX3_worstCase 13 rfl) rfl (fun x3 => ?_)
    refine J_iconst (v := (-1)) (pc' := 24) ok (dOf dX3_worstCase 14 rfl) rfl (by decide) ?_
    refine J_icmp_ne (tgt := 47) (pc' := 27) ok (dOf dX3_worstCase 15 rfl) rfl (by decide) ?_ ?_
    · refine J_iconst (v := 0) (pc' := 48) ok (dOf dX3_worstCase 25 rfl) rfl (by decide) ?_
      exact Eng_worstCase_j48_J ok v0 v1 s.1 s.2.1 s.2.2.1 0 s.2.2.2 k1 kx68
    · refine J_aload_n (pc' := 28) ok (dOf dX3_worstCase 16 rfl) rfl rfl rfl ?_
      refine J_getR (ci := 3) (kf := 0) (C := RX3) (T := TX3) (N := 12) (pc' := 31) ok (dOf dX3_worstCase 17 rfl) rfl (by decide) rfl (by decide) win_3 wfl_X3_12 (fun a4 => ?_)
      refine J_getR (ci := 0) (kf := 0) (C := RX0) (T := TX0) (N := 2) (pc' := 34) ok (dOf dX3_worstCase 18 rfl) rfl (by decide) rfl (by decide) win_0 wfl_X3_150 (fun a5 => ?_)
      refine J_aload_n (pc' := 35) ok (dOf dX3_worstCase 19 rfl) rfl rfl rfl ?_
      refine J_iload (pc' := 37) ok (dOf dX3_worstCase 20 rfl) rfl rfl ?_
      refine J_aload_n (pc' := 38) ok (dOf dX3_worstCase 21 rfl) rfl rfl rfl ?_
      refine J_getI (ci := 3) (kf := 6) (C := RX3) (T := TX3) (N := 12) (pc' := 41) ok (dOf dX3_worstCase 22 rfl) rfl (by decide) rfl (by decide) win_3 wfl_X3_61 (fun x6 => ?_)
      refine J_callVi (k2 := kFrt_lackAt) (ci := 4) (T := TX4) (N := 12) (as := [.ref v1, .int s.2.2.1, .int x6]) (pc' := 44) ok (dOf dX3_worstCase 23 rfl) rfl (cw_Frt_lackAt (by decide) (by decide)) wml_X3_154 winst_X4_lackAt wsel_X4_lackAt rfl ⟨Nat.le_refl 0, Nat.le_refl 0⟩ (Nat.le_of_ble_eq_true rfl) rfl (fun _ _ hf => t_Frt_lackAt hf) (fun x8 h7 => ?_)
      refine J_goto (tgt := 48) ok (dOf dX3_worstCase 24 rfl) (by decide) ?_
      exact Eng_worstCase_j48_J ok v0 v1 s.1 s.2.1 s.2.2.1 x8 h7 k1 kx68
def Eng_worstCase_j124 (v0 : Nat) (v1 : Nat) (v2 : Int32) (v3 : Int32) (v4 : Int32) (v5 : Int32) (h : AHeap) : Option ((Int32 × Int32 × Int32) ⊕ ((Int32 × Int32 × Int32))) :=
  some (.inl (v2, v3, v4 + 1))
theorem Eng_worstCase_j124_J {E : JE} {l : Launch} {G : GX} {r : Option Value} {h' : AHeap} (ok : JOK E l G kEng_worstCase 0 0 r h') (v0 : Nat) (v1 : Nat) (v2 : Int32) (v3 : Int32) (v4 : Int32) (v5 : Int32) (h : AHeap) {Y : (Int32 × Int32 × Int32) ⊕ ((Int32 × Int32 × Int32)) → Prop} (k1 : ∀ s' : Int32 × Int32 × Int32, Y (.inl s') → JW E kEng_worstCase 78 [some (.ref v0), some (.ref v1), some (.int s'.1), some (.int s'.2.1), some (.int s'.2.2), none] [] h 0 0) (kx130 : ∀ q : Int32 × Int32 × Int32, Y (.inr q) → JW E kEng_worstCase 130 [some (.ref v0), some (.ref v1), some (.int q.1), some (.int q.2.1), some (.int q.2.2), none] [] h 0 0) : J E kEng_worstCase (Eng_worstCase_j124 v0 v1 v2 v3 v4 v5 h) Y 124 [some (.ref v0), some (.ref v1), some (.int v2), some (.int v3), some (.int v4), some (.int v5)] [] h 0 0 := by
  unfold Eng_worstCase_j124
  refine J_iinc (v := v4 + 1) (ls' := [some (.ref v0), some (.ref v1), some (.int v2), some (.int v3), some (.int (v4 + 1)), some (.int v5)]) (pc' := 127) ok (dOf dX3_worstCase 69 rfl) rfl rfl (by rfl) (Nat.le_of_ble_eq_true rfl) rfl rfl ?_
  refine J_goto (tgt := 78) ok (dOf dX3_worstCase 70 rfl) (by decide) ?_
  refine J_weak (ls' := [some (.ref v0), some (.ref v1), some (.int v2), some (.int v3), some (.int (v4 + 1)), none]) ⟨rfl, rfl, rfl, rfl, rfl, trivial⟩ ?_
  exact J_fin (k1 (v2, v3, v4 + 1))
def Eng_worstCase_b78 (v0 : Nat) (v1 : Nat) (h : AHeap) (s : Int32 × Int32 × Int32) : Option ((Int32 × Int32 × Int32) ⊕ ((Int32 × Int32 × Int32))) :=
  (gfI h v1 6 2).bind fun x9 => (if x9 ≤ s.2.2 then some (.inr (s.1, s.2.1, s.2.2)) else (gfR h v1 6 7).bind fun a10 => (ald 0 h a10 s.2.2).bind fun x11 => (gfR h v0 3 2).bind fun a12 => (ald 0 h a12 s.2.2).bind fun x13 => (gfR h v0 3 3).bind fun a14 => (ald 0 h a14 s.2.2).bind fun x15 => (if (x11 * (x13 - x15)) ≤ s.2.1 then Eng_worstCase_j124 v0 v1 s.1 s.2.1 s.2.2 (x11 * (x13 - x15)) h else Eng_worstCase_j124 v0 v1 s.2.2 (x11 * (x13 - x15)) s.2.2 (x11 * (x13 - x15)) h))
theorem Eng_worstCase_b78_J {E : JE} {l : Launch} {G : GX} {r : Option Value} {h' : AHeap} (ok : JOK E l G kEng_worstCase 0 0 r h') (v0 : Nat) (v1 : Nat) (h : AHeap) {Y : (Int32 × Int32 × Int32) ⊕ ((Int32 × Int32 × Int32)) → Prop} (k1 : ∀ s' : Int32 × Int32 × Int32, Y (.inl s') → JW E kEng_worstCase 78 [some (.ref v0), some (.ref v1), some (.int s'.1), some (.int s'.2.1), some (.int s'.2.2), none] [] h 0 0) (kx130 : ∀ q : Int32 × Int32 × Int32, Y (.inr q) → JW E kEng_worstCase 130 [some (.ref v0), some (.ref v1), some (.int q.1), some (.int q.2.1), some (.int q.2.2), none] [] h 0 0) (s : Int32 × Int32 × Int32) : J E kEng_worstCase (Eng_worstCase_b78 v0 v1 h s) Y 78 [some (.ref v0), some (.ref v1), some (.int s.1), some (.int s.2.1), some (.int s.2.2), none] [] h 0 0 := by
  unfold Eng_worstCase_b78
  refine J_iload (pc' := 80) ok (dOf dX3_worstCase 43 rfl) rfl rfl ?_
  refine J_aload_n (pc' := 81) ok (dOf dX3_worstCase 44 rfl) rfl rfl rfl ?_
  refine J_getI (ci := 6) (kf := 2) (C := RX6) (T := TX6) (N := 9) (pc' := 84) ok (dOf dX3_worstCase 45 rfl) rfl (by decide) rfl (by decide) win_6 wfl_X3_65 (fun x9 => ?_)
  refine J_icmp_ge (tgt := 130) (pc' := 87) ok (dOf dX3_worstCase 46 rfl) rfl (by decide) ?_ ?_
  · exact J_fin (kx130 (s.1, s.2.1, s.2.2))
  · refine J_aload_n (pc' := 88) ok (dOf dX3_worstCase 47 rfl) rfl rfl rfl ?_
    refine J_getR (ci := 6) (kf := 7) (C := RX6) (T := TX6) (N := 9) (pc' := 91) ok (dOf dX3_worstCase 48 rfl) rfl (by decide) rfl (by decide) win_6 wfl_X3_139 (fun a10 => ?_)
    refine J_iload (pc' := 93) ok (dOf dX3_worstCase 49 rfl) rfl rfl ?_
    refine J_iald (pc' := 94) ok (dOf dX3_worstCase 50 rfl) rfl (fun x11 => ?_)
    refine J_aload_n (pc' := 95) ok (dOf dX3_worstCase 51 rfl) rfl rfl rfl ?_
    refine J_getR (ci := 3) (kf := 2) (C := RX3) (T := TX3) (N := 12) (pc' := 98) ok (dOf dX3_worstCase 52 rfl) rfl (by decide) rfl (by decide) win_3 wfl_X3_25 (fun a12 => ?_)
    refine J_iload (pc' := 100) ok (dOf dX3_worstCase 53 rfl) rfl rfl ?_
    refine J_iald (pc' := 101) ok (dOf dX3_worstCase 54 rfl) rfl (fun x13 => ?_)
    refine J_aload_n (pc' := 102) ok (dOf dX3_worstCase 55 rfl) rfl rfl rfl ?_
    refine J_getR (ci := 3) (kf := 3) (C := RX3) (T := TX3) (N := 12) (pc' := 105) ok (dOf dX3_worstCase 56 rfl) rfl (by decide) rfl (by decide) win_3 wfl_X3_29 (fun a14 => ?_)
    refine J_iload (pc' := 107) ok (dOf dX3_worstCase 57 rfl) rfl rfl ?_
    refine J_iald (pc' := 108) ok (dOf dX3_worstCase 58 rfl) rfl (fun x15 => ?_)
    refine J_isub (pc' := 109) ok (dOf dX3_worstCase 59 rfl) rfl ?_
    refine J_imul (pc' := 110) ok (dOf dX3_worstCase 60 rfl) rfl ?_
    refine J_istore (ls' := [some (.ref v0), some (.ref v1), some (.int s.1), some (.int s.2.1), some (.int s.2.2), some (.int (x11 * (x13 - x15)))]) (pc' := 112) ok (dOf dX3_worstCase 61 rfl) rfl (Nat.le_of_ble_eq_true rfl) rfl rfl ?_
    refine J_iload (pc' := 114) ok (dOf dX3_worstCase 62 rfl) rfl rfl ?_
    refine J_iload_n (pc' := 115) ok (dOf dX3_worstCase 63 rfl) rfl rfl rfl ?_
    refine J_icmp_le (tgt := 124) (pc' := 118) ok (dOf dX3_worstCase 64 rfl) rfl (by decide) ?_ ?_
    · exact Eng_worstCase_j124_J ok v0 v1 s.1 s.2.1 s.2.2 (x11 * (x13 - x15)) h k1 kx130
    · refine J_iload (pc' := 120) ok (dOf dX3_worstCase 65 rfl) rfl rfl ?_
      refine J_istore_n (ls' := [some (.ref v0), some (.ref v1), some (.int s.1), some (.int (x11 * (x13 - x15))), some (.int s.2.2), some (.int (x11 * (x13 - x15)))]) (pc' := 121) ok (dOf dX3_worstCase 66 rfl) rfl rfl (Nat.le_of_ble_eq_true rfl) rfl rfl ?_
      refine J_iload (pc' := 123) ok (dOf dX3_worstCase 67 rfl) rfl rfl ?_
      refine J_istore_n (ls' := [some (.ref v0), some (.ref v1), some (.int s.2.2), some (.int (x11 * (x13 - x15))), some (.int s.2.2), some (.int (x11 * (x13 - x15)))]) (pc' := 124) ok (dOf dX3_worstCase 68 rfl) rfl rfl (Nat.le_of_ble_eq_true rfl) rfl rfl ?_
      exact Eng_worstCase_j124_J ok v0 v1 s.2.2 (x11 * (x13 - x15)) s.2.2 (x11 * (x13 - x15)) h k1 kx130
def Eng_worstCase_j130 (v0 : Nat) (v1 : Nat) (v2 : Int32) (v3 : Int32) (v4 : Int32) (h : AHeap) : Option (Int32 × AHeap) :=
  some (v2, h)
theorem Eng_worstCase_j130_J {E : JE} {l : Launch} {G : GX} {v : Int32} {h' : AHeap} (ok : JOK E l G kEng_worstCase 0 0 (some (.int v)) h') (v0 : Nat) (v1 : Nat) (v2 : Int32) (v3 : Int32) (v4 : Int32) (h : AHeap) : J E kEng_worstCase (Eng_worstCase_j130 v0 v1 v2 v3 v4 h) (fun z => z = (v, h')) 130 [some (.ref v0), some (.ref v1), some (.int v2), some (.int v3), some (.int v4), none] [] h 0 0 := by
  unfold Eng_worstCase_j130
  refine J_iload_n (pc' := 131) ok (dOf dX3_worstCase 71 rfl) rfl rfl rfl ?_
  exact J_ireturn ok (dOf dX3_worstCase 72 rfl) rfl (Nat.le_refl 0) (Nat.le_refl 0)
def Eng_worstCase_j68 (v0 : Nat) (v1 : Nat) (v2 : Int32) (v3 : Int32) (v4 : Int32) (h : AHeap) : Option (Int32 × AHeap) :=
  (if v2 = (-1) then (iter (Eng_worstCase_b78 v0 v1 h) Lmax (v2, v3, 0)).bind (fun q78 => Eng_worstCase_j130 v0 v1 q78.1 q78.2.1 q78.2.2 h) else some (v2, h))
theorem Eng_worstCase_j68_J {E : JE} {l : Launch} {G : GX} {v : Int32} {h' : AHeap} (ok : JOK E l G kEng_worstCase 0 0 (some (.int v)) h') (v0 : Nat) (v1 : Nat) (v2 : Int32) (v3 : Int32) (v4 : Int32) (h : AHeap) : J E kEng_worstCase (Eng_worstCase_j68 v0 v1 v2 v3 v4 h) (fun z => z = (v, h')) 68 [some (.ref v0), some (.ref v1), some (.int v2), some (.int v3), some (.int v4), none] [] h 0 0 := by
  unfold Eng_worstCase_j68
  refine J_iload_n (pc' := 69) ok (dOf dX3_worstCase 36 rfl) rfl rfl rfl ?_
  refine J_iconst (v := (-1)) (pc' := 70) ok (dOf dX3_worstCase 37 rfl) rfl (by decide) ?_
  refine J_icmp_eq (tgt := 75) (pc' := 73) ok (dOf dX3_worstCase 38 rfl) rfl (by decide) ?_ ?_
  · refine J_iconst (v := 0) (pc' := 76) ok (dOf dX3_worstCase 41 rfl) rfl (by decide) ?_
    refine J_istore (ls' := [some (.ref v0), some (.ref v1), some (.int v2), some (.int v3), some (.int 0), none]) (pc' := 78) ok (dOf dX3_worstCase 42 rfl) rfl (Nat.le_of_ble_eq_true rfl) rfl rfl ?_
    refine J_iter (lf := fun z78 => [some (.ref v0), some (.ref v1), some (.int z78.1), some (.int z78.2.1), some (.int z78.2.2), none]) (sf := fun _ => []) (hf := fun z78 => h) (px := (fun q78 => 130)) (lx := (fun q78 => [some (.ref v0), some (.ref v1), some (.int q78.1), some (.int q78.2.1), some (.int q78.2.2), none])) (sx := (fun q78 => [])) (hx := (fun q78 => h)) (fun Y2 z78 m1 m2 => Eng_worstCase_b78_J ok v0 v1 h m1 m2 z78) (fun q78 => ?_) Lmax _
    exact Eng_worstCase_j130_J ok v0 v1 q78.1 q78.2.1 q78.2.2 h
  · refine J_iload_n (pc' := 74) ok (dOf dX3_worstCase 39 rfl) rfl rfl rfl ?_
    exact J_ireturn ok (dOf dX3_worstCase 40 rfl) rfl (Nat.le_refl 0) (Nat.le_refl 0)
def Eng_worstCase (v0 : Nat) (v1 : Nat) (h : AHeap) : Option (Int32 × AHeap) :=
  (iter (Eng_worstCase_b7 v0 v1) Lmax ((-1), 0, 0, h)).bind (fun q7 => Eng_worstCase_j68 v0 v1 q7.1 q7.2.1 q7.2.2.1 q7.2.2.2)
theorem t_Eng_worstCase {l : Launch} {G : GX} {v0 : Nat} {v1 : Nat} {h : AHeap} {v : Int32} {h1 : AHeap} (hf : Eng_worstCase v0 v1 h = some (v, h1)) : CT l G kEng_worstCase 0 0 [.ref v0, .ref v1] h (some (.int v)) h1 := by
  refine CT_of (ls := [some (.ref v0), some (.ref v1), none, none, none, none]) (Z := fun z => z = (v, h1)) (by decide +kernel) (Nat.le_of_ble_eq_true rfl) hf rfl ⟨rfl, rfl, trivial⟩ (fun E ok => ?_)
  unfold Eng_worstCase
  refine J_iconst (v := (-1)) (pc' := 1) ok (dOf dX3_worstCase 0 rfl) rfl (by decide) ?_
  refine J_istore_n (ls' := [some (.ref v0), some (.ref v1), some (.int (-1)), none, none, none]) (pc' := 2) ok (dOf dX3_worstCase 1 rfl) rfl rfl (Nat.le_of_ble_eq_true rfl) rfl rfl ?_
  refine J_iconst (v := 0) (pc' := 3) ok (dOf dX3_worstCase 2 rfl) rfl (by decide) ?_
  refine J_istore_n (ls' := [some (.ref v0), some (.ref v1), some (.int (-1)), some (.int 0), none, none]) (pc' := 4) ok (dOf dX3_worstCase 3 rfl) rfl rfl (Nat.le_of_ble_eq_true rfl) rfl rfl ?_
  refine J_iconst (v := 0) (pc' := 5) ok (dOf dX3_worstCase 4 rfl) rfl (by decide) ?_
  refine J_istore (ls' := [some (.ref v0), some (.ref v1), some (.int (-1)), some (.int 0), some (.int 0), none]) (pc' := 7) ok (dOf dX3_worstCase 5 rfl) rfl (Nat.le_of_ble_eq_true rfl) rfl rfl ?_
  refine J_iter (lf := fun z7 => [some (.ref v0), some (.ref v1), some (.int z7.1), some (.int z7.2.1), some (.int z7.2.2.1), none]) (sf := fun _ => []) (hf := fun z7 => z7.2.2.2) (px := (fun q7 => 68)) (lx := (fun q7 => [some (.ref v0), some (.ref v1), some (.int q7.1), some (.int q7.2.1), some (.int q7.2.2.1), none])) (sx := (fun q7 => [])) (hx := (fun q7 => q7.2.2.2)) (fun Y2 z7 m1 m2 => Eng_worstCase_b7_J ok v0 v1 m1 m2 z7) (fun q7 => ?_) Lmax _
  exact Eng_worstCase_j68_J ok v0 v1 q7.1 q7.2.1 q7.2.2.1 q7.2.2.2
-- X3_pick
abbrev kEng_pick : Cd := (yX3_pick, cX3_pick, 6, (some .int), 4, 99)
theorem dX3_pick : dcheck cX3_pick [(0, .iconst 0, 1), (1, .istore_n 3, 1), (2, .iconst 0, 1), (3, .istore 4, 2), (5, .iload 4, 2), (7, .aload_n 1, 1), (8, .getfield 65, 3), (11, .if_icmp .ge 67, 3), (14, .aload_n 0, 1), (15, .getfield 32, 3), (18, .iload 4, 2), (20, .aload_n 0, 1), (21, .getfield 25, 3), (24, .iload 4, 2), (26, .iaload, 1), (27, .iconst (-1), 1), (28, .if_icmp .eq 20, 3), (31, .aload_n 0, 1), (32, .getfield 25, 3), (35, .iload 4, 2), (37, .iaload, 1), (38, .aload_n 0, 1), (39, .getfield 29, 3), (42, .iload 4, 2), (44, .iaload, 1), (45, .if_icmp .le 7, 3), (48, .iconst 1, 1), (49, .goto 4, 3), (52, .iconst 0, 1), (53, .bastore, 1), (54, .iload_n 3, 1), (55, .aload_n 0, 1), (56, .getfield 32, 3), (59, .iload 4, 2), (61, .baload, 1), (62, .ifCond .eq 7, 3), (65, .iconst 1, 1), (66, .goto 4, 3), (69, .iconst 0, 1), (70, .iadd, 1), (71, .istore_n 3, 1), (72, .iinc 4 1, 3), (75, .goto (-70), 3), (78, .iload_n 2, 1), (79, .ifCond .eq 8, 3), (82, .iload_n 3, 1), (83, .iconst 1, 1), (84, .if_icmp .gt 5, 3), (87, .iload_n 3, 1), (88, .ireturn, 1), (89, .aload_n 0, 1), (90, .aload_n 1, 1), (91, .invokevirtual 147, 3), (94, .istore 4, 2), (96, .iconst 0, 1), (97, .istore 5, 2), (99, .iload 5, 2), (101, .aload_n 1, 1), (102, .getfield 65, 3), (105, .if_icmp .ge 28, 3), (108, .aload_n 0, 1), (109, .getfield 32, 3), (112, .iload 5, 2), (114, .iload 5, 2), (116, .iload 4, 2), (118, .if_icmp .ne 7, 3), (121, .iconst 1, 1), (122, .goto 4, 3), (125, .iconst 0, 1), (126, .bastore, 1), (127, .iinc 5 1, 3), (130, .goto (-31), 3), (133, .iconst 1, 1), (134, .ireturn, 1)] = true := by decide +kernel
theorem cw_Eng_pick {k : Cd} (h1 : kEng_pick.2.2.2.2.1 + 1 ≤ k.2.2.2.2.1) (h2 : 8 + (kEng_pick.2.2.1 + 11) + kEng_pick.2.2.2.2.2 ≤ k.2.2.2.2.2) : Cw k kEng_pick 2 := ⟨wcode_X3_pick, wini_SplitProgram_Engine, ⟨by decide, by decide, by decide +kernel⟩, h1, h2⟩
def Eng_pick_j70 (v0 : Nat) (v1 : Nat) (v2 : Int32) (v3 : Int32) (v4 : Int32) (t0 : Int32) (t1 : Int32) (h : AHeap) : Option ((Int32 × Int32 × AHeap) ⊕ ((Int32 × Int32 × AHeap))) :=
  some (.inl (t0 + t1, v4 + 1, h))
theorem Eng_pick_j70_J {E : JE} {l : Launch} {G : GX} {r : Option Value} {h' : AHeap} (ok : JOK E l G kEng_pick 0 0 r h') (v0 : Nat) (v1 : Nat) (v2 : Int32) (v3 : Int32) (v4 : Int32) (t0 : Int32) (t1 : Int32) (h : AHeap) {Y : (Int32 × Int32 × AHeap) ⊕ ((Int32 × Int32 × AHeap)) → Prop} (k1 : ∀ s' : Int32 × Int32 × AHeap, Y (.inl s') → JW E kEng_pick 5 [some (.ref v0), some (.ref v1), some (.int v2), some (.int s'.1), some (.int s'.2.1), none] [] s'.2.2 0 0) (kx78 : ∀ q : Int32 × Int32 × AHeap, Y (.inr q) → JW E kEng_pick 78 [some (.ref v0), some (.ref v1), some (.int v2), some (.int q.1), some (.int q.2.1), none] [] q.2.2 0 0) : J E kEng_pick (Eng_pick_j70 v0 v1 v2 v3 v4 t0 t1 h) Y 70 [some (.ref v0), some (.ref v1), some (.int v2), some (.int v3), some (.int v4), none] [.int t1, .int t0] h 0 0 := by
  unfold Eng_pick_j70
  refine J_iadd (pc' := 71) ok (dOf dX3_pick 39 rfl) rfl ?_
  refine J_istore_n (ls' := [some (.ref v0), some (.ref v1), some (.int v2), some (.int (t0 + t1)), some (.int v4), none]) (pc' := 72) ok (dOf dX3_pick 40 rfl) rfl rfl (Nat.le_of_ble_eq_true rfl) rfl rfl ?_
  refine J_iinc (v := v4 + 1) (ls' := [some (.ref v0), some (.ref v1), some (.int v2), some (.int (t0 + t1)), some (.int (v4 + 1)), none]) (pc' := 75) ok (dOf dX3_pick 41 rfl) rfl rfl (by rfl) (Nat.le_of_ble_eq_true rfl) rfl rfl ?_
  refine J_goto (tgt := 5) ok (dOf dX3_pick 42 rfl) (by decide) ?_
  exact J_fin (k1 (t0 + t1, v4 + 1, h))
def Eng_pick_j53 (v0 : Nat) (v1 : Nat) (v2 : Int32) (v3 : Int32) (v4 : Int32) (t0 : Nat) (t1 : Int32) (t2 : Int32) (h : AHeap) : Option ((Int32 × Int32 × AHeap) ⊕ ((Int32 × Int32 × AHeap))) :=
  (ast 1 h t0 t1 t2).bind fun h5 => (gfR h5 v0 3 4).bind fun a6 => (ald 1 h5 a6 v4).bind fun x7 => (if x7 = 0 then Eng_pick_j70 v0 v1 v2 v3 v4 v3 0 h5 else Eng_pick_j70 v0 v1 v2 v3 v4 v3 1 h5)
theorem Eng_pick_j53_J {E : JE} {l : Launch} {G : GX} {r : Option Value} {h' : AHeap} (ok : JOK E l G kEng_pick 0 0 r h') (v0 : Nat) (v1 : Nat) (v2 : Int32) (v3 : Int32) (v4 : Int32) (t0 : Nat) (t1 : Int32) (t2 : Int32) (h : AHeap) {Y : (Int32 × Int32 × AHeap) ⊕ ((Int32 × Int32 × AHeap)) → Prop} (k1 : ∀ s' : Int32 × Int32 × AHeap, Y (.inl s') → JW E kEng_pick 5 [some (.ref v0), some (.ref v1), some (.int v2), some (.int s'.1), some (.int s'.2.1), none] [] s'.2.2 0 0) (kx78 : ∀ q : Int32 × Int32 × AHeap, Y (.inr q) → JW E kEng_pick 78 [some (.ref v0), some (.ref v1), some (.int v2), some (.int q.1), some (.int q.2.1), none] [] q.2.2 0 0) : J E kEng_pick (Eng_pick_j53 v0 v1 v2 v3 v4 t0 t1 t2 h) Y 53 [some (.ref v0), some (.ref v1), some (.int v2), some (.int v3), some (.int v4), none] [.int t2, .int t1, .ref t0] h 0 0 := by
  unfold Eng_pick_j53
  refine J_zast (pc' := 54) ok (dOf dX3_pick 29 rfl) rfl (fun h5 _ => ?_)
  refine J_iload_n (pc' := 55) ok (dOf dX3_pick 30 rfl) rfl rfl rfl ?_
  refine J_aload_n (pc' := 56) ok (dOf dX3_pick 31 rfl) rfl rfl rfl ?_
  refine J_getR (ci := 3) (kf := 4) (C := RX3) (T := TX3) (N := 12) (pc' := 59) ok (dOf dX3_pick 32 rfl) rfl (by decide) rfl (by decide) win_3 wfl_X3_32 (fun a6 => ?_)
  refine J_iload (pc' := 61) ok (dOf dX3_pick 33 rfl) rfl rfl ?_
  refine J_zald (pc' := 62) ok (dOf dX3_pick 34 rfl) rfl (fun x7 => ?_)
  refine J_if_eq (tgt := 69) (pc' := 65) ok (dOf dX3_pick 35 rfl) rfl (by decide) ?_ ?_
  · refine J_iconst (v := 0) (pc' := 70) ok (dOf dX3_pick 38 rfl) rfl (by decide) ?_
    exact Eng_pick_j70_J ok v0 v1 v2 v3 v4 v3 0 h5 k1 kx78
  · refine J_iconst (v := 1) (pc' := 66) ok (dOf dX3_pick 36 rfl) rfl (by decide) ?_
    refine J_goto (tgt := 70) ok (dOf dX3_pick 37 rfl) (by decide) ?_
    exact Eng_pick_j70_J ok v0 v1 v2 v3 v4 v3 1 h5 k1 kx78
def Eng_pick_j48 (v0 : Nat) (v1 : Nat) (v2 : Int32) (v3 : Int32) (v4 : Int32) (t0 : Nat) (t1 : Int32) (h : AHeap) : Option ((Int32 × Int32 × AHeap) ⊕ ((Int32 × Int32 × AHeap))) :=
  Eng_pick_j53 v0 v1 v2 v3 v4 t0 t1 1 h
theorem Eng_pick_j48_J {E : JE} {l : Launch} {G : GX} {r : Option Value} {h' : AHeap} (ok : JOK E l G kEng_pick 0 0 r h') (v0 : Nat) (v1 : Nat) (v2 : Int32) (v3 : Int32) (v4 : Int32) (t0 : Nat) (t1 : Int32) (h : AHeap) {Y : (Int32 × Int32 × AHeap) ⊕ ((Int32 × Int32 × AHeap)) → Prop} (k1 : ∀ s' : Int32 × Int32 × AHeap, Y (.inl s') → JW E kEng_pick 5 [some (.ref v0), some (.ref v1), some (.int v2), some (.int s'.1), some (.int s'.2.1), none] [] s'.2.2 0 0) (kx78 : ∀ q : Int32 × Int32 × AHeap, Y (.inr q) → JW E kEng_pick 78 [some (.ref v0), some (.ref v1), some (.int v2), some (.int q.1), some (.int q.2.1), none] [] q.2.2 0 0) : J E kEng_pick (Eng_pick_j48 v0 v1 v2 v3 v4 t0 t1 h) Y 48 [some (.ref v0), some (.ref v1), some (.int v2), some (.int v3), some (.int v4), none] [.int t1, .ref t0] h 0 0 := by
  unfold Eng_pick_j48
  refine J_iconst (v := 1) (pc' := 49) ok (dOf dX3_pick 26 rfl) rfl (by decide) ?_
  refine J_goto (tgt := 53) ok (dOf dX3_pick 27 rfl) (by decide) ?_
  exact Eng_pick_j53_J ok v0 v1 v2 v3 v4 t0 t1 1 h k1 kx78
def Eng_pick_b5 (v0 : Nat) (v1 : Nat) (v2 : Int32) (s : Int32 × Int32 × AHeap) : Option ((Int32 × Int32 × AHeap) ⊕ ((Int32 × Int32 × AHeap))) :=
  (gfI s.2.2 v1 6 2).bind fun x1 => (if x1 ≤ s.2.1 then some (.inr (s.1, s.2.1, s.2.2)) else (gfR s.2.2 v0 3 4).bind fun a2 => (gfR s.2.2 v0 3 2).bind fun a3 => (ald 0 s.2.2 a3 s.2.1).bind fun x4 => (if x4 = (-1) then Eng_pick_j48 v0 v1 v2 s.1 s.2.1 a2 s.2.1 s.2.2 else (gfR s.2.2 v0 3 2).bind fun a8 => (ald 0 s.2.2 a8 s.2.1).bind fun x9 => (gfR s.2.2 v0 3 3).bind fun a10 => (ald 0 s.2.2 a10 s.2.1).bind fun x11 => (if x9 ≤ x11 then Eng_pick_j53 v0 v1 v2 s.1 s.2.1 a2 s.2.1 0 s.2.2 else Eng_pick_j48 v0 v1 v2 s.1 s.2.1 a2 s.2.1 s.2.2)))
theorem Eng_pick_b5_J {E : JE} {l : Launch} {G : GX} {r : Option Value} {h' : AHeap} (ok : JOK E l G kEng_pick 0 0 r h') (v0 : Nat) (v1 : Nat) (v2 : Int32) {Y : (Int32 × Int32 × AHeap) ⊕ ((Int32 × Int32 × AHeap)) → Prop} (k1 : ∀ s' : Int32 × Int32 × AHeap, Y (.inl s') → JW E kEng_pick 5 [some (.ref v0), some (.ref v1), some (.int v2), some (.int s'.1), some (.int s'.2.1), none] [] s'.2.2 0 0) (kx78 : ∀ q : Int32 × Int32 × AHeap, Y (.inr q) → JW E kEng_pick 78 [some (.ref v0), some (.ref v1), some (.int v2), some (.int q.1), some (.int q.2.1), none] [] q.2.2 0 0) (s : Int32 × Int32 × AHeap) : J E kEng_pick (Eng_pick_b5 v0 v1 v2 s) Y 5 [some (.ref v0), some (.ref v1), some (.int v2), some (.int s.1), some (.int s.2.1), none] [] s.2.2 0 0 := by
  unfold Eng_pick_b5
  refine J_iload (pc' := 7) ok (dOf dX3_pick 4 rfl) rfl rfl ?_
  refine J_aload_n (pc' := 8) ok (dOf dX3_pick 5 rfl) rfl rfl rfl ?_
  refine J_getI (ci := 6) (kf := 2) (C := RX6) (T := TX6) (N := 9) (pc' := 11) ok (dOf dX3_pick 6 rfl) rfl (by decide) rfl (by decide) win_6 wfl_X3_65 (fun x1 => ?_)
  refine J_icmp_ge (tgt := 78) (pc' := 14) ok (dOf dX3_pick 7 rfl) rfl (by decide) ?_ ?_
  · exact J_fin (kx78 (s.1, s.2.1, s.2.2))
  · refine J_aload_n (pc' := 15) ok (dOf dX3_pick 8 rfl) rfl rfl rfl ?_
    refine J_getR (ci := 3) (kf := 4) (C := RX3) (T := TX3) (N := 12) (pc' := 18) ok (dOf dX3_pick 9 rfl) rfl (by decide) rfl (by decide) win_3 wfl_X3_32 (fun a2 => ?_)
    refine J_iload (pc' := 20) ok (dOf dX3_pick 10 rfl) rfl rfl ?_
    refine J_aload_n (pc' := 21) ok (dOf dX3_pick 11 rfl) rfl rfl rfl ?_
    refine J_getR (ci := 3) (kf := 2) (C := RX3) (T := TX3) (N := 12) (pc' := 24) ok (dOf dX3_pick 12 rfl) rfl (by decide) rfl (by decide) win_3 wfl_X3_25 (fun a3 => ?_)
    refine J_iload (pc' := 26) ok (dOf dX3_pick 13 rfl) rfl rfl ?_
    refine J_iald (pc' := 27) ok (dOf dX3_pick 14 rfl) rfl (fun x4 => ?_)
    refine J_iconst (v := (-1)) (pc' := 28) ok (dOf dX3_pick 15 rfl) rfl (by decide) ?_
    refine J_icmp_eq (tgt := 48) (pc' := 31) ok (dOf dX3_pick 16 rfl) rfl (by decide) ?_ ?_
    · exact Eng_pick_j48_J ok v0 v1 v2 s.1 s.2.1 a2 s.2.1 s.2.2 k1 kx78
    · refine J_aload_n (pc' := 32) ok (dOf dX3_pick 17 rfl) rfl rfl rfl ?_
      refine J_getR (ci := 3) (kf := 2) (C := RX3) (T := TX3) (N := 12) (pc' := 35) ok (dOf dX3_pick 18 rfl) rfl (by decide) rfl (by decide) win_3 wfl_X3_25 (fun a8 => ?_)
      refine J_iload (pc' := 37) ok (dOf dX3_pick 19 rfl) rfl rfl ?_
      refine J_iald (pc' := 38) ok (dOf dX3_pick 20 rfl) rfl (fun x9 => ?_)
      refine J_aload_n (pc' := 39) ok (dOf dX3_pick 21 rfl) rfl rfl rfl ?_
      refine J_getR (ci := 3) (kf := 3) (C := RX3) (T := TX3) (N := 12) (pc' := 42) ok (dOf dX3_pick 22 rfl) rfl (by decide) rfl (by decide) win_3 wfl_X3_29 (fun a10 => ?_)
      refine J_iload (pc' := 44) ok (dOf dX3_pick 23 rfl) rfl rfl ?_
      refine J_iald (pc' := 45) ok (dOf dX3_pick 24 rfl) rfl (fun x11 => ?_)
      refine J_icmp_le (tgt := 52) (pc' := 48) ok (dOf dX3_pick 25 rfl) rfl (by decide) ?_ ?_
      · refine J_iconst (v := 0) (pc' := 53) ok (dOf dX3_pick 28 rfl) rfl (by decide) ?_
        exact Eng_pick_j53_J ok v0 v1 v2 s.1 s.2.1 a2 s.2.1 0 s.2.2 k1 kx78
      · exact Eng_pick_j48_J ok v0 v1 v2 s.1 s.2.1 a2 s.2.1 s.2.2 k1 kx78
def Eng_pick_j87 (v0 : Nat) (v1 : Nat) (v2 : Int32) (v3 : Int32) (v4 : Int32) (h : AHeap) : Option (Int32 × AHeap) :=
  some (v3, h)
theorem Eng_pick_j87_J {E : JE} {l : Launch} {G : GX} {v : Int32} {h' : AHeap} (ok : JOK E l G kEng_pick 0 0 (some (.int v)) h') (v0 : Nat) (v1 : Nat) (v2 : Int32) (v3 : Int32) (v4 : Int32) (h : AHeap) : J E kEng_pick (Eng_pick_j87 v0 v1 v2 v3 v4 h) (fun z => z = (v, h')) 87 [some (.ref v0), some (.ref v1), some (.int v2), some (.int v3), some (.int v4), none] [] h 0 0 := by
  unfold Eng_pick_j87
  refine J_iload_n (pc' := 88) ok (dOf dX3_pick 48 rfl) rfl rfl rfl ?_
  exact J_ireturn ok (dOf dX3_pick 49 rfl) rfl (Nat.le_refl 0) (Nat.le_refl 0)
def Eng_pick_j126 (v0 : Nat) (v1 : Nat) (v2 : Int32) (v3 : Int32) (v4 : Int32) (v5 : Int32) (t0 : Nat) (t1 : Int32) (t2 : Int32) (h : AHeap) : Option ((Int32 × AHeap) ⊕ ((Int32 × AHeap))) :=
  (ast 1 h t0 t1 t2).bind fun h16 => some (.inl (v5 + 1, h16))
theorem Eng_pick_j126_J {E : JE} {l : Launch} {G : GX} {r : Option Value} {h' : AHeap} (ok : JOK E l G kEng_pick 0 0 r h') (v0 : Nat) (v1 : Nat) (v2 : Int32) (v3 : Int32) (v4 : Int32) (v5 : Int32) (t0 : Nat) (t1 : Int32) (t2 : Int32) (h : AHeap) {Y : (Int32 × AHeap) ⊕ ((Int32 × AHeap)) → Prop} (k1 : ∀ s' : Int32 × AHeap, Y (.inl s') → JW E kEng_pick 99 [some (.ref v0), some (.ref v1), some (.int v2), some (.int v3), some (.int v4), some (.int s'.1)] [] s'.2 0 0) (kx133 : ∀ q : Int32 × AHeap, Y (.inr q) → JW E kEng_pick 133 [some (.ref v0), some (.ref v1), some (.int v2), some (.int v3), some (.int v4), some (.int q.1)] [] q.2 0 0) : J E kEng_pick (Eng_pick_j126 v0 v1 v2 v3 v4 v5 t0 t1 t2 h) Y 126 [some (.ref v0), some (.ref v1), some (.int v2), some (.int v3), some (.int v4), some (.int v5)] [.int t2, .int t1, .ref t0] h 0 0 := by
  unfold Eng_pick_j126
  refine J_zast (pc' := 127) ok (dOf dX3_pick 69 rfl) rfl (fun h16 _ => ?_)
  refine J_iinc (v := v5 + 1) (ls' := [some (.ref v0), some (.ref v1), some (.int v2), some (.int v3), some (.int v4), some (.int (v5 + 1))]) (pc' := 130) ok (dOf dX3_pick 70 rfl) rfl rfl (by rfl) (Nat.le_of_ble_eq_true rfl) rfl rfl ?_
  refine J_goto (tgt := 99) ok (dOf dX3_pick 71 rfl) (by decide) ?_
  exact J_fin (k1 (v5 + 1, h16))
def Eng_pick_b99 (v0 : Nat) (v1 : Nat) (v2 : Int32) (v3 : Int32) (v4 : Int32) (s : Int32 × AHeap) : Option ((Int32 × AHeap) ⊕ ((Int32 × AHeap))) :=
  (gfI s.2 v1 6 2).bind fun x14 => (if x14 ≤ s.1 then some (.inr (s.1, s.2)) else (gfR s.2 v0 3 4).bind fun a15 => (if ¬ s.1 = v4 then Eng_pick_j126 v0 v1 v2 v3 v4 s.1 a15 s.1 0 s.2 else Eng_pick_j126 v0 v1 v2 v3 v4 s.1 a15 s.1 1 s.2))
theorem Eng_pick_b99_J {E : JE} {l : Launch} {G : GX} {r : Option Value} {h' : AHeap} (ok : JOK E l G kEng_pick 0 0 r h') (v0 : Nat) (v1 : Nat) (v2 : Int32) (v3 : Int32) (v4 : Int32) {Y : (Int32 × AHeap) ⊕ ((Int32 × AHeap)) → Prop} (k1 : ∀ s' : Int32 × AHeap, Y (.inl s') → JW E kEng_pick 99 [some (.ref v0), some (.ref v1), some (.int v2), some (.int v3), some (.int v4), some (.int s'.1)] [] s'.2 0 0) (kx133 : ∀ q : Int32 × AHeap, Y (.inr q) → JW E kEng_pick 133 [some (.ref v0), some (.ref v1), some (.int v2), some (.int v3), some (.int v4), some (.int q.1)] [] q.2 0 0) (s : Int32 × AHeap) : J E kEng_pick (Eng_pick_b99 v0 v1 v2 v3 v4 s) Y 99 [some (.ref v0), some (.ref v1), some (.int v2), some (.int v3), some (.int v4), some (.int s.1)] [] s.2 0 0 := by
  unfold Eng_pick_b99
  refine J_iload (pc' := 101) ok (dOf dX3_pick 56 rfl) rfl rfl ?_
  refine J_aload_n (pc' := 102) ok (dOf dX3_pick 57 rfl) rfl rfl rfl ?_
  refine J_getI (ci := 6) (kf := 2) (C := RX6) (T := TX6) (N := 9) (pc' := 105) ok (dOf dX3_pick 58 rfl) rfl (by decide) rfl (by decide) win_6 wfl_X3_65 (fun x14 => ?_)
  refine J_icmp_ge (tgt := 133) (pc' := 108) ok (dOf dX3_pick 59 rfl) rfl (by decide) ?_ ?_
  · exact J_fin (kx133 (s.1, s.2))
  · refine J_aload_n (pc' := 109) ok (dOf dX3_pick 60 rfl) rfl rfl rfl ?_
    refine J_getR (ci := 3) (kf := 4) (C := RX3) (T := TX3) (N := 12) (pc' := 112) ok (dOf dX3_pick 61 rfl) rfl (by decide) rfl (by decide) win_3 wfl_X3_32 (fun a15 => ?_)
    refine J_iload (pc' := 114) ok (dOf dX3_pick 62 rfl) rfl rfl ?_
    refine J_iload (pc' := 116) ok (dOf dX3_pick 63 rfl) rfl rfl ?_
    refine J_iload (pc' := 118) ok (dOf dX3_pick 64 rfl) rfl rfl ?_
    refine J_icmp_ne (tgt := 125) (pc' := 121) ok (dOf dX3_pick 65 rfl) rfl (by decide) ?_ ?_
    · refine J_iconst (v := 0) (pc' := 126) ok (dOf dX3_pick 68 rfl) rfl (by decide) ?_
      exact Eng_pick_j126_J ok v0 v1 v2 v3 v4 s.1 a15 s.1 0 s.2 k1 kx133
    · refine J_iconst (v := 1) (pc' := 122) ok (dOf dX3_pick 66 rfl) rfl (by decide) ?_
      refine J_goto (tgt := 126) ok (dOf dX3_pick 67 rfl) (by decide) ?_
      exact Eng_pick_j126_J ok v0 v1 v2 v3 v4 s.1 a15 s.1 1 s.2 k1 kx133
def Eng_pick_j133 (v0 : Nat) (v1 : Nat) (v2 : Int32) (v3 : Int32) (v4 : Int32) (v5 : Int32) (h : AHeap) : Option (Int32 × AHeap) :=
  some (1, h)
theorem Eng_pick_j133_J {E : JE} {l : Launch} {G : GX} {v : Int32} {h' : AHeap} (ok : JOK E l G kEng_pick 0 0 (some (.int v)) h') (v0 : Nat) (v1 : Nat) (v2 : Int32) (v3 : Int32) (v4 : Int32) (v5 : Int32) (h : AHeap) : J E kEng_pick (Eng_pick_j133 v0 v1 v2 v3 v4 v5 h) (fun z => z = (v, h')) 133 [some (.ref v0), some (.ref v1), some (.int v2), some (.int v3), some (.int v4), some (.int v5)] [] h 0 0 := by
  unfold Eng_pick_j133
  refine J_iconst (v := 1) (pc' := 134) ok (dOf dX3_pick 72 rfl) rfl (by decide) ?_
  exact J_ireturn ok (dOf dX3_pick 73 rfl) rfl (Nat.le_refl 0) (Nat.le_refl 0)
def Eng_pick_j78 (v0 : Nat) (v1 : Nat) (v2 : Int32) (v3 : Int32) (v4 : Int32) (h : AHeap) : Option (Int32 × AHeap) :=
  (if v2 = 0 then Eng_pick_j87 v0 v1 v2 v3 v4 h else (if 1 < v3 then (chk h v0 3).bind fun _ => bnd2 (Eng_worstCase v0 v1 h) fun x13 h12 => (iter (Eng_pick_b99 v0 v1 v2 v3 x13) Lmax (0, h12)).bind (fun q99 => Eng_pick_j133 v0 v1 v2 v3 x13 q99.1 q99.2) else Eng_pick_j87 v0 v1 v2 v3 v4 h))
theorem Eng_pick_j78_J {E : JE} {l : Launch} {G : GX} {v : Int32} {h' : AHeap} (ok : JOK E l G kEng_pick 0 0 (some (.int v)) h') (v0 : Nat) (v1 : Nat) (v2 : Int32) (v3 : Int32) (v4 : Int32) (h : AHeap) : J E kEng_pick (Eng_pick_j78 v0 v1 v2 v3 v4 h) (fun z => z = (v, h')) 78 [some (.ref v0), some (.ref v1), some (.int v2), some (.int v3), some (.int v4), none] [] h 0 0 := by
  unfold Eng_pick_j78
  refine J_iload_n (pc' := 79) ok (dOf dX3_pick 43 rfl) rfl rfl rfl ?_
  refine J_if_eq (tgt := 87) (pc' := 82) ok (dOf dX3_pick 44 rfl) rfl (by decide) ?_ ?_
  · exact Eng_pick_j87_J ok v0 v1 v2 v3 v4 h
  · refine J_iload_n (pc' := 83) ok (dOf dX3_pick 45 rfl) rfl rfl rfl ?_
    refine J_iconst (v := 1) (pc' := 84) ok (dOf dX3_pick 46 rfl) rfl (by decide) ?_
    refine J_icmp_gt (tgt := 89) (pc' := 87) ok (dOf dX3_pick 47 rfl) rfl (by decide) ?_ ?_
    · refine J_aload_n (pc' := 90) ok (dOf dX3_pick 50 rfl) rfl rfl rfl ?_
      refine J_aload_n (pc' := 91) ok (dOf dX3_pick 51 rfl) rfl rfl rfl ?_
      refine J_callVi (k2 := kEng_worstCase) (ci := 3) (T := TX3) (N := 12) (as := [.ref v1]) (pc' := 94) ok (dOf dX3_pick 52 rfl) rfl (cw_Eng_worstCase (by decide) (by decide)) wml_X3_147 winst_X3_worstCase wsel_X3_worstCase rfl ⟨Nat.le_refl 0, Nat.le_refl 0⟩ (Nat.le_of_ble_eq_true rfl) rfl (fun _ _ hf => t_Eng_worstCase hf) (fun x13 h12 => ?_)
      refine J_istore (ls' := [some (.ref v0), some (.ref v1), some (.int v2), some (.int v3), some (.int x13), none]) (pc' := 96) ok (dOf dX3_pick 53 rfl) rfl (Nat.le_of_ble_eq_true rfl) rfl rfl ?_
      refine J_iconst (v := 0) (pc' := 97) ok (dOf dX3_pick 54 rfl) rfl (by decide) ?_
      refine J_istore (ls' := [some (.ref v0), some (.ref v1), some (.int v2), some (.int v3), some (.int x13), some (.int 0)]) (pc' := 99) ok (dOf dX3_pick 55 rfl) rfl (Nat.le_of_ble_eq_true rfl) rfl rfl ?_
      refine J_iter (lf := fun z99 => [some (.ref v0), some (.ref v1), some (.int v2), some (.int v3), some (.int x13), some (.int z99.1)]) (sf := fun _ => []) (hf := fun z99 => z99.2) (px := (fun q99 => 133)) (lx := (fun q99 => [some (.ref v0), some (.ref v1), some (.int v2), some (.int v3), some (.int x13), some (.int q99.1)])) (sx := (fun q99 => [])) (hx := (fun q99 => q99.2)) (fun Y2 z99 m1 m2 => Eng_pick_b99_J ok v0 v1 v2 v3 x13 m1 m2 z99) (fun q99 => ?_) Lmax _
      exact Eng_pick_j133_J ok v0 v1 v2 v3 x13 q99.1 q99.2
    · exact Eng_pick_j87_J ok v0 v1 v2 v3 v4 h
def Eng_pick (v0 : Nat) (v1 : Nat) (v2 : Int32) (h : AHeap) : Option (Int32 × AHeap) :=
  (iter (Eng_pick_b5 v0 v1 v2) Lmax (0, 0, h)).bind (fun q5 => Eng_pick_j78 v0 v1 v2 q5.1 q5.2.1 q5.2.2)
theorem t_Eng_pick {l : Launch} {G : GX} {v0 : Nat} {v1 : Nat} {v2 : Int32} {h : AHeap} {v : Int32} {h1 : AHeap} (hf : Eng_pick v0 v1 v2 h = some (v, h1)) : CT l G kEng_pick 0 0 [.ref v0, .ref v1, .int v2] h (some (.int v)) h1 := by
  refine CT_of (ls := [some (.ref v0), some (.ref v1), some (.int v2), none, none, none]) (Z := fun z => z = (v, h1)) (by decide +kernel) (Nat.le_of_ble_eq_true rfl) hf rfl ⟨rfl, rfl, rfl, trivial⟩ (fun E ok => ?_)
  unfold Eng_pick
  refine J_iconst (v := 0) (pc' := 1) ok (dOf dX3_pick 0 rfl) rfl (by decide) ?_
  refine J_istore_n (ls' := [some (.ref v0), some (.ref v1), some (.int v2), some (.int 0), none, none]) (pc' := 2) ok (dOf dX3_pick 1 rfl) rfl rfl (Nat.le_of_ble_eq_true rfl) rfl rfl ?_
  refine J_iconst (v := 0) (pc' := 3) ok (dOf dX3_pick 2 rfl) rfl (by decide) ?_
  refine J_istore (ls' := [some (.ref v0), some (.ref v1), some (.int v2), some (.int 0), some (.int 0), none]) (pc' := 5) ok (dOf dX3_pick 3 rfl) rfl (Nat.le_of_ble_eq_true rfl) rfl rfl ?_
  refine J_iter (lf := fun z5 => [some (.ref v0), some (.ref v1), some (.int v2), some (.int z5.1), some (.int z5.2.1), none]) (sf := fun _ => []) (hf := fun z5 => z5.2.2) (px := (fun q5 => 78)) (lx := (fun q5 => [some (.ref v0), some (.ref v1), some (.int v2), some (.int q5.1), some (.int q5.2.1), none])) (sx := (fun q5 => [])) (hx := (fun q5 => q5.2.2)) (fun Y2 z5 m1 m2 => Eng_pick_b5_J ok v0 v1 v2 m1 m2 z5) (fun q5 => ?_) Lmax _
  exact Eng_pick_j78_J ok v0 v1 v2 q5.1 q5.2.1 q5.2.2
-- X3_countStaying
abbrev kEng_countStaying : Cd := (yX3_countStaying, cX3_countStaying, 5, (some .int), 0, 0)
theorem dX3_countStaying : dcheck cX3_countStaying [(0, .aload_n 0, 1), (1, .getfield 120, 3), (4, .ifCond .eq 7, 3), (7, .iload_n 2, 1), (8, .ifCond .ne 8, 3), (11, .aload_n 1, 1), (12, .getfield 94, 3), (15, .ireturn, 1), (16, .iconst 0, 1), (17, .istore_n 3, 1), (18, .iconst 0, 1), (19, .istore 4, 2), (21, .iload 4, 2), (23, .aload_n 1, 1), (24, .getfield 94, 3), (27, .if_icmp .ge 28, 3), (30, .iload_n 3, 1), (31, .aload_n 0, 1), (32, .getfield 36, 3), (35, .iload 4, 2), (37, .iaload, 1), (38, .iload_n 2, 1), (39, .if_icmp .ge 7, 3), (42, .iconst 1, 1), (43, .goto 4, 3), (46, .iconst 0, 1), (47, .iadd, 1), (48, .istore_n 3, 1), (49, .iinc 4 1, 3), (52, .goto (-31), 3), (55, .iload_n 3, 1), (56, .ireturn, 1)] = true := by decide +kernel
theorem cw_Eng_countStaying {k : Cd} (h1 : kEng_countStaying.2.2.2.2.1 + 1 ≤ k.2.2.2.2.1) (h2 : 8 + (kEng_countStaying.2.2.1 + 11) + kEng_countStaying.2.2.2.2.2 ≤ k.2.2.2.2.2) : Cw k kEng_countStaying 2 := ⟨wcode_X3_countStaying, wini_SplitProgram_Engine, ⟨by decide, by decide, by decide +kernel⟩, h1, h2⟩
def Eng_countStaying_j11 (v0 : Nat) (v1 : Nat) (v2 : Int32) (h : AHeap) : Option (Int32 × AHeap) :=
  (gfI h v1 2 1).bind fun x2 => some (x2, h)
theorem Eng_countStaying_j11_J {E : JE} {l : Launch} {G : GX} {v : Int32} {h' : AHeap} (ok : JOK E l G kEng_countStaying 0 0 (some (.int v)) h') (v0 : Nat) (v1 : Nat) (v2 : Int32) (h : AHeap) : J E kEng_countStaying (Eng_countStaying_j11 v0 v1 v2 h) (fun z => z = (v, h')) 11 [some (.ref v0), some (.ref v1), some (.int v2), none, none] [] h 0 0 := by
  unfold Eng_countStaying_j11
  refine J_aload_n (pc' := 12) ok (dOf dX3_countStaying 5 rfl) rfl rfl rfl ?_
  refine J_getI (ci := 2) (kf := 1) (C := RX2) (T := TX2) (N := 7) (pc' := 15) ok (dOf dX3_countStaying 6 rfl) rfl (by decide) rfl (by decide) win_2 wfl_X3_94 (fun x2 => ?_)
  exact J_ireturn ok (dOf dX3_countStaying 7 rfl) rfl (Nat.le_refl 0) (Nat.le_refl 0)
def Eng_countStaying_j47 (v0 : Nat) (v1 : Nat) (v2 : Int32) (v3 : Int32) (v4 : Int32) (t0 : Int32) (t1 : Int32) (h : AHeap) : Option ((Int32 × Int32) ⊕ ((Int32 × Int32))) :=
  some (.inl (t0 + t1, v4 + 1))
theorem Eng_countStaying_j47_J {E : JE} {l : Launch} {G : GX} {r : Option Value} {h' : AHeap} (ok : JOK E l G kEng_countStaying 0 0 r h') (v0 : Nat) (v1 : Nat) (v2 : Int32) (v3 : Int32) (v4 : Int32) (t0 : Int32) (t1 : Int32) (h : AHeap) {Y : (Int32 × Int32) ⊕ ((Int32 × Int32)) → Prop} (k1 : ∀ s' : Int32 × Int32, Y (.inl s') → JW E kEng_countStaying 21 [some (.ref v0), some (.ref v1), some (.int v2), some (.int s'.1), some (.int s'.2)] [] h 0 0) (kx55 : ∀ q : Int32 × Int32, Y (.inr q) → JW E kEng_countStaying 55 [some (.ref v0), some (.ref v1), some (.int v2), some (.int q.1), some (.int q.2)] [] h 0 0) : J E kEng_countStaying (Eng_countStaying_j47 v0 v1 v2 v3 v4 t0 t1 h) Y 47 [some (.ref v0), some (.ref v1), some (.int v2), some (.int v3), some (.int v4)] [.int t1, .int t0] h 0 0 := by
  unfold Eng_countStaying_j47
  refine J_iadd (pc' := 48) ok (dOf dX3_countStaying 26 rfl) rfl ?_
  refine J_istore_n (ls' := [some (.ref v0), some (.ref v1), some (.int v2), some (.int (t0 + t1)), some (.int v4)]) (pc' := 49) ok (dOf dX3_countStaying 27 rfl) rfl rfl (Nat.le_of_ble_eq_true rfl) rfl rfl ?_
  refine J_iinc (v := v4 + 1) (ls' := [some (.ref v0), some (.ref v1), some (.int v2), some (.int (t0 + t1)), some (.int (v4 + 1))]) (pc' := 52) ok (dOf dX3_countStaying 28 rfl) rfl rfl (by rfl) (Nat.le_of_ble_eq_true rfl) rfl rfl ?_
  refine J_goto (tgt := 21) ok (dOf dX3_countStaying 29 rfl) (by decide) ?_
  exact J_fin (k1 (t0 + t1, v4 + 1))
def Eng_countStaying_b21 (v0 : Nat) (v1 : Nat) (v2 : Int32) (h : AHeap) (s : Int32 × Int32) : Option ((Int32 × Int32) ⊕ ((Int32 × Int32))) :=
  (gfI h v1 2 1).bind fun x3 => (if x3 ≤ s.2 then some (.inr (s.1, s.2)) else (gfR h v0 3 5).bind fun a4 => (ald 0 h a4 s.2).bind fun x5 => (if v2 ≤ x5 then Eng_countStaying_j47 v0 v1 v2 s.1 s.2 s.1 0 h else Eng_countStaying_j47 v0 v1 v2 s.1 s.2 s.1 1 h))
theorem Eng_countStaying_b21_J {E : JE} {l : Launch} {G : GX} {r : Option Value} {h' : AHeap} (ok : JOK E l G kEng_countStaying 0 0 r h') (v0 : Nat) (v1 : Nat) (v2 : Int32) (h : AHeap) {Y : (Int32 × Int32) ⊕ ((Int32 × Int32)) → Prop} (k1 : ∀ s' : Int32 × Int32, Y (.inl s') → JW E kEng_countStaying 21 [some (.ref v0), some (.ref v1), some (.int v2), some (.int s'.1), some (.int s'.2)] [] h 0 0) (kx55 : ∀ q : Int32 × Int32, Y (.inr q) → JW E kEng_countStaying 55 [some (.ref v0), some (.ref v1), some (.int v2), some (.int q.1), some (.int q.2)] [] h 0 0) (s : Int32 × Int32) : J E kEng_countStaying (Eng_countStaying_b21 v0 v1 v2 h s) Y 21 [some (.ref v0), some (.ref v1), some (.int v2), some (.int s.1), some (.int s.2)] [] h 0 0 := by
  unfold Eng_countStaying_b21
  refine J_iload (pc' := 23) ok (dOf dX3_countStaying 12 rfl) rfl rfl ?_
  refine J_aload_n (pc' := 24) ok (dOf dX3_countStaying 13 rfl) rfl rfl rfl ?_
  refine J_getI (ci := 2) (kf := 1) (C := RX2) (T := TX2) (N := 7) (pc' := 27) ok (dOf dX3_countStaying 14 rfl) rfl (by decide) rfl (by decide) win_2 wfl_X3_94 (fun x3 => ?_)
  refine J_icmp_ge (tgt := 55) (pc' := 30) ok (dOf dX3_countStaying 15 rfl) rfl (by decide) ?_ ?_
  · exact J_fin (kx55 (s.1, s.2))
  · refine J_iload_n (pc' := 31) ok (dOf dX3_countStaying 16 rfl) rfl rfl rfl ?_
    refine J_aload_n (pc' := 32) ok (dOf dX3_countStaying 17 rfl) rfl rfl rfl ?_
    refine J_getR (ci := 3) (kf := 5) (C := RX3) (T := TX3) (N := 12) (pc' := 35) ok (dOf dX3_countStaying 18 rfl) rfl (by decide) rfl (by decide) win_3 wfl_X3_36 (fun a4 => ?_)
    refine J_iload (pc' := 37) ok (dOf dX3_countStaying 19 rfl) rfl rfl ?_
    refine J_iald (pc' := 38) ok (dOf dX3_countStaying 20 rfl) rfl (fun x5 => ?_)
    refine J_iload_n (pc' := 39) ok (dOf dX3_countStaying 21 rfl) rfl rfl rfl ?_
    refine J_icmp_ge (tgt := 46) (pc' := 42) ok (dOf dX3_countStaying 22 rfl) rfl (by decide) ?_ ?_
    · refine J_iconst (v := 0) (pc' := 47) ok (dOf dX3_countStaying 25 rfl) rfl (by decide) ?_
      exact Eng_countStaying_j47_J ok v0 v1 v2 s.1 s.2 s.1 0 h k1 kx55
    · refine J_iconst (v := 1) (pc' := 43) ok (dOf dX3_countStaying 23 rfl) rfl (by decide) ?_
      refine J_goto (tgt := 47) ok (dOf dX3_countStaying 24 rfl) (by decide) ?_
      exact Eng_countStaying_j47_J ok v0 v1 v2 s.1 s.2 s.1 1 h k1 kx55
def Eng_countStaying_j55 (v0 : Nat) (v1 : Nat) (v2 : Int32) (v3 : Int32) (v4 : Int32) (h : AHeap) : Option (Int32 × AHeap) :=
  some (v3, h)
theorem Eng_countStaying_j55_J {E : JE} {l : Launch} {G : GX} {v : Int32} {h' : AHeap} (ok : JOK E l G kEng_countStaying 0 0 (some (.int v)) h') (v0 : Nat) (v1 : Nat) (v2 : Int32) (v3 : Int32) (v4 : Int32) (h : AHeap) : J E kEng_countStaying (Eng_countStaying_j55 v0 v1 v2 v3 v4 h) (fun z => z = (v, h')) 55 [some (.ref v0), some (.ref v1), some (.int v2), some (.int v3), some (.int v4)] [] h 0 0 := by
  unfold Eng_countStaying_j55
  refine J_iload_n (pc' := 56) ok (dOf dX3_countStaying 30 rfl) rfl rfl rfl ?_
  exact J_ireturn ok (dOf dX3_countStaying 31 rfl) rfl (Nat.le_refl 0) (Nat.le_refl 0)
def Eng_countStaying (v0 : Nat) (v1 : Nat) (v2 : Int32) (h : AHeap) : Option (Int32 × AHeap) :=
  (gfI h v0 3 11).bind fun x1 => (if x1 = 0 then Eng_countStaying_j11 v0 v1 v2 h else (if ¬ v2 = 0 then (iter (Eng_countStaying_b21 v0 v1 v2 h) Lmax (0, 0)).bind (fun q21 => Eng_countStaying_j55 v0 v1 v2 q21.1 q21.2 h) else Eng_countStaying_j11 v0 v1 v2 h))
theorem t_Eng_countStaying {l : Launch} {G : GX} {v0 : Nat} {v1 : Nat} {v2 : Int32} {h : AHeap} {v : Int32} {h1 : AHeap} (hf : Eng_countStaying v0 v1 v2 h = some (v, h1)) : CT l G kEng_countStaying 0 0 [.ref v0, .ref v1, .int v2] h (some (.int v)) h1 := by
  refine CT_of (ls := [some (.ref v0), some (.ref v1), some (.int v2), none, none]) (Z := fun z => z = (v, h1)) (by decide +kernel) (Nat.le_of_ble_eq_true rfl) hf rfl ⟨rfl, rfl, rfl, trivial⟩ (fun E ok => ?_)
  unfold Eng_countStaying
  refine J_aload_n (pc' := 1) ok (dOf dX3_countStaying 0 rfl) rfl rfl rfl ?_
  refine J_getI (ci := 3) (kf := 11) (C := RX3) (T := TX3) (N := 12) (pc' := 4) ok (dOf dX3_countStaying 1 rfl) rfl (by decide) rfl (by decide) win_3 wfl_X3_120 (fun x1 => ?_)
  refine J_if_eq (tgt := 11) (pc' := 7) ok (dOf dX3_countStaying 2 rfl) rfl (by decide) ?_ ?_
  · exact Eng_countStaying_j11_J ok v0 v1 v2 h
  · refine J_iload_n (pc' := 8) ok (dOf dX3_countStaying 3 rfl) rfl rfl rfl ?_
    refine J_if_ne (tgt := 16) (pc' := 11) ok (dOf dX3_countStaying 4 rfl) rfl (by decide) ?_ ?_
    · refine J_iconst (v := 0) (pc' := 17) ok (dOf dX3_countStaying 8 rfl) rfl (by decide) ?_
      refine J_istore_n (ls' := [some (.ref v0), some (.ref v1), some (.int v2), some (.int 0), none]) (pc' := 18) ok (dOf dX3_countStaying 9 rfl) rfl rfl (Nat.le_of_ble_eq_true rfl) rfl rfl ?_
      refine J_iconst (v := 0) (pc' := 19) ok (dOf dX3_countStaying 10 rfl) rfl (by decide) ?_
      refine J_istore (ls' := [some (.ref v0), some (.ref v1), some (.int v2), some (.int 0), some (.int 0)]) (pc' := 21) ok (dOf dX3_countStaying 11 rfl) rfl (Nat.le_of_ble_eq_true rfl) rfl rfl ?_
      refine J_iter (lf := fun z21 => [some (.ref v0), some (.ref v1), some (.int v2), some (.int z21.1), some (.int z21.2)]) (sf := fun _ => []) (hf := fun z21 => h) (px := (fun q21 => 55)) (lx := (fun q21 => [some (.ref v0), some (.ref v1), some (.int v2), some (.int q21.1), some (.int q21.2)])) (sx := (fun q21 => [])) (hx := (fun q21 => h)) (fun Y2 z21 m1 m2 => Eng_countStaying_b21_J ok v0 v1 v2 h m1 m2 z21) (fun q21 => ?_) Lmax _
      exact Eng_countStaying_j55_J ok v0 v1 v2 q21.1 q21.2 h
    · exact Eng_countStaying_j11_J ok v0 v1 v2 h
-- X3_decide
abbrev kEng_decide : Cd := (yX3_decide, cX3_decide, 6, (some .boolean), 5, 124)
theorem dX3_decide : dcheck cX3_decide [(0, .aload_n 0, 1), (1, .getfield 21, 3), (4, .aload_n 1, 1), (5, .aload_n 2, 1), (6, .invokevirtual 53, 3), (9, .aload_n 0, 1), (10, .aload_n 0, 1), (11, .getfield 21, 3), (14, .aload_n 1, 1), (15, .invokevirtual 57, 3), (18, .putfield 61, 3), (21, .aload_n 0, 1), (22, .getfield 61, 3), (25, .iconst (-1), 1), (26, .if_icmp .ne 10, 3), (29, .aload_n 0, 1), (30, .iconst 2, 1), (31, .putfield 64, 3), (34, .iconst 1, 1), (35, .ireturn, 1), (36, .iconst 0, 1), (37, .istore 5, 2), (39, .iload 5, 2), (41, .aload_n 1, 1), (42, .getfield 65, 3), (45, .if_icmp .ge 56, 3), (48, .aload_n 0, 1), (49, .getfield 25, 3), (52, .iload 5, 2), (54, .aload_n 0, 1), (55, .getfield 12, 3), (58, .aload_n 1, 1), (59, .iload 5, 2), (61, .aload_n 0, 1), (62, .getfield 61, 3), (65, .invokevirtual 70, 3), (68, .iastore, 1), (69, .aload_n 0, 1), (70, .getfield 29, 3), (73, .iload 5, 2), (75, .aload_n 0, 1), (76, .getfield 21, 3), (79, .getfield 74, 3), (82, .iload 5, 2), (84, .sipush 256, 3), (87, .imul, 1), (88, .aload_n 0, 1), (89, .getfield 61, 3), (92, .iadd, 1), (93, .iaload, 1), (94, .iastore, 1), (95, .iinc 5 1, 3), (98, .goto (-59), 3), (101, .aload_n 0, 1), (102, .aload_n 1, 1), (103, .aload_n 2, 1), (104, .invokevirtual 75, 3), (107, .aload_n 0, 1), (108, .aload_n 1, 1), (109, .aload_n 3, 1), (110, .invokevirtual 78, 3), (113, .aload_n 0, 1), (114, .aload_n 0, 1), (115, .aload 4, 2), (117, .iconst 2, 1), (118, .iaload, 1), (119, .invokevirtual 82, 3), (122, .putfield 64, 3), (125, .aload_n 0, 1), (126, .getfield 64, 3), (129, .ifCond .eq 5, 3), (132, .iconst 1, 1), (133, .ireturn, 1), (134, .aload_n 0, 1), (135, .aload_n 1, 1), (136, .aload 4, 2), (138, .iconst 0, 1), (139, .iaload, 1), (140, .invokevirtual 86, 3), (143, .istore 5, 2), (145, .aload_n 0, 1), (146, .aload_n 2, 1), (147, .aload 4, 2), (149, .iconst 1, 1), (150, .iaload, 1), (151, .invokevirtual 90, 3), (154, .iload 5, 2), (156, .iadd, 1), (157, .aload 4, 2), (159, .iconst 3, 1), (160, .iaload, 1), (161, .if_icmp .gt 7, 3), (164, .iconst 1, 1), (165, .goto 4, 3), (168, .iconst 0, 1), (169, .ireturn, 1)] = true := by decide +kernel
theorem cw_Eng_decide {k : Cd} (h1 : kEng_decide.2.2.2.2.1 + 1 ≤ k.2.2.2.2.1) (h2 : 8 + (kEng_decide.2.2.1 + 11) + kEng_decide.2.2.2.2.2 ≤ k.2.2.2.2.2) : Cw k kEng_decide 4 := ⟨wcode_X3_decide, wini_SplitProgram_Engine, ⟨by decide, by decide, by decide +kernel⟩, h1, h2⟩
def Eng_decide_b39 (v0 : Nat) (v1 : Nat) (v2 : Nat) (v3 : Nat) (v4 : Nat) (s : Int32 × AHeap) : Option ((Int32 × AHeap) ⊕ ((Int32 × AHeap))) :=
  (gfI s.2 v1 6 2).bind fun x8 => (if x8 ≤ s.1 then some (.inr (s.1, s.2)) else (gfR s.2 v0 3 2).bind fun a9 => (gfR s.2 v0 3 0).bind fun a10 => (gfI s.2 v0 3 6).bind fun x11 => (chk s.2 a10 0).bind fun _ => bnd2 (Book_priceAt a10 v1 s.1 x11 s.2) fun x13 h12 => (ast 0 h12 a9 s.1 x13).bind fun h14 => (gfR h14 v0 3 3).bind fun a15 => (gfR h14 v0 3 1).bind fun a16 => (gfR h14 a16 1 1).bind fun a17 => (gfI h14 v0 3 6).bind fun x18 => (ald 0 h14 a17 ((s.1 * 256) + x18)).bind fun x19 => (ast 0 h14 a15 s.1 x19).bind fun h20 => some (.inl (s.1 + 1, h20)))
theorem Eng_decide_b39_J {E : JE} {l : Launch} {G : GX} {r : Option Value} {h' : AHeap} (ok : JOK E l G kEng_decide 0 0 r h') (v0 : Nat) (v1 : Nat) (v2 : Nat) (v3 : Nat) (v4 : Nat) {Y : (Int32 × AHeap) ⊕ ((Int32 × AHeap)) → Prop} (k1 : ∀ s' : Int32 × AHeap, Y (.inl s') → JW E kEng_decide 39 [some (.ref v0), some (.ref v1), some (.ref v2), some (.ref v3), some (.ref v4), some (.int s'.1)] [] s'.2 0 0) (kx101 : ∀ q : Int32 × AHeap, Y (.inr q) → JW E kEng_decide 101 [some (.ref v0), some (.ref v1), some (.ref v2), some (.ref v3), some (.ref v4), some (.int q.1)] [] q.2 0 0) (s : Int32 × AHeap) : J E kEng_decide (Eng_decide_b39 v0 v1 v2 v3 v4 s) Y 39 [some (.ref v0), some (.ref v1), some (.ref v2), some (.ref v3), some (.ref v4), some (.int s.1)] [] s.2 0 0 := by
  unfold Eng_decide_b39
  refine J_iload (pc' := 41) ok (dOf dX3_decide 22 rfl) rfl rfl ?_
  refine J_aload_n (pc' := 42) ok (dOf dX3_decide 23 rfl) rfl rfl rfl ?_
  refine J_getI (ci := 6) (kf := 2) (C := RX6) (T := TX6) (N := 9) (pc' := 45) ok (dOf dX3_decide 24 rfl) rfl (by decide) rfl (by decide) win_6 wfl_X3_65 (fun x8 => ?_)
  refine J_icmp_ge (tgt := 101) (pc' := 48) ok (dOf dX3_decide 25 rfl) rfl (by decide) ?_ ?_
  · exact J_fin (kx101 (s.1, s.2))
  · refine J_aload_n (pc' := 49) ok (dOf dX3_decide 26 rfl) rfl rfl rfl ?_
    refine J_getR (ci := 3) (kf := 2) (C := RX3) (T := TX3) (N := 12) (pc' := 52) ok (dOf dX3_decide 27 rfl) rfl (by decide) rfl (by decide) win_3 wfl_X3_25 (fun a9 => ?_)
    refine J_iload (pc' := 54) ok (dOf dX3_decide 28 rfl) rfl rfl ?_
    refine J_aload_n (pc' := 55) ok (dOf dX3_decide 29 rfl) rfl rfl rfl ?_
    refine J_getR (ci := 3) (kf := 0) (C := RX3) (T := TX3) (N := 12) (pc' := 58) ok (dOf dX3_decide 30 rfl) rfl (by decide) rfl (by decide) win_3 wfl_X3_12 (fun a10 => ?_)
    refine J_aload_n (pc' := 59) ok (dOf dX3_decide 31 rfl) rfl rfl rfl ?_
    refine J_iload (pc' := 61) ok (dOf dX3_decide 32 rfl) rfl rfl ?_
    refine J_aload_n (pc' := 62) ok (dOf dX3_decide 33 rfl) rfl rfl rfl ?_
    refine J_getI (ci := 3) (kf := 6) (C := RX3) (T := TX3) (N := 12) (pc' := 65) ok (dOf dX3_decide 34 rfl) rfl (by decide) rfl (by decide) win_3 wfl_X3_61 (fun x11 => ?_)
    refine J_callVi (k2 := kBook_priceAt) (ci := 0) (T := TX0) (N := 2) (as := [.ref v1, .int s.1, .int x11]) (pc' := 68) ok (dOf dX3_decide 35 rfl) rfl (cw_Book_priceAt (by decide) (by decide)) wml_X3_70 winst_X0_priceAt wsel_X0_priceAt rfl ⟨Nat.le_refl 0, Nat.le_refl 0⟩ (Nat.le_of_ble_eq_true rfl) rfl (fun _ _ hf => t_Book_priceAt hf) (fun x13 h12 => ?_)
    refine J_iast (pc' := 69) ok (dOf dX3_decide 36 rfl) rfl (fun h14 _ => ?_)
    refine J_aload_n (pc' := 70) ok (dOf dX3_decide 37 rfl) rfl rfl rfl ?_
    refine J_getR (ci := 3) (kf := 3) (C := RX3) (T := TX3) (N := 12) (pc' := 73) ok (dOf dX3_decide 38 rfl) rfl (by decide) rfl (by decide) win_3 wfl_X3_29 (fun a15 => ?_)
    refine J_iload (pc' := 75) ok (dOf dX3_decide 39 rfl) rfl rfl ?_
    refine J_aload_n (pc' := 76) ok (dOf dX3_decide 40 rfl) rfl rfl rfl ?_
    refine J_getR (ci := 3) (kf := 1) (C := RX3) (T := TX3) (N := 12) (pc' := 79) ok (dOf dX3_decide 41 rfl) rfl (by decide) rfl (by decide) win_3 wfl_X3_21 (fun a16 => ?_)
    refine J_getR (ci := 1) (kf := 1) (C := RX1) (T := TX1) (N := 3) (pc' := 82) ok (dOf dX3_decide 42 rfl) rfl (by decide) rfl (by decide) win_1 wfl_X3_74 (fun a17 => ?_)
    refine J_iload (pc' := 84) ok (dOf dX3_decide 43 rfl) rfl rfl ?_
    refine J_sipush (v := 256) (pc' := 87) ok (dOf dX3_decide 44 rfl) rfl (by decide) ?_
    refine J_imul (pc' := 88) ok (dOf dX3_decide 45 rfl) rfl ?_
    refine J_aload_n (pc' := 89) ok (dOf dX3_decide 46 rfl) rfl rfl rfl ?_
    refine J_getI (ci := 3) (kf := 6) (C := RX3) (T := TX3) (N := 12) (pc' := 92) ok (dOf dX3_decide 47 rfl) rfl (by decide) rfl (by decide) win_3 wfl_X3_61 (fun x18 => ?_)
    refine J_iadd (pc' := 93) ok (dOf dX3_decide 48 rfl) rfl ?_
    refine J_iald (pc' := 94) ok (dOf dX3_decide 49 rfl) rfl (fun x19 => ?_)
    refine J_iast (pc' := 95) ok (dOf dX3_decide 50 rfl) rfl (fun h20 _ => ?_)
    refine J_iinc (v := s.1 + 1) (ls' := [some (.ref v0), some (.ref v1), some (.ref v2), some (.ref v3), some (.ref v4), some (.int (s.1 + 1))]) (pc' := 98) ok (dOf dX3_decide 51 rfl) rfl rfl (by rfl) (Nat.le_of_ble_eq_true rfl) rfl rfl ?_
    refine J_goto (tgt := 39) ok (dOf dX3_decide 52 rfl) (by decide) ?_
    exact J_fin (k1 (s.1 + 1, h20))
def Eng_decide_j169 (v0 : Nat) (v1 : Nat) (v2 : Nat) (v3 : Nat) (v4 : Nat) (v5 : Int32) (t0 : Int32) (h : AHeap) : Option (Int32 × AHeap) :=
  (bz t0).bind fun z => some (z, h)
theorem Eng_decide_j169_J {E : JE} {l : Launch} {G : GX} {v : Int32} {h' : AHeap} (ok : JOK E l G kEng_decide 0 0 (some (.int v)) h') (v0 : Nat) (v1 : Nat) (v2 : Nat) (v3 : Nat) (v4 : Nat) (v5 : Int32) (t0 : Int32) (h : AHeap) : J E kEng_decide (Eng_decide_j169 v0 v1 v2 v3 v4 v5 t0 h) (fun z => z = (v, h')) 169 [some (.ref v0), some (.ref v1), some (.ref v2), some (.ref v3), some (.ref v4), some (.int v5)] [.int t0] h 0 0 := by
  unfold Eng_decide_j169
  exact J_zreturn ok (dOf dX3_decide 95 rfl) rfl (Nat.le_refl 0) (Nat.le_refl 0)
def Eng_decide_j101 (v0 : Nat) (v1 : Nat) (v2 : Nat) (v3 : Nat) (v4 : Nat) (v5 : Int32) (h : AHeap) : Option (Int32 × AHeap) :=
  (chk h v0 3).bind fun _ => bnd2 (Eng_findAges v0 v1 v2 h) fun _ h21 => (chk h21 v0 3).bind fun _ => bnd2 (Eng_moveBounds v0 v1 v3 h21) fun _ h22 => (ald 0 h22 v4 2).bind fun x23 => (chk h22 v0 3).bind fun _ => bnd2 (Eng_judge v0 x23 h22) fun x25 h24 => (pfV h24 v0 3 7 (.int x25)).bind fun h26 => (gfI h26 v0 3 7).bind fun x27 => (if x27 = 0 then (ald 0 h26 v4 0).bind fun x28 => (chk h26 v0 3).bind fun _ => bnd2 (Eng_pick v0 v1 x28 h26) fun x30 h29 => (ald 0 h29 v4 1).bind fun x31 => (chk h29 v0 3).bind fun _ => bnd2 (Eng_countStaying v0 v2 x31 h29) fun x33 h32 => (ald 0 h32 v4 3).bind fun x34 => (if x34 < (x33 + x30) then Eng_decide_j169 v0 v1 v2 v3 v4 x30 0 h32 else Eng_decide_j169 v0 v1 v2 v3 v4 x30 1 h32) else (bz 1).bind fun z => some (z, h26))
theorem Eng_decide_j101_J {E : JE} {l : Launch} {G : GX} {v : Int32} {h' : AHeap} (ok : JOK E l G kEng_decide 0 0 (some (.int v)) h') (v0 : Nat) (v1 : Nat) (v2 : Nat) (v3 : Nat) (v4 : Nat) (v5 : Int32) (h : AHeap) : J E kEng_decide (Eng_decide_j101 v0 v1 v2 v3 v4 v5 h) (fun z => z = (v, h')) 101 [some (.ref v0), some (.ref v1), some (.ref v2), some (.ref v3), some (.ref v4), some (.int v5)] [] h 0 0 := by
  unfold Eng_decide_j101
  refine J_aload_n (pc' := 102) ok (dOf dX3_decide 53 rfl) rfl rfl rfl ?_
  refine J_aload_n (pc' := 103) ok (dOf dX3_decide 54 rfl) rfl rfl rfl ?_
  refine J_aload_n (pc' := 104) ok (dOf dX3_decide 55 rfl) rfl rfl rfl ?_
  refine J_callVv (k2 := kEng_findAges) (ci := 3) (T := TX3) (N := 12) (as := [.ref v1, .ref v2]) (pc' := 107) ok (dOf dX3_decide 56 rfl) rfl (cw_Eng_findAges (by decide) (by decide)) wml_X3_75 winst_X3_findAges wsel_X3_findAges rfl ⟨Nat.le_refl 0, Nat.le_refl 0⟩ (Nat.le_of_ble_eq_true rfl) rfl (fun _ _ hf => t_Eng_findAges hf) (fun _ h21 => ?_)
  refine J_aload_n (pc' := 108) ok (dOf dX3_decide 57 rfl) rfl rfl rfl ?_
  refine J_aload_n (pc' := 109) ok (dOf dX3_decide 58 rfl) rfl rfl rfl ?_
  refine J_aload_n (pc' := 110) ok (dOf dX3_decide 59 rfl) rfl rfl rfl ?_
  refine J_callVv (k2 := kEng_moveBounds) (ci := 3) (T := TX3) (N := 12) (as := [.ref v1, .ref v3]) (pc' := 113) ok (dOf dX3_decide 60 rfl) rfl (cw_Eng_moveBounds (by decide) (by decide)) wml_X3_78 winst_X3_moveBounds wsel_X3_moveBounds rfl ⟨Nat.le_refl 0, Nat.le_refl 0⟩ (Nat.le_of_ble_eq_true rfl) rfl (fun _ _ hf => t_Eng_moveBounds hf) (fun _ h22 => ?_)
  refine J_aload_n (pc' := 114) ok (dOf dX3_decide 61 rfl) rfl rfl rfl ?_
  refine J_aload_n (pc' := 115) ok (dOf dX3_decide 62 rfl) rfl rfl rfl ?_
  refine J_aload (pc' := 117) ok (dOf dX3_decide 63 rfl) rfl rfl ?_
  refine J_iconst (v := 2) (pc' := 118) ok (dOf dX3_decide 64 rfl) rfl (by decide) ?_
  refine J_iald (pc' := 119) ok (dOf dX3_decide 65 rfl) rfl (fun x23 => ?_)
  refine J_callVi (k2 := kEng_judge) (ci := 3) (T := TX3) (N := 12) (as := [.int x23]) (pc' := 122) ok (dOf dX3_decide 66 rfl) rfl (cw_Eng_judge (by decide) (by decide)) wml_X3_82 winst_X3_judge wsel_X3_judge rfl ⟨Nat.le_refl 0, Nat.le_refl 0⟩ (Nat.le_of_ble_eq_true rfl) rfl (fun _ _ hf => t_Eng_judge hf) (fun x25 h24 => ?_)
  refine J_putI (ci := 3) (kf := 7) (C := RX3) (T := TX3) (N := 12) (pc' := 125) ok tyX3 (dOf dX3_decide 67 rfl) rfl rfl (by decide) win_3 tyX3_ok nmX3 rfl rfl wfl_X3_64 (fun h26 _ => ?_)
  refine J_aload_n (pc' := 126) ok (dOf dX3_decide 68 rfl) rfl rfl rfl ?_
  refine J_getI (ci := 3) (kf := 7) (C := RX3) (T := TX3) (N := 12) (pc' := 129) ok (dOf dX3_decide 69 rfl) rfl (by decide) rfl (by decide) win_3 wfl_X3_64 (fun x27 => ?_)
  refine J_if_eq (tgt := 134) (pc' := 132) ok (dOf dX3_decide 70 rfl) rfl (by decide) ?_ ?_
  · refine J_aload_n (pc' := 135) ok (dOf dX3_decide 73 rfl) rfl rfl rfl ?_
    refine J_aload_n (pc' := 136) ok (dOf dX3_decide 74 rfl) rfl rfl rfl ?_
    refine J_aload (pc' := 138) ok (dOf dX3_decide 75 rfl) rfl rfl ?_
    refine J_iconst (v := 0) (pc' := 139) ok (dOf dX3_decide 76 rfl) rfl (by decide) ?_
    refine J_iald (pc' := 140) ok (dOf dX3_decide 77 rfl) rfl (fun x28 => ?_)
    refine J_callVi (k2 := kEng_pick) (ci := 3) (T := TX3) (N := 12) (as := [.ref v1, .int x28]) (pc' := 143) ok (dOf dX3_decide 78 rfl) rfl (cw_Eng_pick (by decide) (by decide)) wml_X3_86 winst_X3_pick wsel_X3_pick rfl ⟨Nat.le_refl 0, Nat.le_refl 0⟩ (Nat.le_of_ble_eq_true rfl) rfl (fun _ _ hf => t_Eng_pick hf) (fun x30 h29 => ?_)
    refine J_istore (ls' := [some (.ref v0), some (.ref v1), some (.ref v2), some (.ref v3), some (.ref v4), some (.int x30)]) (pc' := 145) ok (dOf dX3_decide 79 rfl) rfl (Nat.le_of_ble_eq_true rfl) rfl rfl ?_
    refine J_aload_n (pc' := 146) ok (dOf dX3_decide 80 rfl) rfl rfl rfl ?_
    refine J_aload_n (pc' := 147) ok (dOf dX3_decide 81 rfl) rfl rfl rfl ?_
    refine J_aload (pc' := 149) ok (dOf dX3_decide 82 rfl) rfl rfl ?_
    refine J_iconst (v := 1) (pc' := 150) ok (dOf dX3_decide 83 rfl) rfl (by decide) ?_
    refine J_iald (pc' := 151) ok (dOf dX3_decide 84 rfl) rfl (fun x31 => ?_)
    refine J_callVi (k2 := kEng_countStaying) (ci := 3) (T := TX3) (N := 12) (as := [.ref v2, .int x31]) (pc' := 154) ok (dOf dX3_decide 85 rfl) rfl (cw_Eng_countStaying (by decide) (by decide)) wml_X3_90 winst_X3_countStaying wsel_X3_countStaying rfl ⟨Nat.le_refl 0, Nat.le_refl 0⟩ (Nat.le_of_ble_eq_true rfl) rfl (fun _ _ hf => t_Eng_countStaying hf) (fun x33 h32 => ?_)
    refine J_iload (pc' := 156) ok (dOf dX3_decide 86 rfl) rfl rfl ?_
    refine J_iadd (pc' := 157) ok (dOf dX3_decide 87 rfl) rfl ?_
    refine J_aload (pc' := 159) ok (dOf dX3_decide 88 rfl) rfl rfl ?_
    refine J_iconst (v := 3) (pc' := 160) ok (dOf dX3_decide 89 rfl) rfl (by decide) ?_
    refine J_iald (pc' := 161) ok (dOf dX3_decide 90 rfl) rfl (fun x34 => ?_)
    refine J_icmp_gt (tgt := 168) (pc' := 164) ok (dOf dX3_decide 91 rfl) rfl (by decide) ?_ ?_
    · refine J_iconst (v := 0) (pc' := 169) ok (dOf dX3_decide 94 rfl) rfl (by decide) ?_
      exact Eng_decide_j169_J ok v0 v1 v2 v3 v4 x30 0 h32
    · refine J_iconst (v := 1) (pc' := 165) ok (dOf dX3_decide 92 rfl) rfl (by decide) ?_
      refine J_goto (tgt := 169) ok (dOf dX3_decide 93 rfl) (by decide) ?_
      exact Eng_decide_j169_J ok v0 v1 v2 v3 v4 x30 1 h32
  · refine J_iconst (v := 1) (pc' := 133) ok (dOf dX3_decide 71 rfl) rfl (by decide) ?_
    exact J_zreturn ok (dOf dX3_decide 72 rfl) rfl (Nat.le_refl 0) (Nat.le_refl 0)
def Eng_decide (v0 : Nat) (v1 : Nat) (v2 : Nat) (v3 : Nat) (v4 : Nat) (h : AHeap) : Option (Int32 × AHeap) :=
  (gfR h v0 3 1).bind fun a1 => (chk h a1 1).bind fun _ => bnd2 (Bnds_freshen a1 v1 v2 h) fun _ h2 => (gfR h2 v0 3 1).bind fun a3 => (chk h2 a3 1).bind fun _ => bnd2 (Bnds_lowestPlan a3 v1 h2) fun x5 h4 => (pfV h4 v0 3 6 (.int x5)).bind fun h6 => (gfI h6 v0 3 6).bind fun x7 => (if ¬ x7 = (-1) then (iter (Eng_decide_b39 v0 v1 v2 v3 v4) Lmax (0, h6)).bind (fun q39 => Eng_decide_j101 v0 v1 v2 v3 v4 q39.1 q39.2) else (pfV h6 v0 3 7 (.int 2)).bind fun h35 => (bz 1).bind fun z => some (z, h35))
theorem t_Eng_decide {l : Launch} {G : GX} {v0 : Nat} {v1 : Nat} {v2 : Nat} {v3 : Nat} {v4 : Nat} {h : AHeap} {v : Int32} {h1 : AHeap} (hf : Eng_decide v0 v1 v2 v3 v4 h = some (v, h1)) : CT l G kEng_decide 0 0 [.ref v0, .ref v1, .ref v2, .ref v3, .ref v4] h (some (.int v)) h1 := by
  refine CT_of (ls := [some (.ref v0), some (.ref v1), some (.ref v2), some (.ref v3), some (.ref v4), none]) (Z := fun z => z = (v, h1)) (by decide +kernel) (Nat.le_of_ble_eq_true rfl) hf rfl ⟨rfl, rfl, rfl, rfl, rfl, trivial⟩ (fun E ok => ?_)
  unfold Eng_decide
  refine J_aload_n (pc' := 1) ok (dOf dX3_decide 0 rfl) rfl rfl rfl ?_
  refine J_getR (ci := 3) (kf := 1) (C := RX3) (T := TX3) (N := 12) (pc' := 4) ok (dOf dX3_decide 1 rfl) rfl (by decide) rfl (by decide) win_3 wfl_X3_21 (fun a1 => ?_)
  refine J_aload_n (pc' := 5) ok (dOf dX3_decide 2 rfl) rfl rfl rfl ?_
  refine J_aload_n (pc' := 6) ok (dOf dX3_decide 3 rfl) rfl rfl rfl ?_
  refine J_callVv (k2 := kBnds_freshen) (ci := 1) (T := TX1) (N := 3) (as := [.ref v1, .ref v2]) (pc' := 9) ok (dOf dX3_decide 4 rfl) rfl (cw_Bnds_freshen (by decide) (by decide)) wml_X3_53 winst_X1_freshen wsel_X1_freshen rfl ⟨Nat.le_refl 0, Nat.le_refl 0⟩ (Nat.le_of_ble_eq_true rfl) rfl (fun _ _ hf => t_Bnds_freshen hf) (fun _ h2 => ?_)
  refine J_aload_n (pc' := 10) ok (dOf dX3_decide 5 rfl) rfl rfl rfl ?_
  refine J_aload_n (pc' := 11) ok (dOf dX3_decide 6 rfl) rfl rfl rfl ?_
  refine J_getR (ci := 3) (kf := 1) (C := RX3) (T := TX3) (N := 12) (pc' := 14) ok (dOf dX3_decide 7 rfl) rfl (by decide) rfl (by decide) win_3 wfl_X3_21 (fun a3 => ?_)
  refine J_aload_n (pc' := 15) ok (dOf dX3_decide 8 rfl) rfl rfl rfl ?_
  refine J_callVi (k2 := kBnds_lowestPlan) (ci := 1) (T := TX1) (N := 3) (as := [.ref v1]) (pc' := 18) ok (dOf dX3_decide 9 rfl) rfl (cw_Bnds_lowestPlan (by decide) (by decide)) wml_X3_57 winst_X1_lowestPlan wsel_X1_lowestPlan rfl ⟨Nat.le_refl 0, Nat.le_refl 0⟩ (Nat.le_of_ble_eq_true rfl) rfl (fun _ _ hf => t_Bnds_lowestPlan hf) (fun x5 h4 => ?_)
  refine J_putI (ci := 3) (kf := 6) (C := RX3) (T := TX3) (N := 12) (pc' := 21) ok tyX3 (dOf dX3_decide 10 rfl) rfl rfl (by decide) win_3 tyX3_ok nmX3 rfl rfl wfl_X3_61 (fun h6 _ => ?_)
  refine J_aload_n (pc' := 22) ok (dOf dX3_decide 11 rfl) rfl rfl rfl ?_
  refine J_getI (ci := 3) (kf := 6) (C := RX3) (T := TX3) (N := 12) (pc' := 25) ok (dOf dX3_decide 12 rfl) rfl (by decide) rfl (by decide) win_3 wfl_X3_61 (fun x7 => ?_)
  refine J_iconst (v := (-1)) (pc' := 26) ok (dOf dX3_decide 13 rfl) rfl (by decide) ?_
  refine J_icmp_ne (tgt := 36) (pc' := 29) ok (dOf dX3_decide 14 rfl) rfl (by decide) ?_ ?_
  · refine J_iconst (v := 0) (pc' := 37) ok (dOf dX3_decide 20 rfl) rfl (by decide) ?_
    refine J_istore (ls' := [some (.ref v0), some (.ref v1), some (.ref v2), some (.ref v3), some (.ref v4), some (.int 0)]) (pc' := 39) ok (dOf dX3_decide 21 rfl) rfl (Nat.le_of_ble_eq_true rfl) rfl rfl ?_
    refine J_iter (lf := fun z39 => [some (.ref v0), some (.ref v1), some (.ref v2), some (.ref v3), some (.ref v4), some (.int z39.1)]) (sf := fun _ => []) (hf := fun z39 => z39.2) (px := (fun q39 => 101)) (lx := (fun q39 => [some (.ref v0), some (.ref v1), some (.ref v2), some (.ref v3), some (.ref v4), some (.int q39.1)])) (sx := (fun q39 => [])) (hx := (fun q39 => q39.2)) (fun Y2 z39 m1 m2 => Eng_decide_b39_J ok v0 v1 v2 v3 v4 m1 m2 z39) (fun q39 => ?_) Lmax _
    exact Eng_decide_j101_J ok v0 v1 v2 v3 v4 q39.1 q39.2
  · refine J_aload_n (pc' := 30) ok (dOf dX3_decide 15 rfl) rfl rfl rfl ?_
    refine J_iconst (v := 2) (pc' := 31) ok (dOf dX3_decide 16 rfl) rfl (by decide) ?_
    refine J_putI (ci := 3) (kf := 7) (C := RX3) (T := TX3) (N := 12) (pc' := 34) ok tyX3 (dOf dX3_decide 17 rfl) rfl rfl (by decide) win_3 tyX3_ok nmX3 rfl rfl wfl_X3_64 (fun h35 _ => ?_)
    refine J_iconst (v := 1) (pc' := 35) ok (dOf dX3_decide 18 rfl) rfl (by decide) ?_
    exact J_zreturn ok (dOf dX3_decide 19 rfl) rfl (Nat.le_refl 0) (Nat.le_refl 0)
-- X2_move
abbrev kCuts_move : Cd := (yX2_move, cX2_move, 3, none, 1, 45)
theorem dX2_move : dcheck cX2_move [(0, .iload_n 1, 1), (1, .iload_n 2, 1), (2, .if_icmp .ne 4, 3), (5, .return_, 1), (6, .aload_n 0, 1), (7, .getfield 15, 3), (10, .iload_n 2, 1), (11, .aload_n 0, 1), (12, .getfield 15, 3), (15, .iload_n 1, 1), (16, .iaload, 1), (17, .iastore, 1), (18, .aload_n 0, 1), (19, .getfield 19, 3), (22, .iload_n 2, 1), (23, .aload_n 0, 1), (24, .getfield 19, 3), (27, .iload_n 1, 1), (28, .iaload, 1), (29, .iastore, 1), (30, .aload_n 0, 1), (31, .getfield 22, 3), (34, .iload_n 2, 1), (35, .aload_n 0, 1), (36, .getfield 22, 3), (39, .iload_n 1, 1), (40, .iaload, 1), (41, .iastore, 1), (42, .aload_n 0, 1), (43, .getfield 25, 3), (46, .iload_n 1, 1), (47, .iconst 4, 1), (48, .imul, 1), (49, .aload_n 0, 1), (50, .getfield 25, 3), (53, .iload_n 2, 1), (54, .iconst 4, 1), (55, .imul, 1), (56, .iconst 4, 1), (57, .invokestatic 40, 3), (60, .aload_n 0, 1), (61, .getfield 28, 3), (64, .iload_n 1, 1), (65, .bipush 6, 2), (67, .imul, 1), (68, .aload_n 0, 1), (69, .getfield 28, 3), (72, .iload_n 2, 1), (73, .bipush 6, 2), (75, .imul, 1), (76, .bipush 6, 2), (78, .invokestatic 40, 3), (81, .return_, 1)] = true := by decide +kernel
theorem cw_Cuts_move {k : Cd} (h1 : kCuts_move.2.2.2.2.1 + 1 ≤ k.2.2.2.2.1) (h2 : 8 + (kCuts_move.2.2.1 + 11) + kCuts_move.2.2.2.2.2 ≤ k.2.2.2.2.2) : Cw k kCuts_move 2 := ⟨wcode_X2_move, wini_SplitProgram_Cuts, ⟨by decide, by decide, by decide +kernel⟩, h1, h2⟩
def Cuts_move (v0 : Nat) (v1 : Int32) (v2 : Int32) (h : AHeap) : Option (Unit × AHeap) :=
  (if ¬ v1 = v2 then (gfR h v0 2 2).bind fun a1 => (gfR h v0 2 2).bind fun a2 => (ald 0 h a2 v1).bind fun x3 => (ast 0 h a1 v2 x3).bind fun h4 => (gfR h4 v0 2 3).bind fun a5 => (gfR h4 v0 2 3).bind fun a6 => (ald 0 h4 a6 v1).bind fun x7 => (ast 0 h4 a5 v2 x7).bind fun h8 => (gfR h8 v0 2 4).bind fun a9 => (gfR h8 v0 2 4).bind fun a10 => (ald 0 h8 a10 v1).bind fun x11 => (ast 0 h8 a9 v2 x11).bind fun h12 => (gfR h12 v0 2 5).bind fun a13 => (gfR h12 v0 2 5).bind fun a14 => (acp h12 a13 (v1 * 4) a14 (v2 * 4) 4).bind fun h15 => (gfR h15 v0 2 6).bind fun a16 => (gfR h15 v0 2 6).bind fun a17 => (acp h15 a16 (v1 * 6) a17 (v2 * 6) 6).bind fun h18 => some ((), h18) else some ((), h))
theorem t_Cuts_move {l : Launch} {G : GX} {v0 : Nat} {v1 : Int32} {v2 : Int32} {h : AHeap} {h1 : AHeap} (hf : Cuts_move v0 v1 v2 h = some ((), h1)) : CT l G kCuts_move 0 0 [.ref v0, .int v1, .int v2] h none h1 := by
  refine CT_of (ls := [some (.ref v0), some (.int v1), some (.int v2)]) (Z := fun z => z = ((), h1)) (by decide +kernel) (Nat.le_of_ble_eq_true rfl) hf rfl ⟨rfl, rfl, rfl, trivial⟩ (fun E ok => ?_)
  unfold Cuts_move
  refine J_iload_n (pc' := 1) ok (dOf dX2_move 0 rfl) rfl rfl rfl ?_
  refine J_iload_n (pc' := 2) ok (dOf dX2_move 1 rfl) rfl rfl rfl ?_
  refine J_icmp_ne (tgt := 6) (pc' := 5) ok (dOf dX2_move 2 rfl) rfl (by decide) ?_ ?_
  · refine J_aload_n (pc' := 7) ok (dOf dX2_move 4 rfl) rfl rfl rfl ?_
    refine J_getR (ci := 2) (kf := 2) (C := RX2) (T := TX2) (N := 7) (pc' := 10) ok (dOf dX2_move 5 rfl) rfl (by decide) rfl (by decide) win_2 wfl_X2_15 (fun a1 => ?_)
    refine J_iload_n (pc' := 11) ok (dOf dX2_move 6 rfl) rfl rfl rfl ?_
    refine J_aload_n (pc' := 12) ok (dOf dX2_move 7 rfl) rfl rfl rfl ?_
    refine J_getR (ci := 2) (kf := 2) (C := RX2) (T := TX2) (N := 7) (pc' := 15) ok (dOf dX2_move 8 rfl) rfl (by decide) rfl (by decide) win_2 wfl_X2_15 (fun a2 => ?_)
    refine J_iload_n (pc' := 16) ok (dOf dX2_move 9 rfl) rfl rfl rfl ?_
    refine J_iald (pc' := 17) ok (dOf dX2_move 10 rfl) rfl (fun x3 => ?_)
    refine J_iast (pc' := 18) ok (dOf dX2_move 11 rfl) rfl (fun h4 _ => ?_)
    refine J_aload_n (pc' := 19) ok (dOf dX2_move 12 rfl) rfl rfl rfl ?_
    refine J_getR (ci := 2) (kf := 3) (C := RX2) (T := TX2) (N := 7) (pc' := 22) ok (dOf dX2_move 13 rfl) rfl (by decide) rfl (by decide) win_2 wfl_X2_19 (fun a5 => ?_)
    refine J_iload_n (pc' := 23) ok (dOf dX2_move 14 rfl) rfl rfl rfl ?_
    refine J_aload_n (pc' := 24) ok (dOf dX2_move 15 rfl) rfl rfl rfl ?_
    refine J_getR (ci := 2) (kf := 3) (C := RX2) (T := TX2) (N := 7) (pc' := 27) ok (dOf dX2_move 16 rfl) rfl (by decide) rfl (by decide) win_2 wfl_X2_19 (fun a6 => ?_)
    refine J_iload_n (pc' := 28) ok (dOf dX2_move 17 rfl) rfl rfl rfl ?_
    refine J_iald (pc' := 29) ok (dOf dX2_move 18 rfl) rfl (fun x7 => ?_)
    refine J_iast (pc' := 30) ok (dOf dX2_move 19 rfl) rfl (fun h8 _ => ?_)
    refine J_aload_n (pc' := 31) ok (dOf dX2_move 20 rfl) rfl rfl rfl ?_
    refine J_getR (ci := 2) (kf := 4) (C := RX2) (T := TX2) (N := 7) (pc' := 34) ok (dOf dX2_move 21 rfl) rfl (by decide) rfl (by decide) win_2 wfl_X2_22 (fun a9 => ?_)
    refine J_iload_n (pc' := 35) ok (dOf dX2_move 22 rfl) rfl rfl rfl ?_
    refine J_aload_n (pc' := 36) ok (dOf dX2_move 23 rfl) rfl rfl rfl ?_
    refine J_getR (ci := 2) (kf := 4) (C := RX2) (T := TX2) (N := 7) (pc' := 39) ok (dOf dX2_move 24 rfl) rfl (by decide) rfl (by decide) win_2 wfl_X2_22 (fun a10 => ?_)
    refine J_iload_n (pc' := 40) ok (dOf dX2_move 25 rfl) rfl rfl rfl ?_
    refine J_iald (pc' := 41) ok (dOf dX2_move 26 rfl) rfl (fun x11 => ?_)
    refine J_iast (pc' := 42) ok (dOf dX2_move 27 rfl) rfl (fun h12 _ => ?_)
    refine J_aload_n (pc' := 43) ok (dOf dX2_move 28 rfl) rfl rfl rfl ?_
    refine J_getR (ci := 2) (kf := 5) (C := RX2) (T := TX2) (N := 7) (pc' := 46) ok (dOf dX2_move 29 rfl) rfl (by decide) rfl (by decide) win_2 wfl_X2_25 (fun a13 => ?_)
    refine J_iload_n (pc' := 47) ok (dOf dX2_move 30 rfl) rfl rfl rfl ?_
    refine J_iconst (v := 4) (pc' := 48) ok (dOf dX2_move 31 rfl) rfl (by decide) ?_
    refine J_imul (pc' := 49) ok (dOf dX2_move 32 rfl) rfl ?_
    refine J_aload_n (pc' := 50) ok (dOf dX2_move 33 rfl) rfl rfl rfl ?_
    refine J_getR (ci := 2) (kf := 5) (C := RX2) (T := TX2) (N := 7) (pc' := 53) ok (dOf dX2_move 34 rfl) rfl (by decide) rfl (by decide) win_2 wfl_X2_25 (fun a14 => ?_)
    refine J_iload_n (pc' := 54) ok (dOf dX2_move 35 rfl) rfl rfl rfl ?_
    refine J_iconst (v := 4) (pc' := 55) ok (dOf dX2_move 36 rfl) rfl (by decide) ?_
    refine J_imul (pc' := 56) ok (dOf dX2_move 37 rfl) rfl ?_
    refine J_iconst (v := 4) (pc' := 57) ok (dOf dX2_move 38 rfl) rfl (by decide) ?_
    refine J_acp (pc' := 60) ok (dOf dX2_move 39 rfl) rfl wml_X2_40 wnat_java_lang_System_arraycopy wstat_java_lang_System_arraycopy wini_java_lang_System (Nat.le_of_ble_eq_true rfl) (Nat.le_of_ble_eq_true rfl) (fun h15 _ => ?_)
    refine J_aload_n (pc' := 61) ok (dOf dX2_move 40 rfl) rfl rfl rfl ?_
    refine J_getR (ci := 2) (kf := 6) (C := RX2) (T := TX2) (N := 7) (pc' := 64) ok (dOf dX2_move 41 rfl) rfl (by decide) rfl (by decide) win_2 wfl_X2_28 (fun a16 => ?_)
    refine J_iload_n (pc' := 65) ok (dOf dX2_move 42 rfl) rfl rfl rfl ?_
    refine J_bipush (v := 6) (pc' := 67) ok (dOf dX2_move 43 rfl) rfl (by decide) ?_
    refine J_imul (pc' := 68) ok (dOf dX2_move 44 rfl) rfl ?_
    refine J_aload_n (pc' := 69) ok (dOf dX2_move 45 rfl) rfl rfl rfl ?_
    refine J_getR (ci := 2) (kf := 6) (C := RX2) (T := TX2) (N := 7) (pc' := 72) ok (dOf dX2_move 46 rfl) rfl (by decide) rfl (by decide) win_2 wfl_X2_28 (fun a17 => ?_)
    refine J_iload_n (pc' := 73) ok (dOf dX2_move 47 rfl) rfl rfl rfl ?_
    refine J_bipush (v := 6) (pc' := 75) ok (dOf dX2_move 48 rfl) rfl (by decide) ?_
    refine J_imul (pc' := 76) ok (dOf dX2_move 49 rfl) rfl ?_
    refine J_bipush (v := 6) (pc' := 78) ok (dOf dX2_move 50 rfl) rfl (by decide) ?_
    refine J_acp (pc' := 81) ok (dOf dX2_move 51 rfl) rfl wml_X2_40 wnat_java_lang_System_arraycopy wstat_java_lang_System_arraycopy wini_java_lang_System (Nat.le_of_ble_eq_true rfl) (Nat.le_of_ble_eq_true rfl) (fun h18 _ => ?_)
    exact J_vreturn ok (dOf dX2_move 52 rfl) rfl (Nat.le_refl 0) (Nat.le_refl 0)
  · exact J_vreturn ok (dOf dX2_move 3 rfl) rfl (Nat.le_refl 0) (Nat.le_refl 0)
-- X2_dropAged
abbrev kCuts_dropAged : Cd := (yX2_dropAged, cX2_dropAged, 4, (some .int), 2, 67)
theorem dX2_dropAged : dcheck cX2_dropAged [(0, .iconst 0, 1), (1, .istore_n 2, 1), (2, .iconst 0, 1), (3, .istore_n 3, 1), (4, .iload_n 3, 1), (5, .aload_n 0, 1), (6, .getfield 31, 3), (9, .if_icmp .ge 28, 3), (12, .aload_n 0, 1), (13, .getfield 22, 3), (16, .iload_n 3, 1), (17, .iaload, 1), (18, .iload_n 1, 1), (19, .if_icmp .ge 12, 3), (22, .aload_n 0, 1), (23, .iload_n 3, 1), (24, .iload_n 2, 1), (25, .invokevirtual 50, 3), (28, .iinc 2 1, 3), (31, .iinc 3 1, 3), (34, .goto (-30), 3), (37, .aload_n 0, 1), (38, .getfield 31, 3), (41, .iload_n 2, 1), (42, .isub, 1), (43, .istore_n 3, 1), (44, .aload_n 0, 1), (45, .iload_n 2, 1), (46, .putfield 31, 3), (49, .iload_n 3, 1), (50, .ireturn, 1)] = true := by decide +kernel
theorem cw_Cuts_dropAged {k : Cd} (h1 : kCuts_dropAged.2.2.2.2.1 + 1 ≤ k.2.2.2.2.1) (h2 : 8 + (kCuts_dropAged.2.2.1 + 11) + kCuts_dropAged.2.2.2.2.2 ≤ k.2.2.2.2.2) : Cw k kCuts_dropAged 1 := ⟨wcode_X2_dropAged, wini_SplitProgram_Cuts, ⟨by decide, by decide, by decide +kernel⟩, h1, h2⟩
def Cuts_dropAged_j31 (v0 : Nat) (v1 : Int32) (v2 : Int32) (v3 : Int32) (h : AHeap) : Option ((Int32 × Int32 × AHeap) ⊕ ((Int32 × Int32 × AHeap))) :=
  some (.inl (v2, v3 + 1, h))
theorem Cuts_dropAged_j31_J {E : JE} {l : Launch} {G : GX} {r : Option Value} {h' : AHeap} (ok : JOK E l G kCuts_dropAged 0 0 r h') (v0 : Nat) (v1 : Int32) (v2 : Int32) (v3 : Int32) (h : AHeap) {Y : (Int32 × Int32 × AHeap) ⊕ ((Int32 × Int32 × AHeap)) → Prop} (k1 : ∀ s' : Int32 × Int32 × AHeap, Y (.inl s') → JW E kCuts_dropAged 4 [some (.ref v0), some (.int v1), some (.int s'.1), some (.int s'.2.1)] [] s'.2.2 0 0) (kx37 : ∀ q : Int32 × Int32 × AHeap, Y (.inr q) → JW E kCuts_dropAged 37 [some (.ref v0), some (.int v1), some (.int q.1), some (.int q.2.1)] [] q.2.2 0 0) : J E kCuts_dropAged (Cuts_dropAged_j31 v0 v1 v2 v3 h) Y 31 [some (.ref v0), some (.int v1), some (.int v2), some (.int v3)] [] h 0 0 := by
  unfold Cuts_dropAged_j31
  refine J_iinc (v := v3 + 1) (ls' := [some (.ref v0), some (.int v1), some (.int v2), some (.int (v3 + 1))]) (pc' := 34) ok (dOf dX2_dropAged 19 rfl) rfl rfl (by rfl) (Nat.le_of_ble_eq_true rfl) rfl rfl ?_
  refine J_goto (tgt := 4) ok (dOf dX2_dropAged 20 rfl) (by decide) ?_
  exact J_fin (k1 (v2, v3 + 1, h))
def Cuts_dropAged_b4 (v0 : Nat) (v1 : Int32) (s : Int32 × Int32 × AHeap) : Option ((Int32 × Int32 × AHeap) ⊕ ((Int32 × Int32 × AHeap))) :=
  (gfI s.2.2 v0 2 1).bind fun x1 => (if x1 ≤ s.2.1 then some (.inr (s.1, s.2.1, s.2.2)) else (gfR s.2.2 v0 2 4).bind fun a2 => (ald 0 s.2.2 a2 s.2.1).bind fun x3 => (if v1 ≤ x3 then Cuts_dropAged_j31 v0 v1 s.1 s.2.1 s.2.2 else (chk s.2.2 v0 2).bind fun _ => bnd2 (Cuts_move v0 s.2.1 s.1 s.2.2) fun _ h4 => Cuts_dropAged_j31 v0 v1 (s.1 + 1) s.2.1 h4))
theorem Cuts_dropAged_b4_J {E : JE} {l : Launch} {G : GX} {r : Option Value} {h' : AHeap} (ok : JOK E l G kCuts_dropAged 0 0 r h') (v0 : Nat) (v1 : Int32) {Y : (Int32 × Int32 × AHeap) ⊕ ((Int32 × Int32 × AHeap)) → Prop} (k1 : ∀ s' : Int32 × Int32 × AHeap, Y (.inl s') → JW E kCuts_dropAged 4 [some (.ref v0), some (.int v1), some (.int s'.1), some (.int s'.2.1)] [] s'.2.2 0 0) (kx37 : ∀ q : Int32 × Int32 × AHeap, Y (.inr q) → JW E kCuts_dropAged 37 [some (.ref v0), some (.int v1), some (.int q.1), some (.int q.2.1)] [] q.2.2 0 0) (s : Int32 × Int32 × AHeap) : J E kCuts_dropAged (Cuts_dropAged_b4 v0 v1 s) Y 4 [some (.ref v0), some (.int v1), some (.int s.1), some (.int s.2.1)] [] s.2.2 0 0 := by
  unfold Cuts_dropAged_b4
  refine J_iload_n (pc' := 5) ok (dOf dX2_dropAged 4 rfl) rfl rfl rfl ?_
  refine J_aload_n (pc' := 6) ok (dOf dX2_dropAged 5 rfl) rfl rfl rfl ?_
  refine J_getI (ci := 2) (kf := 1) (C := RX2) (T := TX2) (N := 7) (pc' := 9) ok (dOf dX2_dropAged 6 rfl) rfl (by decide) rfl (by decide) win_2 wfl_X2_31 (fun x1 => ?_)
  refine J_icmp_ge (tgt := 37) (pc' := 12) ok (dOf dX2_dropAged 7 rfl) rfl (by decide) ?_ ?_
  · exact J_fin (kx37 (s.1, s.2.1, s.2.2))
  · refine J_aload_n (pc' := 13) ok (dOf dX2_dropAged 8 rfl) rfl rfl rfl ?_
    refine J_getR (ci := 2) (kf := 4) (C := RX2) (T := TX2) (N := 7) (pc' := 16) ok (dOf dX2_dropAged 9 rfl) rfl (by decide) rfl (by decide) win_2 wfl_X2_22 (fun a2 => ?_)
    refine J_iload_n (pc' := 17) ok (dOf dX2_dropAged 10 rfl) rfl rfl rfl ?_
    refine J_iald (pc' := 18) ok (dOf dX2_dropAged 11 rfl) rfl (fun x3 => ?_)
    refine J_iload_n (pc' := 19) ok (dOf dX2_dropAged 12 rfl) rfl rfl rfl ?_
    refine J_icmp_ge (tgt := 31) (pc' := 22) ok (dOf dX2_dropAged 13 rfl) rfl (by decide) ?_ ?_
    · exact Cuts_dropAged_j31_J ok v0 v1 s.1 s.2.1 s.2.2 k1 kx37
    · refine J_aload_n (pc' := 23) ok (dOf dX2_dropAged 14 rfl) rfl rfl rfl ?_
      refine J_iload_n (pc' := 24) ok (dOf dX2_dropAged 15 rfl) rfl rfl rfl ?_
      refine J_iload_n (pc' := 25) ok (dOf dX2_dropAged 16 rfl) rfl rfl rfl ?_
      refine J_callVv (k2 := kCuts_move) (ci := 2) (T := TX2) (N := 7) (as := [.int s.2.1, .int s.1]) (pc' := 28) ok (dOf dX2_dropAged 17 rfl) rfl (cw_Cuts_move (by decide) (by decide)) wml_X2_50 winst_X2_move wsel_X2_move rfl ⟨Nat.le_refl 0, Nat.le_refl 0⟩ (Nat.le_of_ble_eq_true rfl) rfl (fun _ _ hf => t_Cuts_move hf) (fun _ h4 => ?_)
      refine J_iinc (v := s.1 + 1) (ls' := [some (.ref v0), some (.int v1), some (.int (s.1 + 1)), some (.int s.2.1)]) (pc' := 31) ok (dOf dX2_dropAged 18 rfl) rfl rfl (by rfl) (Nat.le_of_ble_eq_true rfl) rfl rfl ?_
      exact Cuts_dropAged_j31_J ok v0 v1 (s.1 + 1) s.2.1 h4 k1 kx37
def Cuts_dropAged_j37 (v0 : Nat) (v1 : Int32) (v2 : Int32) (v3 : Int32) (h : AHeap) : Option (Int32 × AHeap) :=
  (gfI h v0 2 1).bind fun x5 => (pfV h v0 2 1 (.int v2)).bind fun h6 => some (x5 - v2, h6)
theorem Cuts_dropAged_j37_J {E : JE} {l : Launch} {G : GX} {v : Int32} {h' : AHeap} (ok : JOK E l G kCuts_dropAged 0 0 (some (.int v)) h') (v0 : Nat) (v1 : Int32) (v2 : Int32) (v3 : Int32) (h : AHeap) : J E kCuts_dropAged (Cuts_dropAged_j37 v0 v1 v2 v3 h) (fun z => z = (v, h')) 37 [some (.ref v0), some (.int v1), some (.int v2), some (.int v3)] [] h 0 0 := by
  unfold Cuts_dropAged_j37
  refine J_aload_n (pc' := 38) ok (dOf dX2_dropAged 21 rfl) rfl rfl rfl ?_
  refine J_getI (ci := 2) (kf := 1) (C := RX2) (T := TX2) (N := 7) (pc' := 41) ok (dOf dX2_dropAged 22 rfl) rfl (by decide) rfl (by decide) win_2 wfl_X2_31 (fun x5 => ?_)
  refine J_iload_n (pc' := 42) ok (dOf dX2_dropAged 23 rfl) rfl rfl rfl ?_
  refine J_isub (pc' := 43) ok (dOf dX2_dropAged 24 rfl) rfl ?_
  refine J_istore_n (ls' := [some (.ref v0), some (.int v1), some (.int v2), some (.int (x5 - v2))]) (pc' := 44) ok (dOf dX2_dropAged 25 rfl) rfl rfl (Nat.le_of_ble_eq_true rfl) rfl rfl ?_
  refine J_aload_n (pc' := 45) ok (dOf dX2_dropAged 26 rfl) rfl rfl rfl ?_
  refine J_iload_n (pc' := 46) ok (dOf dX2_dropAged 27 rfl) rfl rfl rfl ?_
  refine J_putI (ci := 2) (kf := 1) (C := RX2) (T := TX2) (N := 7) (pc' := 49) ok tyX2 (dOf dX2_dropAged 28 rfl) rfl rfl (by decide) win_2 tyX2_ok nmX2 rfl rfl wfl_X2_31 (fun h6 _ => ?_)
  refine J_iload_n (pc' := 50) ok (dOf dX2_dropAged 29 rfl) rfl rfl rfl ?_
  exact J_ireturn ok (dOf dX2_dropAged 30 rfl) rfl (Nat.le_refl 0) (Nat.le_refl 0)
def Cuts_dropAged (v0 : Nat) (v1 : Int32) (h : AHeap) : Option (Int32 × AHeap) :=
  (iter (Cuts_dropAged_b4 v0 v1) Lmax (0, 0, h)).bind (fun q4 => Cuts_dropAged_j37 v0 v1 q4.1 q4.2.1 q4.2.2)
theorem t_Cuts_dropAged {l : Launch} {G : GX} {v0 : Nat} {v1 : Int32} {h : AHeap} {v : Int32} {h1 : AHeap} (hf : Cuts_dropAged v0 v1 h = some (v, h1)) : CT l G kCuts_dropAged 0 0 [.ref v0, .int v1] h (some (.int v)) h1 := by
  refine CT_of (ls := [some (.ref v0), some (.int v1), none, none]) (Z := fun z => z = (v, h1)) (by decide +kernel) (Nat.le_of_ble_eq_true rfl) hf rfl ⟨rfl, rfl, trivial⟩ (fun E ok => ?_)
  unfold Cuts_dropAged
  refine J_iconst (v := 0) (pc' := 1) ok (dOf dX2_dropAged 0 rfl) rfl (by decide) ?_
  refine J_istore_n (ls' := [some (.ref v0), some (.int v1), some (.int 0), none]) (pc' := 2) ok (dOf dX2_dropAged 1 rfl) rfl rfl (Nat.le_of_ble_eq_true rfl) rfl rfl ?_
  refine J_iconst (v := 0) (pc' := 3) ok (dOf dX2_dropAged 2 rfl) rfl (by decide) ?_
  refine J_istore_n (ls' := [some (.ref v0), some (.int v1), some (.int 0), some (.int 0)]) (pc' := 4) ok (dOf dX2_dropAged 3 rfl) rfl rfl (Nat.le_of_ble_eq_true rfl) rfl rfl ?_
  refine J_iter (lf := fun z4 => [some (.ref v0), some (.int v1), some (.int z4.1), some (.int z4.2.1)]) (sf := fun _ => []) (hf := fun z4 => z4.2.2) (px := (fun q4 => 37)) (lx := (fun q4 => [some (.ref v0), some (.int v1), some (.int q4.1), some (.int q4.2.1)])) (sx := (fun q4 => [])) (hx := (fun q4 => q4.2.2)) (fun Y2 z4 m1 m2 => Cuts_dropAged_b4_J ok v0 v1 m1 m2 z4) (fun q4 => ?_) Lmax _
  exact Cuts_dropAged_j37_J ok v0 v1 q4.1 q4.2.1 q4.2.2
-- X4_findRay
abbrev kFrt_findRay : Cd := (yX4_findRay, cX4_findRay, 9, none, 1, 23)
theorem dX4_findRay : dcheck cX4_findRay [(0, .iconst 0, 1), (1, .istore 4, 2), (3, .iload 4, 2), (5, .aload_n 1, 1), (6, .getfield 49, 3), (9, .if_icmp .ge 172, 3), (12, .aload_n 1, 1), (13, .iload 4, 2), (15, .invokevirtual 55, 3), (18, .istore 5, 2), (20, .aload_n 1, 1), (21, .getfield 59, 3), (24, .iload_n 2, 1), (25, .bipush 6, 2), (27, .imul, 1), (28, .iload 4, 2), (30, .iadd, 1), (31, .iaload, 1), (32, .ifCond .le 7, 3), (35, .iconst 1, 1), (36, .goto 4, 3), (39, .iconst 0, 1), (40, .istore 6, 2), (42, .iconst 0, 1), (43, .istore 7, 2), (45, .iload 7, 2), (47, .bipush 16, 2), (49, .if_icmp .ge 67, 3), (52, .aload_n 0, 1), (53, .getfield 18, 3), (56, .iload_n 2, 1), (57, .bipush 16, 2), (59, .imul, 1), (60, .iload 7, 2), (62, .iadd, 1), (63, .iaload, 1), (64, .aload_n 0, 1), (65, .getfield 15, 3), (68, .iload 7, 2), (70, .iaload, 1), (71, .isub, 1), (72, .iload_n 3, 1), (73, .if_icmp .ne 7, 3), (76, .iconst 1, 1), (77, .goto 4, 3), (80, .iconst 0, 1), (81, .istore 8, 2), (83, .iload 6, 2), (85, .ifCond .eq 22, 3), (88, .iload 8, 2), (90, .ifCond .eq 13, 3), (93, .iload 5, 2), (95, .iload 7, 2), (97, .iconst (-1), 1), (98, .ixor, 1), (99, .iand, 1), (100, .ifCond .ne 7, 3), (103, .iconst 1, 1), (104, .goto 4, 3), (107, .iconst 0, 1), (108, .istore 6, 2), (110, .iinc 7 1, 3), (113, .goto (-68), 3), (116, .iload 6, 2), (118, .ifCond .eq 57, 3), (121, .aload_n 0, 1), (122, .getfield 46, 3), (125, .iload 4, 2), (127, .iconst 1, 1), (128, .iastore, 1), (129, .iconst 0, 1), (130, .istore 7, 2), (132, .iload 7, 2), (134, .aload_n 1, 1), (135, .getfield 115, 3), (138, .if_icmp .ge 37, 3), (141, .aload_n 0, 1), (142, .getfield 43, 3), (145, .iload 7, 2), (147, .iload 5, 2), (149, .iconst 1, 1), (150, .iload 7, 2), (152, .ishl, 1), (153, .iand, 1), (154, .ifCond .eq 7, 3), (157, .iconst 1, 1), (158, .goto 10, 3), (161, .aload_n 0, 1), (162, .getfield 43, 3), (165, .iload 7, 2), (167, .iaload, 1), (168, .iastore, 1), (169, .iinc 7 1, 3), (172, .goto (-40), 3), (175, .iinc 4 1, 3), (178, .goto (-175), 3), (181, .return_, 1)] = true := by decide +kernel
theorem cw_Frt_findRay {k : Cd} (h1 : kFrt_findRay.2.2.2.2.1 + 1 ≤ k.2.2.2.2.1) (h2 : 8 + (kFrt_findRay.2.2.1 + 11) + kFrt_findRay.2.2.2.2.2 ≤ k.2.2.2.2.2) : Cw k kFrt_findRay 3 := ⟨wcode_X4_findRay, wini_SplitProgram_Freight, ⟨by decide, by decide, by decide +kernel⟩, h1, h2⟩
def Frt_findRay_j108 (v0 : Nat) (v1 : Nat) (v2 : Int32) (v3 : Int32) (v4 : Int32) (v5 : Int32) (v6 : Int32) (v7 : Int32) (v8 : Int32) (t0 : Int32) (h : AHeap) : Option ((Int32 × Int32) ⊕ ((Int32 × Int32))) :=
  some (.inl (t0, v7 + 1))
theorem Frt_findRay_j108_J {E : JE} {l : Launch} {G : GX} {r : Option Value} {h' : AHeap} (ok : JOK E l G kFrt_findRay 0 0 r h') (v0 : Nat) (v1 : Nat) (v2 : Int32) (v3 : Int32) (v4 : Int32) (v5 : Int32) (v6 : Int32) (v7 : Int32) (v8 : Int32) (t0 : Int32) (h : AHeap) {Y : (Int32 × Int32) ⊕ ((Int32 × Int32)) → Prop} (k1 : ∀ s' : Int32 × Int32, Y (.inl s') → JW E kFrt_findRay 45 [some (.ref v0), some (.ref v1), some (.int v2), some (.int v3), some (.int v4), some (.int v5), some (.int s'.1), some (.int s'.2), none] [] h 0 0) (kx116 : ∀ q : Int32 × Int32, Y (.inr q) → JW E kFrt_findRay 116 [some (.ref v0), some (.ref v1), some (.int v2), some (.int v3), some (.int v4), some (.int v5), some (.int q.1), some (.int q.2), none] [] h 0 0) : J E kFrt_findRay (Frt_findRay_j108 v0 v1 v2 v3 v4 v5 v6 v7 v8 t0 h) Y 108 [some (.ref v0), some (.ref v1), some (.int v2), some (.int v3), some (.int v4), some (.int v5), some (.int v6), some (.int v7), some (.int v8)] [.int t0] h 0 0 := by
  unfold Frt_findRay_j108
  refine J_istore (ls' := [some (.ref v0), some (.ref v1), some (.int v2), some (.int v3), some (.int v4), some (.int v5), some (.int t0), some (.int v7), some (.int v8)]) (pc' := 110) ok (dOf dX4_findRay 60 rfl) rfl (Nat.le_of_ble_eq_true rfl) rfl rfl ?_
  refine J_iinc (v := v7 + 1) (ls' := [some (.ref v0), some (.ref v1), some (.int v2), some (.int v3), some (.int v4), some (.int v5), some (.int t0), some (.int (v7 + 1)), some (.int v8)]) (pc' := 113) ok (dOf dX4_findRay 61 rfl) rfl rfl (by rfl) (Nat.le_of_ble_eq_true rfl) rfl rfl ?_
  refine J_goto (tgt := 45) ok (dOf dX4_findRay 62 rfl) (by decide) ?_
  refine J_weak (ls' := [some (.ref v0), some (.ref v1), some (.int v2), some (.int v3), some (.int v4), some (.int v5), some (.int t0), some (.int (v7 + 1)), none]) ⟨rfl, rfl, rfl, rfl, rfl, rfl, rfl, rfl, trivial⟩ ?_
  exact J_fin (k1 (t0, v7 + 1))
def Frt_findRay_j107 (v0 : Nat) (v1 : Nat) (v2 : Int32) (v3 : Int32) (v4 : Int32) (v5 : Int32) (v6 : Int32) (v7 : Int32) (v8 : Int32) (h : AHeap) : Option ((Int32 × Int32) ⊕ ((Int32 × Int32))) :=
  Frt_findRay_j108 v0 v1 v2 v3 v4 v5 v6 v7 v8 0 h
theorem Frt_findRay_j107_J {E : JE} {l : Launch} {G : GX} {r : Option Value} {h' : AHeap} (ok : JOK E l G kFrt_findRay 0 0 r h') (v0 : Nat) (v1 : Nat) (v2 : Int32) (v3 : Int32) (v4 : Int32) (v5 : Int32) (v6 : Int32) (v7 : Int32) (v8 : Int32) (h : AHeap) {Y : (Int32 × Int32) ⊕ ((Int32 × Int32)) → Prop} (k1 : ∀ s' : Int32 × Int32, Y (.inl s') → JW E kFrt_findRay 45 [some (.ref v0), some (.ref v1), some (.int v2), some (.int v3), some (.int v4), some (.int v5), some (.int s'.1), some (.int s'.2), none] [] h 0 0) (kx116 : ∀ q : Int32 × Int32, Y (.inr q) → JW E kFrt_findRay 116 [some (.ref v0), some (.ref v1), some (.int v2), some (.int v3), some (.int v4), some (.int v5), some (.int q.1), some (.int q.2), none] [] h 0 0) : J E kFrt_findRay (Frt_findRay_j107 v0 v1 v2 v3 v4 v5 v6 v7 v8 h) Y 107 [some (.ref v0), some (.ref v1), some (.int v2), some (.int v3), some (.int v4), some (.int v5), some (.int v6), some (.int v7), some (.int v8)] [] h 0 0 := by
  unfold Frt_findRay_j107
  refine J_iconst (v := 0) (pc' := 108) ok (dOf dX4_findRay 59 rfl) rfl (by decide) ?_
  exact Frt_findRay_j108_J ok v0 v1 v2 v3 v4 v5 v6 v7 v8 0 h k1 kx116
def Frt_findRay_j103 (v0 : Nat) (v1 : Nat) (v2 : Int32) (v3 : Int32) (v4 : Int32) (v5 : Int32) (v6 : Int32) (v7 : Int32) (v8 : Int32) (h : AHeap) : Option ((Int32 × Int32) ⊕ ((Int32 × Int32))) :=
  Frt_findRay_j108 v0 v1 v2 v3 v4 v5 v6 v7 v8 1 h
theorem Frt_findRay_j103_J {E : JE} {l : Launch} {G : GX} {r : Option Value} {h' : AHeap} (ok : JOK E l G kFrt_findRay 0 0 r h') (v0 : Nat) (v1 : Nat) (v2 : Int32) (v3 : Int32) (v4 : Int32) (v5 : Int32) (v6 : Int32) (v7 : Int32) (v8 : Int32) (h : AHeap) {Y : (Int32 × Int32) ⊕ ((Int32 × Int32)) → Prop} (k1 : ∀ s' : Int32 × Int32, Y (.inl s') → JW E kFrt_findRay 45 [some (.ref v0), some (.ref v1), some (.int v2), some (.int v3), some (.int v4), some (.int v5), some (.int s'.1), some (.int s'.2), none] [] h 0 0) (kx116 : ∀ q : Int32 × Int32, Y (.inr q) → JW E kFrt_findRay 116 [some (.ref v0), some (.ref v1), some (.int v2), some (.int v3), some (.int v4), some (.int v5), some (.int q.1), some (.int q.2), none] [] h 0 0) : J E kFrt_findRay (Frt_findRay_j103 v0 v1 v2 v3 v4 v5 v6 v7 v8 h) Y 103 [some (.ref v0), some (.ref v1), some (.int v2), some (.int v3), some (.int v4), some (.int v5), some (.int v6), some (.int v7), some (.int v8)] [] h 0 0 := by
  unfold Frt_findRay_j103
  refine J_iconst (v := 1) (pc' := 104) ok (dOf dX4_findRay 57 rfl) rfl (by decide) ?_
  refine J_goto (tgt := 108) ok (dOf dX4_findRay 58 rfl) (by decide) ?_
  exact Frt_findRay_j108_J ok v0 v1 v2 v3 v4 v5 v6 v7 v8 1 h k1 kx116
def Frt_findRay_j81 (v0 : Nat) (v1 : Nat) (v2 : Int32) (v3 : Int32) (v4 : Int32) (v5 : Int32) (v6 : Int32) (v7 : Int32) (t0 : Int32) (h : AHeap) : Option ((Int32 × Int32) ⊕ ((Int32 × Int32))) :=
  (if v6 = 0 then Frt_findRay_j107 v0 v1 v2 v3 v4 v5 v6 v7 t0 h else (if t0 = 0 then Frt_findRay_j103 v0 v1 v2 v3 v4 v5 v6 v7 t0 h else (if ¬ (v5 &&& (v7 ^^^ (-1))) = 0 then Frt_findRay_j107 v0 v1 v2 v3 v4 v5 v6 v7 t0 h else Frt_findRay_j103 v0 v1 v2 v3 v4 v5 v6 v7 t0 h)))
theorem Frt_findRay_j81_J {E : JE} {l : Launch} {G : GX} {r : Option Value} {h' : AHeap} (ok : JOK E l G kFrt_findRay 0 0 r h') (v0 : Nat) (v1 : Nat) (v2 : Int32) (v3 : Int32) (v4 : Int32) (v5 : Int32) (v6 : Int32) (v7 : Int32) (t0 : Int32) (h : AHeap) {Y : (Int32 × Int32) ⊕ ((Int32 × Int32)) → Prop} (k1 : ∀ s' : Int32 × Int32, Y (.inl s') → JW E kFrt_findRay 45 [some (.ref v0), some (.ref v1), some (.int v2), some (.int v3), some (.int v4), some (.int v5), some (.int s'.1), some (.int s'.2), none] [] h 0 0) (kx116 : ∀ q : Int32 × Int32, Y (.inr q) → JW E kFrt_findRay 116 [some (.ref v0), some (.ref v1), some (.int v2), some (.int v3), some (.int v4), some (.int v5), some (.int q.1), some (.int q.2), none] [] h 0 0) : J E kFrt_findRay (Frt_findRay_j81 v0 v1 v2 v3 v4 v5 v6 v7 t0 h) Y 81 [some (.ref v0), some (.ref v1), some (.int v2), some (.int v3), some (.int v4), some (.int v5), some (.int v6), some (.int v7), none] [.int t0] h 0 0 := by
  unfold Frt_findRay_j81
  refine J_istore (ls' := [some (.ref v0), some (.ref v1), some (.int v2), some (.int v3), some (.int v4), some (.int v5), some (.int v6), some (.int v7), some (.int t0)]) (pc' := 83) ok (dOf dX4_findRay 46 rfl) rfl (Nat.le_of_ble_eq_true rfl) rfl rfl ?_
  refine J_iload (pc' := 85) ok (dOf dX4_findRay 47 rfl) rfl rfl ?_
  refine J_if_eq (tgt := 107) (pc' := 88) ok (dOf dX4_findRay 48 rfl) rfl (by decide) ?_ ?_
  · exact Frt_findRay_j107_J ok v0 v1 v2 v3 v4 v5 v6 v7 t0 h k1 kx116
  · refine J_iload (pc' := 90) ok (dOf dX4_findRay 49 rfl) rfl rfl ?_
    refine J_if_eq (tgt := 103) (pc' := 93) ok (dOf dX4_findRay 50 rfl) rfl (by decide) ?_ ?_
    · exact Frt_findRay_j103_J ok v0 v1 v2 v3 v4 v5 v6 v7 t0 h k1 kx116
    · refine J_iload (pc' := 95) ok (dOf dX4_findRay 51 rfl) rfl rfl ?_
      refine J_iload (pc' := 97) ok (dOf dX4_findRay 52 rfl) rfl rfl ?_
      refine J_iconst (v := (-1)) (pc' := 98) ok (dOf dX4_findRay 53 rfl) rfl (by decide) ?_
      refine J_ixor (pc' := 99) ok (dOf dX4_findRay 54 rfl) rfl ?_
      refine J_iand (pc' := 100) ok (dOf dX4_findRay 55 rfl) rfl ?_
      refine J_if_ne (tgt := 107) (pc' := 103) ok (dOf dX4_findRay 56 rfl) rfl (by decide) ?_ ?_
      · exact Frt_findRay_j107_J ok v0 v1 v2 v3 v4 v5 v6 v7 t0 h k1 kx116
      · exact Frt_findRay_j103_J ok v0 v1 v2 v3 v4 v5 v6 v7 t0 h k1 kx116
def Frt_findRay_b45 (v0 : Nat) (v1 : Nat) (v2 : Int32) (v3 : Int32) (v4 : Int32) (v5 : Int32) (h : AHeap) (s : Int32 × Int32) : Option ((Int32 × Int32) ⊕ ((Int32 × Int32))) :=
  (if 16 ≤ s.2 then some (.inr (s.1, s.2)) else (gfR h v0 4 2).bind fun a6 => (ald 0 h a6 ((v2 * 16) + s.2)).bind fun x7 => (gfR h v0 4 1).bind fun a8 => (ald 0 h a8 s.2).bind fun x9 => (if ¬ (x7 - x9) = v3 then Frt_findRay_j81 v0 v1 v2 v3 v4 v5 s.1 s.2 0 h else Frt_findRay_j81 v0 v1 v2 v3 v4 v5 s.1 s.2 1 h))
theorem Frt_findRay_b45_J {E : JE} {l : Launch} {G : GX} {r : Option Value} {h' : AHeap} (ok : JOK E l G kFrt_findRay 0 0 r h') (v0 : Nat) (v1 : Nat) (v2 : Int32) (v3 : Int32) (v4 : Int32) (v5 : Int32) (h : AHeap) {Y : (Int32 × Int32) ⊕ ((Int32 × Int32)) → Prop} (k1 : ∀ s' : Int32 × Int32, Y (.inl s') → JW E kFrt_findRay 45 [some (.ref v0), some (.ref v1), some (.int v2), some (.int v3), some (.int v4), some (.int v5), some (.int s'.1), some (.int s'.2), none] [] h 0 0) (kx116 : ∀ q : Int32 × Int32, Y (.inr q) → JW E kFrt_findRay 116 [some (.ref v0), some (.ref v1), some (.int v2), some (.int v3), some (.int v4), some (.int v5), some (.int q.1), some (.int q.2), none] [] h 0 0) (s : Int32 × Int32) : J E kFrt_findRay (Frt_findRay_b45 v0 v1 v2 v3 v4 v5 h s) Y 45 [some (.ref v0), some (.ref v1), some (.int v2), some (.int v3), some (.int v4), some (.int v5), some (.int s.1), some (.int s.2), none] [] h 0 0 := by
  unfold Frt_findRay_b45
  refine J_iload (pc' := 47) ok (dOf dX4_findRay 25 rfl) rfl rfl ?_
  refine J_bipush (v := 16) (pc' := 49) ok (dOf dX4_findRay 26 rfl) rfl (by decide) ?_
  refine J_icmp_ge (tgt := 116) (pc' := 52) ok (dOf dX4_findRay 27 rfl) rfl (by decide) ?_ ?_
  · exact J_fin (kx116 (s.1, s.2))
  · refine J_aload_n (pc' := 53) ok (dOf dX4_findRay 28 rfl) rfl rfl rfl ?_
    refine J_getR (ci := 4) (kf := 2) (C := RX4) (T := TX4) (N := 12) (pc' := 56) ok (dOf dX4_findRay 29 rfl) rfl (by decide) rfl (by decide) win_4 wfl_X4_18 (fun a6 => ?_)
    refine J_iload_n (pc' := 57) ok (dOf dX4_findRay 30 rfl) rfl rfl rfl ?_
    refine J_bipush (v := 16) (pc' := 59) ok (dOf dX4_findRay 31 rfl) rfl (by decide) ?_
    refine J_imul (pc' := 60) ok (dOf dX4_findRay 32 rfl) rfl ?_
    refine J_iload (pc' := 62) ok (dOf dX4_findRay 33 rfl) rfl rfl ?_
    refine J_iadd (pc' := 63) ok (dOf dX4_findRay 34 rfl) rfl ?_
    refine J_iald (pc' := 64) ok (dOf dX4_findRay 35 rfl) rfl (fun x7 => ?_)
    refine J_aload_n (pc' := 65) ok (dOf dX4_findRay 36 rfl) rfl rfl rfl ?_
    refine J_getR (ci := 4) (kf := 1) (C := RX4) (T := TX4) (N := 12) (pc' := 68) ok (dOf dX4_findRay 37 rfl) rfl (by decide) rfl (by decide) win_4 wfl_X4_15 (fun a8 => ?_)
    refine J_iload (pc' := 70) ok (dOf dX4_findRay 38 rfl) rfl rfl ?_
    refine J_iald (pc' := 71) ok (dOf dX4_findRay 39 rfl) rfl (fun x9 => ?_)
    refine J_isub (pc' := 72) ok (dOf dX4_findRay 40 rfl) rfl ?_
    refine J_iload_n (pc' := 73) ok (dOf dX4_findRay 41 rfl) rfl rfl rfl ?_
    refine J_icmp_ne (tgt := 80) (pc' := 76) ok (dOf dX4_findRay 42 rfl) rfl (by decide) ?_ ?_
    · refine J_iconst (v := 0) (pc' := 81) ok (dOf dX4_findRay 45 rfl) rfl (by decide) ?_
      exact Frt_findRay_j81_J ok v0 v1 v2 v3 v4 v5 s.1 s.2 0 h k1 kx116
    · refine J_iconst (v := 1) (pc' := 77) ok (dOf dX4_findRay 43 rfl) rfl (by decide) ?_
      refine J_goto (tgt := 81) ok (dOf dX4_findRay 44 rfl) (by decide) ?_
      exact Frt_findRay_j81_J ok v0 v1 v2 v3 v4 v5 s.1 s.2 1 h k1 kx116
def Frt_findRay_j175 (v0 : Nat) (v1 : Nat) (v2 : Int32) (v3 : Int32) (v4 : Int32) (v5 : Int32) (v6 : Int32) (v7 : Int32) (h : AHeap) : Option ((Int32 × AHeap) ⊕ ((Int32 × AHeap))) :=
  some (.inl (v4 + 1, h))
theorem Frt_findRay_j175_J {E : JE} {l : Launch} {G : GX} {r : Option Value} {h' : AHeap} (ok : JOK E l G kFrt_findRay 0 0 r h') (v0 : Nat) (v1 : Nat) (v2 : Int32) (v3 : Int32) (v4 : Int32) (v5 : Int32) (v6 : Int32) (v7 : Int32) (h : AHeap) {Y : (Int32 × AHeap) ⊕ ((Int32 × AHeap)) → Prop} (k1 : ∀ s' : Int32 × AHeap, Y (.inl s') → JW E kFrt_findRay 3 [some (.ref v0), some (.ref v1), some (.int v2), some (.int v3), some (.int s'.1), none, none, none, none] [] s'.2 0 0) (kx181 : ∀ q : Int32 × AHeap, Y (.inr q) → JW E kFrt_findRay 181 [some (.ref v0), some (.ref v1), some (.int v2), some (.int v3), some (.int q.1), none, none, none, none] [] q.2 0 0) : J E kFrt_findRay (Frt_findRay_j175 v0 v1 v2 v3 v4 v5 v6 v7 h) Y 175 [some (.ref v0), some (.ref v1), some (.int v2), some (.int v3), some (.int v4), some (.int v5), some (.int v6), some (.int v7), none] [] h 0 0 := by
  unfold Frt_findRay_j175
  refine J_iinc (v := v4 + 1) (ls' := [some (.ref v0), some (.ref v1), some (.int v2), some (.int v3), some (.int (v4 + 1)), some (.int v5), some (.int v6), some (.int v7), none]) (pc' := 178) ok (dOf dX4_findRay 94 rfl) rfl rfl (by rfl) (Nat.le_of_ble_eq_true rfl) rfl rfl ?_
  refine J_goto (tgt := 3) ok (dOf dX4_findRay 95 rfl) (by decide) ?_
  refine J_weak (ls' := [some (.ref v0), some (.ref v1), some (.int v2), some (.int v3), some (.int (v4 + 1)), none, none, none, none]) ⟨rfl, rfl, rfl, rfl, rfl, trivial⟩ ?_
  exact J_fin (k1 (v4 + 1, h))
def Frt_findRay_j168 (v0 : Nat) (v1 : Nat) (v2 : Int32) (v3 : Int32) (v4 : Int32) (v5 : Int32) (v6 : Int32) (v7 : Int32) (t0 : Nat) (t1 : Int32) (t2 : Int32) (h : AHeap) : Option ((Int32 × AHeap) ⊕ ((Int32 × AHeap))) :=
  (ast 0 h t0 t1 t2).bind fun h16 => some (.inl (v7 + 1, h16))
theorem Frt_findRay_j168_J {E : JE} {l : Launch} {G : GX} {r : Option Value} {h' : AHeap} (ok : JOK E l G kFrt_findRay 0 0 r h') (v0 : Nat) (v1 : Nat) (v2 : Int32) (v3 : Int32) (v4 : Int32) (v5 : Int32) (v6 : Int32) (v7 : Int32) (t0 : Nat) (t1 : Int32) (t2 : Int32) (h : AHeap) {Y : (Int32 × AHeap) ⊕ ((Int32 × AHeap)) → Prop} (k1 : ∀ s' : Int32 × AHeap, Y (.inl s') → JW E kFrt_findRay 132 [some (.ref v0), some (.ref v1), some (.int v2), some (.int v3), some (.int v4), some (.int v5), some (.int v6), some (.int s'.1), none] [] s'.2 0 0) (kx175 : ∀ q : Int32 × AHeap, Y (.inr q) → JW E kFrt_findRay 175 [some (.ref v0), some (.ref v1), some (.int v2), some (.int v3), some (.int v4), some (.int v5), some (.int v6), some (.int q.1), none] [] q.2 0 0) : J E kFrt_findRay (Frt_findRay_j168 v0 v1 v2 v3 v4 v5 v6 v7 t0 t1 t2 h) Y 168 [some (.ref v0), some (.ref v1), some (.int v2), some (.int v3), some (.int v4), some (.int v5), some (.int v6), some (.int v7), none] [.int t2, .int t1, .ref t0] h 0 0 := by
  unfold Frt_findRay_j168
  refine J_iast (pc' := 169) ok (dOf dX4_findRay 91 rfl) rfl (fun h16 _ => ?_)
  refine J_iinc (v := v7 + 1) (ls' := [some (.ref v0), some (.ref v1), some (.int v2), some (.int v3), some (.int v4), some (.int v5), some (.int v6), some (.int (v7 + 1)), none]) (pc' := 172) ok (dOf dX4_findRay 92 rfl) rfl rfl (by rfl) (Nat.le_of_ble_eq_true rfl) rfl rfl ?_
  refine J_goto (tgt := 132) ok (dOf dX4_findRay 93 rfl) (by decide) ?_
  exact J_fin (k1 (v7 + 1, h16))
def Frt_findRay_b132 (v0 : Nat) (v1 : Nat) (v2 : Int32) (v3 : Int32) (v4 : Int32) (v5 : Int32) (v6 : Int32) (s : Int32 × AHeap) : Option ((Int32 × AHeap) ⊕ ((Int32 × AHeap))) :=
  (gfI s.2 v1 6 0).bind fun x12 => (if x12 ≤ s.1 then some (.inr (s.1, s.2)) else (gfR s.2 v0 4 10).bind fun a13 => (if (v5 &&& ((1 : Int32) <<< (s.1 &&& 31))) = 0 then (gfR s.2 v0 4 10).bind fun a14 => (ald 0 s.2 a14 s.1).bind fun x15 => Frt_findRay_j168 v0 v1 v2 v3 v4 v5 v6 s.1 a13 s.1 x15 s.2 else Frt_findRay_j168 v0 v1 v2 v3 v4 v5 v6 s.1 a13 s.1 1 s.2))
theorem Frt_findRay_b132_J {E : JE} {l : Launch} {G : GX} {r : Option Value} {h' : AHeap} (ok : JOK E l G kFrt_findRay 0 0 r h') (v0 : Nat) (v1 : Nat) (v2 : Int32) (v3 : Int32) (v4 : Int32) (v5 : Int32) (v6 : Int32) {Y : (Int32 × AHeap) ⊕ ((Int32 × AHeap)) → Prop} (k1 : ∀ s' : Int32 × AHeap, Y (.inl s') → JW E kFrt_findRay 132 [some (.ref v0), some (.ref v1), some (.int v2), some (.int v3), some (.int v4), some (.int v5), some (.int v6), some (.int s'.1), none] [] s'.2 0 0) (kx175 : ∀ q : Int32 × AHeap, Y (.inr q) → JW E kFrt_findRay 175 [some (.ref v0), some (.ref v1), some (.int v2), some (.int v3), some (.int v4), some (.int v5), some (.int v6), some (.int q.1), none] [] q.2 0 0) (s : Int32 × AHeap) : J E kFrt_findRay (Frt_findRay_b132 v0 v1 v2 v3 v4 v5 v6 s) Y 132 [some (.ref v0), some (.ref v1), some (.int v2), some (.int v3), some (.int v4), some (.int v5), some (.int v6), some (.int s.1), none] [] s.2 0 0 := by
  unfold Frt_findRay_b132
  refine J_iload (pc' := 134) ok (dOf dX4_findRay 72 rfl) rfl rfl ?_
  refine J_aload_n (pc' := 135) ok (dOf dX4_findRay 73 rfl) rfl rfl rfl ?_
  refine J_getI (ci := 6) (kf := 0) (C := RX6) (T := TX6) (N := 9) (pc' := 138) ok (dOf dX4_findRay 74 rfl) rfl (by decide) rfl (by decide) win_6 wfl_X4_115 (fun x12 => ?_)
  refine J_icmp_ge (tgt := 175) (pc' := 141) ok (dOf dX4_findRay 75 rfl) rfl (by decide) ?_ ?_
  · exact J_fin (kx175 (s.1, s.2))
  · refine J_aload_n (pc' := 142) ok (dOf dX4_findRay 76 rfl) rfl rfl rfl ?_
    refine J_getR (ci := 4) (kf := 10) (C := RX4) (T := TX4) (N := 12) (pc' := 145) ok (dOf dX4_findRay 77 rfl) rfl (by decide) rfl (by decide) win_4 wfl_X4_43 (fun a13 => ?_)
    refine J_iload (pc' := 147) ok (dOf dX4_findRay 78 rfl) rfl rfl ?_
    refine J_iload (pc' := 149) ok (dOf dX4_findRay 79 rfl) rfl rfl ?_
    refine J_iconst (v := 1) (pc' := 150) ok (dOf dX4_findRay 80 rfl) rfl (by decide) ?_
    refine J_iload (pc' := 152) ok (dOf dX4_findRay 81 rfl) rfl rfl ?_
    refine J_ishl (pc' := 153) ok (dOf dX4_findRay 82 rfl) rfl ?_
    refine J_iand (pc' := 154) ok (dOf dX4_findRay 83 rfl) rfl ?_
    refine J_if_eq (tgt := 161) (pc' := 157) ok (dOf dX4_findRay 84 rfl) rfl (by decide) ?_ ?_
    · refine J_aload_n (pc' := 162) ok (dOf dX4_findRay 87 rfl) rfl rfl rfl ?_
      refine J_getR (ci := 4) (kf := 10) (C := RX4) (T := TX4) (N := 12) (pc' := 165) ok (dOf dX4_findRay 88 rfl) rfl (by decide) rfl (by decide) win_4 wfl_X4_43 (fun a14 => ?_)
      refine J_iload (pc' := 167) ok (dOf dX4_findRay 89 rfl) rfl rfl ?_
      refine J_iald (pc' := 168) ok (dOf dX4_findRay 90 rfl) rfl (fun x15 => ?_)
      exact Frt_findRay_j168_J ok v0 v1 v2 v3 v4 v5 v6 s.1 a13 s.1 x15 s.2 k1 kx175
    · refine J_iconst (v := 1) (pc' := 158) ok (dOf dX4_findRay 85 rfl) rfl (by decide) ?_
      refine J_goto (tgt := 168) ok (dOf dX4_findRay 86 rfl) (by decide) ?_
      exact Frt_findRay_j168_J ok v0 v1 v2 v3 v4 v5 v6 s.1 a13 s.1 1 s.2 k1 kx175
def Frt_findRay_j116 (v0 : Nat) (v1 : Nat) (v2 : Int32) (v3 : Int32) (v4 : Int32) (v5 : Int32) (v6 : Int32) (v7 : Int32) (h : AHeap) : Option ((Int32 × AHeap) ⊕ ((Int32 × AHeap))) :=
  (if v6 = 0 then Frt_findRay_j175 v0 v1 v2 v3 v4 v5 v6 v7 h else (gfR h v0 4 11).bind fun a10 => (ast 0 h a10 v4 1).bind fun h11 => (iter (Frt_findRay_b132 v0 v1 v2 v3 v4 v5 v6) Lmax (0, h11)).bind (fun q132 => Frt_findRay_j175 v0 v1 v2 v3 v4 v5 v6 q132.1 q132.2))
theorem Frt_findRay_j116_J {E : JE} {l : Launch} {G : GX} {r : Option Value} {h' : AHeap} (ok : JOK E l G kFrt_findRay 0 0 r h') (v0 : Nat) (v1 : Nat) (v2 : Int32) (v3 : Int32) (v4 : Int32) (v5 : Int32) (v6 : Int32) (v7 : Int32) (h : AHeap) {Y : (Int32 × AHeap) ⊕ ((Int32 × AHeap)) → Prop} (k1 : ∀ s' : Int32 × AHeap, Y (.inl s') → JW E kFrt_findRay 3 [some (.ref v0), some (.ref v1), some (.int v2), some (.int v3), some (.int s'.1), none, none, none, none] [] s'.2 0 0) (kx181 : ∀ q : Int32 × AHeap, Y (.inr q) → JW E kFrt_findRay 181 [some (.ref v0), some (.ref v1), some (.int v2), some (.int v3), some (.int q.1), none, none, none, none] [] q.2 0 0) : J E kFrt_findRay (Frt_findRay_j116 v0 v1 v2 v3 v4 v5 v6 v7 h) Y 116 [some (.ref v0), some (.ref v1), some (.int v2), some (.int v3), some (.int v4), some (.int v5), some (.int v6), some (.int v7), none] [] h 0 0 := by
  unfold Frt_findRay_j116
  refine J_iload (pc' := 118) ok (dOf dX4_findRay 63 rfl) rfl rfl ?_
  refine J_if_eq (tgt := 175) (pc' := 121) ok (dOf dX4_findRay 64 rfl) rfl (by decide) ?_ ?_
  · exact Frt_findRay_j175_J ok v0 v1 v2 v3 v4 v5 v6 v7 h k1 kx181
  · refine J_aload_n (pc' := 122) ok (dOf dX4_findRay 65 rfl) rfl rfl rfl ?_
    refine J_getR (ci := 4) (kf := 11) (C := RX4) (T := TX4) (N := 12) (pc' := 125) ok (dOf dX4_findRay 66 rfl) rfl (by decide) rfl (by decide) win_4 wfl_X4_46 (fun a10 => ?_)
    refine J_iload (pc' := 127) ok (dOf dX4_findRay 67 rfl) rfl rfl ?_
    refine J_iconst (v := 1) (pc' := 128) ok (dOf dX4_findRay 68 rfl) rfl (by decide) ?_
    refine J_iast (pc' := 129) ok (dOf dX4_findRay 69 rfl) rfl (fun h11 _ => ?_)
    refine J_iconst (v := 0) (pc' := 130) ok (dOf dX4_findRay 70 rfl) rfl (by decide) ?_
    refine J_istore (ls' := [some (.ref v0), some (.ref v1), some (.int v2), some (.int v3), some (.int v4), some (.int v5), some (.int v6), some (.int 0), none]) (pc' := 132) ok (dOf dX4_findRay 71 rfl) rfl (Nat.le_of_ble_eq_true rfl) rfl rfl ?_
    refine J_iter (lf := fun z132 => [some (.ref v0), some (.ref v1), some (.int v2), some (.int v3), some (.int v4), some (.int v5), some (.int v6), some (.int z132.1), none]) (sf := fun _ => []) (hf := fun z132 => z132.2) (px := (fun q132 => 175)) (lx := (fun q132 => [some (.ref v0), some (.ref v1), some (.int v2), some (.int v3), some (.int v4), some (.int v5), some (.int v6), some (.int q132.1), none])) (sx := (fun q132 => [])) (hx := (fun q132 => q132.2)) (fun Y2 z132 m1 m2 => Frt_findRay_b132_J ok v0 v1 v2 v3 v4 v5 v6 m1 m2 z132) (fun q132 => ?_) Lmax _
    exact Frt_findRay_j175_J ok v0 v1 v2 v3 v4 v5 v6 q132.1 q132.2 k1 kx181
def Frt_findRay_j40 (v0 : Nat) (v1 : Nat) (v2 : Int32) (v3 : Int32) (v4 : Int32) (v5 : Int32) (t0 : Int32) (h : AHeap) : Option ((Int32 × AHeap) ⊕ ((Int32 × AHeap))) :=
  (iter (Frt_findRay_b45 v0 v1 v2 v3 v4 v5 h) Lmax (t0, 0)).bind (fun q45 => Frt_findRay_j116 v0 v1 v2 v3 v4 v5 q45.1 q45.2 h)
theorem Frt_findRay_j40_J {E : JE} {l : Launch} {G : GX} {r : Option Value} {h' : AHeap} (ok : JOK E l G kFrt_findRay 0 0 r h') (v0 : Nat) (v1 : Nat) (v2 : Int32) (v3 : Int32) (v4 : Int32) (v5 : Int32) (t0 : Int32) (h : AHeap) {Y : (Int32 × AHeap) ⊕ ((Int32 × AHeap)) → Prop} (k1 : ∀ s' : Int32 × AHeap, Y (.inl s') → JW E kFrt_findRay 3 [some (.ref v0), some (.ref v1), some (.int v2), some (.int v3), some (.int s'.1), none, none, none, none] [] s'.2 0 0) (kx181 : ∀ q : Int32 × AHeap, Y (.inr q) → JW E kFrt_findRay 181 [some (.ref v0), some (.ref v1), some (.int v2), some (.int v3), some (.int q.1), none, none, none, none] [] q.2 0 0) : J E kFrt_findRay (Frt_findRay_j40 v0 v1 v2 v3 v4 v5 t0 h) Y 40 [some (.ref v0), some (.ref v1), some (.int v2), some (.int v3), some (.int v4), some (.int v5), none, none, none] [.int t0] h 0 0 := by
  unfold Frt_findRay_j40
  refine J_istore (ls' := [some (.ref v0), some (.ref v1), some (.int v2), some (.int v3), some (.int v4), some (.int v5), some (.int t0), none, none]) (pc' := 42) ok (dOf dX4_findRay 22 rfl) rfl (Nat.le_of_ble_eq_true rfl) rfl rfl ?_
  refine J_iconst (v := 0) (pc' := 43) ok (dOf dX4_findRay 23 rfl) rfl (by decide) ?_
  refine J_istore (ls' := [some (.ref v0), some (.ref v1), some (.int v2), some (.int v3), some (.int v4), some (.int v5), some (.int t0), some (.int 0), none]) (pc' := 45) ok (dOf dX4_findRay 24 rfl) rfl (Nat.le_of_ble_eq_true rfl) rfl rfl ?_
  refine J_iter (lf := fun z45 => [some (.ref v0), some (.ref v1), some (.int v2), some (.int v3), some (.int v4), some (.int v5), some (.int z45.1), some (.int z45.2), none]) (sf := fun _ => []) (hf := fun z45 => h) (px := (fun q45 => 116)) (lx := (fun q45 => [some (.ref v0), some (.ref v1), some (.int v2), some (.int v3), some (.int v4), some (.int v5), some (.int q45.1), some (.int q45.2), none])) (sx := (fun q45 => [])) (hx := (fun q45 => h)) (fun Y2 z45 m1 m2 => Frt_findRay_b45_J ok v0 v1 v2 v3 v4 v5 h m1 m2 z45) (fun q45 => ?_) Lmax _
  exact Frt_findRay_j116_J ok v0 v1 v2 v3 v4 v5 q45.1 q45.2 h k1 kx181
def Frt_findRay_b3 (v0 : Nat) (v1 : Nat) (v2 : Int32) (v3 : Int32) (s : Int32 × AHeap) : Option ((Int32 × AHeap) ⊕ ((Int32 × AHeap))) :=
  (gfI s.2 v1 6 1).bind fun x1 => (if x1 ≤ s.1 then some (.inr (s.1, s.2)) else (chk s.2 v1 6).bind fun _ => bnd2 (Prog_plantsOf v1 s.1 s.2) fun x3 h2 => (gfR h2 v1 6 8).bind fun a4 => (ald 0 h2 a4 ((v2 * 6) + s.1)).bind fun x5 => (if x5 ≤ 0 then Frt_findRay_j40 v0 v1 v2 v3 s.1 x3 0 h2 else Frt_findRay_j40 v0 v1 v2 v3 s.1 x3 1 h2))
theorem Frt_findRay_b3_J {E : JE} {l : Launch} {G : GX} {r : Option Value} {h' : AHeap} (ok : JOK E l G kFrt_findRay 0 0 r h') (v0 : Nat) (v1 : Nat) (v2 : Int32) (v3 : Int32) {Y : (Int32 × AHeap) ⊕ ((Int32 × AHeap)) → Prop} (k1 : ∀ s' : Int32 × AHeap, Y (.inl s') → JW E kFrt_findRay 3 [some (.ref v0), some (.ref v1), some (.int v2), some (.int v3), some (.int s'.1), none, none, none, none] [] s'.2 0 0) (kx181 : ∀ q : Int32 × AHeap, Y (.inr q) → JW E kFrt_findRay 181 [some (.ref v0), some (.ref v1), some (.int v2), some (.int v3), some (.int q.1), none, none, none, none] [] q.2 0 0) (s : Int32 × AHeap) : J E kFrt_findRay (Frt_findRay_b3 v0 v1 v2 v3 s) Y 3 [some (.ref v0), some (.ref v1), some (.int v2), some (.int v3), some (.int s.1), none, none, none, none] [] s.2 0 0 := by
  unfold Frt_findRay_b3
  refine J_iload (pc' := 5) ok (dOf dX4_findRay 2 rfl) rfl rfl ?_
  refine J_aload_n (pc' := 6) ok (dOf dX4_findRay 3 rfl) rfl rfl rfl ?_
  refine J_getI (ci := 6) (kf := 1) (C := RX6) (T := TX6) (N := 9) (pc' := 9) ok (dOf dX4_findRay 4 rfl) rfl (by decide) rfl (by decide) win_6 wfl_X4_49 (fun x1 => ?_)
  refine J_icmp_ge (tgt := 181) (pc' := 12) ok (dOf dX4_findRay 5 rfl) rfl (by decide) ?_ ?_
  · exact J_fin (kx181 (s.1, s.2))
  · refine J_aload_n (pc' := 13) ok (dOf dX4_findRay 6 rfl) rfl rfl rfl ?_
    refine J_iload (pc' := 15) ok (dOf dX4_findRay 7 rfl) rfl rfl ?_
    refine J_callVi (k2 := kProg_plantsOf) (ci := 6) (T := TX6) (N := 9) (as := [.int s.1]) (pc' := 18) ok (dOf dX4_findRay 8 rfl) rfl (cw_Prog_plantsOf (by decide) (by decide)) wml_X4_55 winst_X6_plantsOf wsel_X6_plantsOf rfl ⟨Nat.le_refl 0, Nat.le_refl 0⟩ (Nat.le_of_ble_eq_true rfl) rfl (fun _ _ hf => t_Prog_plantsOf hf) (fun x3 h2 => ?_)
    refine J_istore (ls' := [some (.ref v0), some (.ref v1), some (.int v2), some (.int v3), some (.int s.1), some (.int x3), none, none, none]) (pc' := 20) ok (dOf dX4_findRay 9 rfl) rfl (Nat.le_of_ble_eq_true rfl) rfl rfl ?_
    refine J_aload_n (pc' := 21) ok (dOf dX4_findRay 10 rfl) rfl rfl rfl ?_
    refine J_getR (ci := 6) (kf := 8) (C := RX6) (T := TX6) (N := 9) (pc' := 24) ok (dOf dX4_findRay 11 rfl) rfl (by decide) rfl (by decide) win_6 wfl_X4_59 (fun a4 => ?_)
    refine J_iload_n (pc' := 25) ok (dOf dX4_findRay 12 rfl) rfl rfl rfl ?_
    refine J_bipush (v := 6) (pc' := 27) ok (dOf dX4_findRay 13 rfl) rfl (by decide) ?_
    refine J_imul (pc' := 28) ok (dOf dX4_findRay 14 rfl) rfl ?_
    refine J_iload (pc' := 30) ok (dOf dX4_findRay 15 rfl) rfl rfl ?_
    refine J_iadd (pc' := 31) ok (dOf dX4_findRay 16 rfl) rfl ?_
    refine J_iald (pc' := 32) ok (dOf dX4_findRay 17 rfl) rfl (fun x5 => ?_)
    refine J_if_le (tgt := 39) (pc' := 35) ok (dOf dX4_findRay 18 rfl) rfl (by decide) ?_ ?_
    · refine J_iconst (v := 0) (pc' := 40) ok (dOf dX4_findRay 21 rfl) rfl (by decide) ?_
      exact Frt_findRay_j40_J ok v0 v1 v2 v3 s.1 x3 0 h2 k1 kx181
    · refine J_iconst (v := 1) (pc' := 36) ok (dOf dX4_findRay 19 rfl) rfl (by decide) ?_
      refine J_goto (tgt := 40) ok (dOf dX4_findRay 20 rfl) (by decide) ?_
      exact Frt_findRay_j40_J ok v0 v1 v2 v3 s.1 x3 1 h2 k1 kx181
def Frt_findRay_j181 (v0 : Nat) (v1 : Nat) (v2 : Int32) (v3 : Int32) (v4 : Int32) (h : AHeap) : Option (Unit × AHeap) :=
  some ((), h)
theorem Frt_findRay_j181_J {E : JE} {l : Launch} {G : GX} {h' : AHeap} (ok : JOK E l G kFrt_findRay 0 0 none h') (v0 : Nat) (v1 : Nat) (v2 : Int32) (v3 : Int32) (v4 : Int32) (h : AHeap) : J E kFrt_findRay (Frt_findRay_j181 v0 v1 v2 v3 v4 h) (fun z => z = ((), h')) 181 [some (.ref v0), some (.ref v1), some (.int v2), some (.int v3), some (.int v4), none, none, none, none] [] h 0 0 := by
  unfold Frt_findRay_j181
  exact J_vreturn ok (dOf dX4_findRay 96 rfl) rfl (Nat.le_refl 0) (Nat.le_refl 0)
def Frt_findRay (v0 : Nat) (v1 : Nat) (v2 : Int32) (v3 : Int32) (h : AHeap) : Option (Unit × AHeap) :=
  (iter (Frt_findRay_b3 v0 v1 v2 v3) Lmax (0, h)).bind (fun q3 => Frt_findRay_j181 v0 v1 v2 v3 q3.1 q3.2)
theorem t_Frt_findRay {l : Launch} {G : GX} {v0 : Nat} {v1 : Nat} {v2 : Int32} {v3 : Int32} {h : AHeap} {h1 : AHeap} (hf : Frt_findRay v0 v1 v2 v3 h = some ((), h1)) : CT l G kFrt_findRay 0 0 [.ref v0, .ref v1, .int v2, .int v3] h none h1 := by
  refine CT_of (ls := [some (.ref v0), some (.ref v1), some (.int v2), some (.int v3), none, none, none, none, none]) (Z := fun z => z = ((), h1)) (by decide +kernel) (Nat.le_of_ble_eq_true rfl) hf rfl ⟨rfl, rfl, rfl, rfl, trivial⟩ (fun E ok => ?_)
  unfold Frt_findRay
  refine J_iconst (v := 0) (pc' := 1) ok (dOf dX4_findRay 0 rfl) rfl (by decide) ?_
  refine J_istore (ls' := [some (.ref v0), some (.ref v1), some (.int v2), some (.int v3), some (.int 0), none, none, none, none]) (pc' := 3) ok (dOf dX4_findRay 1 rfl) rfl (Nat.le_of_ble_eq_true rfl) rfl rfl ?_
  refine J_iter (lf := fun z3 => [some (.ref v0), some (.ref v1), some (.int v2), some (.int v3), some (.int z3.1), none, none, none, none]) (sf := fun _ => []) (hf := fun z3 => z3.2) (px := (fun q3 => 181)) (lx := (fun q3 => [some (.ref v0), some (.ref v1), some (.int v2), some (.int v3), some (.int q3.1), none, none, none, none])) (sx := (fun q3 => [])) (hx := (fun q3 => q3.2)) (fun Y2 z3 m1 m2 => Frt_findRay_b3_J ok v0 v1 v2 v3 m1 m2 z3) (fun q3 => ?_) Lmax _
  exact Frt_findRay_j181_J ok v0 v1 v2 v3 q3.1 q3.2
-- X4_greatestRate
abbrev kFrt_greatestRate : Cd := (yX4_greatestRate, cX4_greatestRate, 6, (some .int), 1, 21)
theorem dX4_greatestRate : dcheck cX4_greatestRate [(0, .ldc 114, 2), (2, .istore_n 3, 1), (3, .iconst 0, 1), (4, .istore 4, 2), (6, .iload 4, 2), (8, .aload_n 1, 1), (9, .getfield 115, 3), (12, .if_icmp .ge 44, 3), (15, .aload_n 1, 1), (16, .getfield 101, 3), (19, .iload 4, 2), (21, .bipush 6, 2), (23, .imul, 1), (24, .iload_n 2, 1), (25, .iadd, 1), (26, .iaload, 1), (27, .istore 5, 2), (29, .iload 5, 2), (31, .iconst (-1), 1), (32, .if_icmp .eq 18, 3), (35, .iload_n 3, 1), (36, .aload_n 0, 1), (37, .getfield 43, 3), (40, .iload 4, 2), (42, .iaload, 1), (43, .iload 5, 2), (45, .iadd, 1), (46, .invokestatic 118, 3), (49, .istore_n 3, 1), (50, .iinc 4 1, 3), (53, .goto (-47), 3), (56, .iload_n 3, 1), (57, .ldc 114, 2), (59, .if_icmp .ne 7, 3), (62, .iconst 0, 1), (63, .goto 4, 3), (66, .iload_n 3, 1), (67, .ireturn, 1)] = true := by decide +kernel
theorem cw_Frt_greatestRate {k : Cd} (h1 : kFrt_greatestRate.2.2.2.2.1 + 1 ≤ k.2.2.2.2.1) (h2 : 8 + (kFrt_greatestRate.2.2.1 + 11) + kFrt_greatestRate.2.2.2.2.2 ≤ k.2.2.2.2.2) : Cw k kFrt_greatestRate 2 := ⟨wcode_X4_greatestRate, wini_SplitProgram_Freight, ⟨by decide, by decide, by decide +kernel⟩, h1, h2⟩
def Frt_greatestRate_j50 (v0 : Nat) (v1 : Nat) (v2 : Int32) (v3 : Int32) (v4 : Int32) (v5 : Int32) (h : AHeap) : Option ((Int32 × Int32) ⊕ ((Int32 × Int32))) :=
  some (.inl (v3, v4 + 1))
theorem Frt_greatestRate_j50_J {E : JE} {l : Launch} {G : GX} {r : Option Value} {h' : AHeap} (ok : JOK E l G kFrt_greatestRate 0 0 r h') (v0 : Nat) (v1 : Nat) (v2 : Int32) (v3 : Int32) (v4 : Int32) (v5 : Int32) (h : AHeap) {Y : (Int32 × Int32) ⊕ ((Int32 × Int32)) → Prop} (k1 : ∀ s' : Int32 × Int32, Y (.inl s') → JW E kFrt_greatestRate 6 [some (.ref v0), some (.ref v1), some (.int v2), some (.int s'.1), some (.int s'.2), none] [] h 0 0) (kx56 : ∀ q : Int32 × Int32, Y (.inr q) → JW E kFrt_greatestRate 56 [some (.ref v0), some (.ref v1), some (.int v2), some (.int q.1), some (.int q.2), none] [] h 0 0) : J E kFrt_greatestRate (Frt_greatestRate_j50 v0 v1 v2 v3 v4 v5 h) Y 50 [some (.ref v0), some (.ref v1), some (.int v2), some (.int v3), some (.int v4), some (.int v5)] [] h 0 0 := by
  unfold Frt_greatestRate_j50
  refine J_iinc (v := v4 + 1) (ls' := [some (.ref v0), some (.ref v1), some (.int v2), some (.int v3), some (.int (v4 + 1)), some (.int v5)]) (pc' := 53) ok (dOf dX4_greatestRate 29 rfl) rfl rfl (by rfl) (Nat.le_of_ble_eq_true rfl) rfl rfl ?_
  refine J_goto (tgt := 6) ok (dOf dX4_greatestRate 30 rfl) (by decide) ?_
  refine J_weak (ls' := [some (.ref v0), some (.ref v1), some (.int v2), some (.int v3), some (.int (v4 + 1)), none]) ⟨rfl, rfl, rfl, rfl, rfl, trivial⟩ ?_
  exact J_fin (k1 (v3, v4 + 1))
def Frt_greatestRate_b6 (v0 : Nat) (v1 : Nat) (v2 : Int32) (h : AHeap) (s : Int32 × Int32) : Option ((Int32 × Int32) ⊕ ((Int32 × Int32))) :=
  (gfI h v1 6 0).bind fun x1 => (if x1 ≤ s.2 then some (.inr (s.1, s.2)) else (gfR h v1 6 6).bind fun a2 => (ald 0 h a2 ((s.2 * 6) + v2)).bind fun x3 => (if x3 = (-1) then Frt_greatestRate_j50 v0 v1 v2 s.1 s.2 x3 h else (gfR h v0 4 10).bind fun a4 => (ald 0 h a4 s.2).bind fun x5 => Frt_greatestRate_j50 v0 v1 v2 (if (x5 + x3) < s.1 then (x5 + x3) else s.1) s.2 x3 h))
theorem Frt_greatestRate_b6_J {E : JE} {l : Launch} {G : GX} {r : Option Value} {h' : AHeap} (ok : JOK E l G kFrt_greatestRate 0 0 r h') (v0 : Nat) (v1 : Nat) (v2 : Int32) (h : AHeap) {Y : (Int32 × Int32) ⊕ ((Int32 × Int32)) → Prop} (k1 : ∀ s' : Int32 × Int32, Y (.inl s') → JW E kFrt_greatestRate 6 [some (.ref v0), some (.ref v1), some (.int v2), some (.int s'.1), some (.int s'.2), none] [] h 0 0) (kx56 : ∀ q : Int32 × Int32, Y (.inr q) → JW E kFrt_greatestRate 56 [some (.ref v0), some (.ref v1), some (.int v2), some (.int q.1), some (.int q.2), none] [] h 0 0) (s : Int32 × Int32) : J E kFrt_greatestRate (Frt_greatestRate_b6 v0 v1 v2 h s) Y 6 [some (.ref v0), some (.ref v1), some (.int v2), some (.int s.1), some (.int s.2), none] [] h 0 0 := by
  unfold Frt_greatestRate_b6
  refine J_iload (pc' := 8) ok (dOf dX4_greatestRate 4 rfl) rfl rfl ?_
  refine J_aload_n (pc' := 9) ok (dOf dX4_greatestRate 5 rfl) rfl rfl rfl ?_
  refine J_getI (ci := 6) (kf := 0) (C := RX6) (T := TX6) (N := 9) (pc' := 12) ok (dOf dX4_greatestRate 6 rfl) rfl (by decide) rfl (by decide) win_6 wfl_X4_115 (fun x1 => ?_)
  refine J_icmp_ge (tgt := 56) (pc' := 15) ok (dOf dX4_greatestRate 7 rfl) rfl (by decide) ?_ ?_
  · exact J_fin (kx56 (s.1, s.2))
  · refine J_aload_n (pc' := 16) ok (dOf dX4_greatestRate 8 rfl) rfl rfl rfl ?_
    refine J_getR (ci := 6) (kf := 6) (C := RX6) (T := TX6) (N := 9) (pc' := 19) ok (dOf dX4_greatestRate 9 rfl) rfl (by decide) rfl (by decide) win_6 wfl_X4_101 (fun a2 => ?_)
    refine J_iload (pc' := 21) ok (dOf dX4_greatestRate 10 rfl) rfl rfl ?_
    refine J_bipush (v := 6) (pc' := 23) ok (dOf dX4_greatestRate 11 rfl) rfl (by decide) ?_
    refine J_imul (pc' := 24) ok (dOf dX4_greatestRate 12 rfl) rfl ?_
    refine J_iload_n (pc' := 25) ok (dOf dX4_greatestRate 13 rfl) rfl rfl rfl ?_
    refine J_iadd (pc' := 26) ok (dOf dX4_greatestRate 14 rfl) rfl ?_
    refine J_iald (pc' := 27) ok (dOf dX4_greatestRate 15 rfl) rfl (fun x3 => ?_)
    refine J_istore (ls' := [some (.ref v0), some (.ref v1), some (.int v2), some (.int s.1), some (.int s.2), some (.int x3)]) (pc' := 29) ok (dOf dX4_greatestRate 16 rfl) rfl (Nat.le_of_ble_eq_true rfl) rfl rfl ?_
    refine J_iload (pc' := 31) ok (dOf dX4_greatestRate 17 rfl) rfl rfl ?_
    refine J_iconst (v := (-1)) (pc' := 32) ok (dOf dX4_greatestRate 18 rfl) rfl (by decide) ?_
    refine J_icmp_eq (tgt := 50) (pc' := 35) ok (dOf dX4_greatestRate 19 rfl) rfl (by decide) ?_ ?_
    · exact Frt_greatestRate_j50_J ok v0 v1 v2 s.1 s.2 x3 h k1 kx56
    · refine J_iload_n (pc' := 36) ok (dOf dX4_greatestRate 20 rfl) rfl rfl rfl ?_
      refine J_aload_n (pc' := 37) ok (dOf dX4_greatestRate 21 rfl) rfl rfl rfl ?_
      refine J_getR (ci := 4) (kf := 10) (C := RX4) (T := TX4) (N := 12) (pc' := 40) ok (dOf dX4_greatestRate 22 rfl) rfl (by decide) rfl (by decide) win_4 wfl_X4_43 (fun a4 => ?_)
      refine J_iload (pc' := 42) ok (dOf dX4_greatestRate 23 rfl) rfl rfl ?_
      refine J_iald (pc' := 43) ok (dOf dX4_greatestRate 24 rfl) rfl (fun x5 => ?_)
      refine J_iload (pc' := 45) ok (dOf dX4_greatestRate 25 rfl) rfl rfl ?_
      refine J_iadd (pc' := 46) ok (dOf dX4_greatestRate 26 rfl) rfl ?_
      refine J_mmin (pc' := 49) ok (dOf dX4_greatestRate 27 rfl) rfl wml_X4_118 wstat_J9_min_7cf53 wini_java_lang_Math wcode_J9_min_7cf53 (Nat.le_of_ble_eq_true rfl) (Nat.le_of_ble_eq_true rfl) (Nat.le_refl 0) (Nat.le_refl 0) ?_
      refine J_istore_n (ls' := [some (.ref v0), some (.ref v1), some (.int v2), some (.int (if (x5 + x3) < s.1 then (x5 + x3) else s.1)), some (.int s.2), some (.int x3)]) (pc' := 50) ok (dOf dX4_greatestRate 28 rfl) rfl rfl (Nat.le_of_ble_eq_true rfl) rfl rfl ?_
      exact Frt_greatestRate_j50_J ok v0 v1 v2 (if (x5 + x3) < s.1 then (x5 + x3) else s.1) s.2 x3 h k1 kx56
def Frt_greatestRate_j67 (v0 : Nat) (v1 : Nat) (v2 : Int32) (v3 : Int32) (v4 : Int32) (t0 : Int32) (h : AHeap) : Option (Int32 × AHeap) :=
  some (t0, h)
theorem Frt_greatestRate_j67_J {E : JE} {l : Launch} {G : GX} {v : Int32} {h' : AHeap} (ok : JOK E l G kFrt_greatestRate 0 0 (some (.int v)) h') (v0 : Nat) (v1 : Nat) (v2 : Int32) (v3 : Int32) (v4 : Int32) (t0 : Int32) (h : AHeap) : J E kFrt_greatestRate (Frt_greatestRate_j67 v0 v1 v2 v3 v4 t0 h) (fun z => z = (v, h')) 67 [some (.ref v0), some (.ref v1), some (.int v2), some (.int v3), some (.int v4), none] [.int t0] h 0 0 := by
  unfold Frt_greatestRate_j67
  exact J_ireturn ok (dOf dX4_greatestRate 37 rfl) rfl (Nat.le_refl 0) (Nat.le_refl 0)
def Frt_greatestRate_j56 (v0 : Nat) (v1 : Nat) (v2 : Int32) (v3 : Int32) (v4 : Int32) (h : AHeap) : Option (Int32 × AHeap) :=
  (if ¬ v3 = 1000000 then Frt_greatestRate_j67 v0 v1 v2 v3 v4 v3 h else Frt_greatestRate_j67 v0 v1 v2 v3 v4 0 h)
theorem Frt_greatestRate_j56_J {E : JE} {l : Launch} {G : GX} {v : Int32} {h' : AHeap} (ok : JOK E l G kFrt_greatestRate 0 0 (some (.int v)) h') (v0 : Nat) (v1 : Nat) (v2 : Int32) (v3 : Int32) (v4 : Int32) (h : AHeap) : J E kFrt_greatestRate (Frt_greatestRate_j56 v0 v1 v2 v3 v4 h) (fun z => z = (v, h')) 56 [some (.ref v0), some (.ref v1), some (.int v2), some (.int v3), some (.int v4), none] [] h 0 0 := by
  unfold Frt_greatestRate_j56
  refine J_iload_n (pc' := 57) ok (dOf dX4_greatestRate 31 rfl) rfl rfl rfl ?_
  refine J_ldc (v := 1000000) (pc' := 59) ok (dOf dX4_greatestRate 32 rfl) rfl wcon_X4_114 ?_
  refine J_icmp_ne (tgt := 66) (pc' := 62) ok (dOf dX4_greatestRate 33 rfl) rfl (by decide) ?_ ?_
  · refine J_iload_n (pc' := 67) ok (dOf dX4_greatestRate 36 rfl) rfl rfl rfl ?_
    exact Frt_greatestRate_j67_J ok v0 v1 v2 v3 v4 v3 h
  · refine J_iconst (v := 0) (pc' := 63) ok (dOf dX4_greatestRate 34 rfl) rfl (by decide) ?_
    refine J_goto (tgt := 67) ok (dOf dX4_greatestRate 35 rfl) (by decide) ?_
    exact Frt_greatestRate_j67_J ok v0 v1 v2 v3 v4 0 h
def Frt_greatestRate (v0 : Nat) (v1 : Nat) (v2 : Int32) (h : AHeap) : Option (Int32 × AHeap) :=
  (iter (Frt_greatestRate_b6 v0 v1 v2 h) Lmax (1000000, 0)).bind (fun q6 => Frt_greatestRate_j56 v0 v1 v2 q6.1 q6.2 h)
theorem t_Frt_greatestRate {l : Launch} {G : GX} {v0 : Nat} {v1 : Nat} {v2 : Int32} {h : AHeap} {v : Int32} {h1 : AHeap} (hf : Frt_greatestRate v0 v1 v2 h = some (v, h1)) : CT l G kFrt_greatestRate 0 0 [.ref v0, .ref v1, .int v2] h (some (.int v)) h1 := by
  refine CT_of (ls := [some (.ref v0), some (.ref v1), some (.int v2), none, none, none]) (Z := fun z => z = (v, h1)) (by decide +kernel) (Nat.le_of_ble_eq_true rfl) hf rfl ⟨rfl, rfl, rfl, trivial⟩ (fun E ok => ?_)
  unfold Frt_greatestRate
  refine J_ldc (v := 1000000) (pc' := 2) ok (dOf dX4_greatestRate 0 rfl) rfl wcon_X4_114 ?_
  refine J_istore_n (ls' := [some (.ref v0), some (.ref v1), some (.int v2), some (.int 1000000), none, none]) (pc' := 3) ok (dOf dX4_greatestRate 1 rfl) rfl rfl (Nat.le_of_ble_eq_true rfl) rfl rfl ?_
  refine J_iconst (v := 0) (pc' := 4) ok (dOf dX4_greatestRate 2 rfl) rfl (by decide) ?_
  refine J_istore (ls' := [some (.ref v0), some (.ref v1), some (.int v2), some (.int 1000000), some (.int 0), none]) (pc' := 6) ok (dOf dX4_greatestRate 3 rfl) rfl (Nat.le_of_ble_eq_true rfl) rfl rfl ?_
  refine J_iter (lf := fun z6 => [some (.ref v0), some (.ref v1), some (.int v2), some (.int z6.1), some (.int z6.2), none]) (sf := fun _ => []) (hf := fun z6 => h) (px := (fun q6 => 56)) (lx := (fun q6 => [some (.ref v0), some (.ref v1), some (.int v2), some (.int q6.1), some (.int q6.2), none])) (sx := (fun q6 => [])) (hx := (fun q6 => h)) (fun Y2 z6 m1 m2 => Frt_greatestRate_b6_J ok v0 v1 v2 h m1 m2 z6) (fun q6 => ?_) Lmax _
  exact Frt_greatestRate_j56_J ok v0 v1 v2 q6.1 q6.2 h
-- X4_findPoint
abbrev kFrt_findPoint : Cd := (yX4_findPoint, cX4_findPoint, 7, none, 2, 50)
theorem dX4_findPoint : dcheck cX4_findPoint [(0, .aload_n 0, 1), (1, .aload_n 1, 1), (2, .invokevirtual 107, 3), (5, .iconst 1, 1), (6, .istore_n 2, 1), (7, .iconst 0, 1), (8, .istore_n 3, 1), (9, .iload_n 3, 1), (10, .iconst 4, 1), (11, .if_icmp .gt 105, 3), (14, .iload_n 2, 1), (15, .ifCond .eq 101, 3), (18, .iconst 0, 1), (19, .istore_n 2, 1), (20, .iconst 0, 1), (21, .istore 4, 2), (23, .iload 4, 2), (25, .iconst 4, 1), (26, .if_icmp .ge 84, 3), (29, .iconst 0, 1), (30, .istore 5, 2), (32, .iload 5, 2), (34, .iconst 4, 1), (35, .if_icmp .ge 69, 3), (38, .aload_n 0, 1), (39, .getfield 31, 3), (42, .iload 4, 2), (44, .iconst 4, 1), (45, .imul, 1), (46, .iload 5, 2), (48, .iadd, 1), (49, .iaload, 1), (50, .istore 6, 2), (52, .iload 6, 2), (54, .ldc 114, 2), (56, .if_icmp .ge 42, 3), (59, .aload_n 0, 1), (60, .getfield 43, 3), (63, .iload 5, 2), (65, .iaload, 1), (66, .iload 6, 2), (68, .isub, 1), (69, .aload_n 0, 1), (70, .getfield 43, 3), (73, .iload 4, 2), (75, .iaload, 1), (76, .if_icmp .le 22, 3), (79, .aload_n 0, 1), (80, .getfield 43, 3), (83, .iload 4, 2), (85, .aload_n 0, 1), (86, .getfield 43, 3), (89, .iload 5, 2), (91, .iaload, 1), (92, .iload 6, 2), (94, .isub, 1), (95, .iastore, 1), (96, .iconst 1, 1), (97, .istore_n 2, 1), (98, .iinc 5 1, 3), (101, .goto (-69), 3), (104, .iinc 4 1, 3), (107, .goto (-84), 3), (110, .iinc 3 1, 3), (113, .goto (-104), 3), (116, .iconst 0, 1), (117, .istore_n 3, 1), (118, .iload_n 3, 1), (119, .aload_n 1, 1), (120, .getfield 49, 3), (123, .if_icmp .ge 21, 3), (126, .aload_n 0, 1), (127, .getfield 46, 3), (130, .iload_n 3, 1), (131, .aload_n 0, 1), (132, .aload_n 1, 1), (133, .iload_n 3, 1), (134, .invokevirtual 135, 3), (137, .iastore, 1), (138, .iinc 3 1, 3), (141, .goto (-23), 3), (144, .return_, 1)] = true := by decide +kernel
theorem cw_Frt_findPoint {k : Cd} (h1 : kFrt_findPoint.2.2.2.2.1 + 1 ≤ k.2.2.2.2.1) (h2 : 8 + (kFrt_findPoint.2.2.1 + 11) + kFrt_findPoint.2.2.2.2.2 ≤ k.2.2.2.2.2) : Cw k kFrt_findPoint 1 := ⟨wcode_X4_findPoint, wini_SplitProgram_Freight, ⟨by decide, by decide, by decide +kernel⟩, h1, h2⟩
def Frt_findPoint_j98 (v0 : Nat) (v1 : Nat) (v2 : Int32) (v3 : Int32) (v4 : Int32) (v5 : Int32) (v6 : Int32) (h : AHeap) : Option ((Int32 × Int32 × AHeap) ⊕ ((Int32 × Int32 × AHeap))) :=
  some (.inl (v2, v5 + 1, h))
theorem Frt_findPoint_j98_J {E : JE} {l : Launch} {G : GX} {r : Option Value} {h' : AHeap} (ok : JOK E l G kFrt_findPoint 0 0 r h') (v0 : Nat) (v1 : Nat) (v2 : Int32) (v3 : Int32) (v4 : Int32) (v5 : Int32) (v6 : Int32) (h : AHeap) {Y : (Int32 × Int32 × AHeap) ⊕ ((Int32 × Int32 × AHeap)) → Prop} (k1 : ∀ s' : Int32 × Int32 × AHeap, Y (.inl s') → JW E kFrt_findPoint 32 [some (.ref v0), some (.ref v1), some (.int s'.1), some (.int v3), some (.int v4), some (.int s'.2.1), none] [] s'.2.2 0 0) (kx104 : ∀ q : Int32 × Int32 × AHeap, Y (.inr q) → JW E kFrt_findPoint 104 [some (.ref v0), some (.ref v1), some (.int q.1), some (.int v3), some (.int v4), some (.int q.2.1), none] [] q.2.2 0 0) : J E kFrt_findPoint (Frt_findPoint_j98 v0 v1 v2 v3 v4 v5 v6 h) Y 98 [some (.ref v0), some (.ref v1), some (.int v2), some (.int v3), some (.int v4), some (.int v5), some (.int v6)] [] h 0 0 := by
  unfold Frt_findPoint_j98
  refine J_iinc (v := v5 + 1) (ls' := [some (.ref v0), some (.ref v1), some (.int v2), some (.int v3), some (.int v4), some (.int (v5 + 1)), some (.int v6)]) (pc' := 101) ok (dOf dX4_findPoint 59 rfl) rfl rfl (by rfl) (Nat.le_of_ble_eq_true rfl) rfl rfl ?_
  refine J_goto (tgt := 32) ok (dOf dX4_findPoint 60 rfl) (by decide) ?_
  refine J_weak (ls' := [some (.ref v0), some (.ref v1), some (.int v2), some (.int v3), some (.int v4), some (.int (v5 + 1)), none]) ⟨rfl, rfl, rfl, rfl, rfl, rfl, trivial⟩ ?_
  exact J_fin (k1 (v2, v5 + 1, h))
def Frt_findPoint_b32 (v0 : Nat) (v1 : Nat) (v3 : Int32) (v4 : Int32) (s : Int32 × Int32 × AHeap) : Option ((Int32 × Int32 × AHeap) ⊕ ((Int32 × Int32 × AHeap))) :=
  (if 4 ≤ s.2.1 then some (.inr (s.1, s.2.1, s.2.2)) else (gfR s.2.2 v0 4 6).bind fun a2 => (ald 0 s.2.2 a2 ((v4 * 4) + s.2.1)).bind fun x3 => (if 1000000 ≤ x3 then Frt_findPoint_j98 v0 v1 s.1 v3 v4 s.2.1 x3 s.2.2 else (gfR s.2.2 v0 4 10).bind fun a4 => (ald 0 s.2.2 a4 s.2.1).bind fun x5 => (gfR s.2.2 v0 4 10).bind fun a6 => (ald 0 s.2.2 a6 v4).bind fun x7 => (if (x5 - x3) ≤ x7 then Frt_findPoint_j98 v0 v1 s.1 v3 v4 s.2.1 x3 s.2.2 else (gfR s.2.2 v0 4 10).bind fun a8 => (gfR s.2.2 v0 4 10).bind fun a9 => (ald 0 s.2.2 a9 s.2.1).bind fun x10 => (ast 0 s.2.2 a8 v4 (x10 - x3)).bind fun h11 => Frt_findPoint_j98 v0 v1 1 v3 v4 s.2.1 x3 h11)))
theorem Frt_findPoint_b32_J {E : JE} {l : Launch} {G : GX} {r : Option Value} {h' : AHeap} (ok : JOK E l G kFrt_findPoint 0 0 r h') (v0 : Nat) (v1 : Nat) (v3 : Int32) (v4 : Int32) {Y : (Int32 × Int32 × AHeap) ⊕ ((Int32 × Int32 × AHeap)) → Prop} (k1 : ∀ s' : Int32 × Int32 × AHeap, Y (.inl s') → JW E kFrt_findPoint 32 [some (.ref v0), some (.ref v1), some (.int s'.1), some (.int v3), some (.int v4), some (.int s'.2.1), none] [] s'.2.2 0 0) (kx104 : ∀ q : Int32 × Int32 × AHeap, Y (.inr q) → JW E kFrt_findPoint 104 [some (.ref v0), some (.ref v1), some (.int q.1), some (.int v3), some (.int v4), some (.int q.2.1), none] [] q.2.2 0 0) (s : Int32 × Int32 × AHeap) : J E kFrt_findPoint (Frt_findPoint_b32 v0 v1 v3 v4 s) Y 32 [some (.ref v0), some (.ref v1), some (.int s.1), some (.int v3), some (.int v4), some (.int s.2.1), none] [] s.2.2 0 0 := by
  unfold Frt_findPoint_b32
  refine J_iload (pc' := 34) ok (dOf dX4_findPoint 21 rfl) rfl rfl ?_
  refine J_iconst (v := 4) (pc' := 35) ok (dOf dX4_findPoint 22 rfl) rfl (by decide) ?_
  refine J_icmp_ge (tgt := 104) (pc' := 38) ok (dOf dX4_findPoint 23 rfl) rfl (by decide) ?_ ?_
  · exact J_fin (kx104 (s.1, s.2.1, s.2.2))
  · refine J_aload_n (pc' := 39) ok (dOf dX4_findPoint 24 rfl) rfl rfl rfl ?_
    refine J_getR (ci := 4) (kf := 6) (C := RX4) (T := TX4) (N := 12) (pc' := 42) ok (dOf dX4_findPoint 25 rfl) rfl (by decide) rfl (by decide) win_4 wfl_X4_31 (fun a2 => ?_)
    refine J_iload (pc' := 44) ok (dOf dX4_findPoint 26 rfl) rfl rfl ?_
    refine J_iconst (v := 4) (pc' := 45) ok (dOf dX4_findPoint 27 rfl) rfl (by decide) ?_
    refine J_imul (pc' := 46) ok (dOf dX4_findPoint 28 rfl) rfl ?_
    refine J_iload (pc' := 48) ok (dOf dX4_findPoint 29 rfl) rfl rfl ?_
    refine J_iadd (pc' := 49) ok (dOf dX4_findPoint 30 rfl) rfl ?_
    refine J_iald (pc' := 50) ok (dOf dX4_findPoint 31 rfl) rfl (fun x3 => ?_)
    refine J_istore (ls' := [some (.ref v0), some (.ref v1), some (.int s.1), some (.int v3), some (.int v4), some (.int s.2.1), some (.int x3)]) (pc' := 52) ok (dOf dX4_findPoint 32 rfl) rfl (Nat.le_of_ble_eq_true rfl) rfl rfl ?_
    refine J_iload (pc' := 54) ok (dOf dX4_findPoint 33 rfl) rfl rfl ?_
    refine J_ldc (v := 1000000) (pc' := 56) ok (dOf dX4_findPoint 34 rfl) rfl wcon_X4_114 ?_
    refine J_icmp_ge (tgt := 98) (pc' := 59) ok (dOf dX4_findPoint 35 rfl) rfl (by decide) ?_ ?_
    · exact Frt_findPoint_j98_J ok v0 v1 s.1 v3 v4 s.2.1 x3 s.2.2 k1 kx104
    · refine J_aload_n (pc' := 60) ok (dOf dX4_findPoint 36 rfl) rfl rfl rfl ?_
      refine J_getR (ci := 4) (kf := 10) (C := RX4) (T := TX4) (N := 12) (pc' := 63) ok (dOf dX4_findPoint 37 rfl) rfl (by decide) rfl (by decide) win_4 wfl_X4_43 (fun a4 => ?_)
      refine J_iload (pc' := 65) ok (dOf dX4_findPoint 38 rfl) rfl rfl ?_
      refine J_iald (pc' := 66) ok (dOf dX4_findPoint 39 rfl) rfl (fun x5 => ?_)
      refine J_iload (pc' := 68) ok (dOf dX4_findPoint 40 rfl) rfl rfl ?_
      refine J_isub (pc' := 69) ok (dOf dX4_findPoint 41 rfl) rfl ?_
      refine J_aload_n (pc' := 70) ok (dOf dX4_findPoint 42 rfl) rfl rfl rfl ?_
      refine J_getR (ci := 4) (kf := 10) (C := RX4) (T := TX4) (N := 12) (pc' := 73) ok (dOf dX4_findPoint 43 rfl) rfl (by decide) rfl (by decide) win_4 wfl_X4_43 (fun a6 => ?_)
      refine J_iload (pc' := 75) ok (dOf dX4_findPoint 44 rfl) rfl rfl ?_
      refine J_iald (pc' := 76) ok (dOf dX4_findPoint 45 rfl) rfl (fun x7 => ?_)
      refine J_icmp_le (tgt := 98) (pc' := 79) ok (dOf dX4_findPoint 46 rfl) rfl (by decide) ?_ ?_
      · exact Frt_findPoint_j98_J ok v0 v1 s.1 v3 v4 s.2.1 x3 s.2.2 k1 kx104
      · refine J_aload_n (pc' := 80) ok (dOf dX4_findPoint 47 rfl) rfl rfl rfl ?_
        refine J_getR (ci := 4) (kf := 10) (C := RX4) (T := TX4) (N := 12) (pc' := 83) ok (dOf dX4_findPoint 48 rfl) rfl (by decide) rfl (by decide) win_4 wfl_X4_43 (fun a8 => ?_)
        refine J_iload (pc' := 85) ok (dOf dX4_findPoint 49 rfl) rfl rfl ?_
        refine J_aload_n (pc' := 86) ok (dOf dX4_findPoint 50 rfl) rfl rfl rfl ?_
        refine J_getR (ci := 4) (kf := 10) (C := RX4) (T := TX4) (N := 12) (pc' := 89) ok (dOf dX4_findPoint 51 rfl) rfl (by decide) rfl (by decide) win_4 wfl_X4_43 (fun a9 => ?_)
        refine J_iload (pc' := 91) ok (dOf dX4_findPoint 52 rfl) rfl rfl ?_
        refine J_iald (pc' := 92) ok (dOf dX4_findPoint 53 rfl) rfl (fun x10 => ?_)
        refine J_iload (pc' := 94) ok (dOf dX4_findPoint 54 rfl) rfl rfl ?_
        refine J_isub (pc' := 95) ok (dOf dX4_findPoint 55 rfl) rfl ?_
        refine J_iast (pc' := 96) ok (dOf dX4_findPoint 56 rfl) rfl (fun h11 _ => ?_)
        refine J_iconst (v := 1) (pc' := 97) ok (dOf dX4_findPoint 57 rfl) rfl (by decide) ?_
        refine J_istore_n (ls' := [some (.ref v0), some (.ref v1), some (.int 1), some (.int v3), some (.int v4), some (.int s.2.1), some (.int x3)]) (pc' := 98) ok (dOf dX4_findPoint 58 rfl) rfl rfl (Nat.le_of_ble_eq_true rfl) rfl rfl ?_
        exact Frt_findPoint_j98_J ok v0 v1 1 v3 v4 s.2.1 x3 h11 k1 kx104
def Frt_findPoint_j104 (v0 : Nat) (v1 : Nat) (v2 : Int32) (v3 : Int32) (v4 : Int32) (v5 : Int32) (h : AHeap) : Option ((Int32 × Int32 × AHeap) ⊕ ((Int32 × Int32 × AHeap))) :=
  some (.inl (v2, v4 + 1, h))
theorem Frt_findPoint_j104_J {E : JE} {l : Launch} {G : GX} {r : Option Value} {h' : AHeap} (ok : JOK E l G kFrt_findPoint 0 0 r h') (v0 : Nat) (v1 : Nat) (v2 : Int32) (v3 : Int32) (v4 : Int32) (v5 : Int32) (h : AHeap) {Y : (Int32 × Int32 × AHeap) ⊕ ((Int32 × Int32 × AHeap)) → Prop} (k1 : ∀ s' : Int32 × Int32 × AHeap, Y (.inl s') → JW E kFrt_findPoint 23 [some (.ref v0), some (.ref v1), some (.int s'.1), some (.int v3), some (.int s'.2.1), none, none] [] s'.2.2 0 0) (kx110 : ∀ q : Int32 × Int32 × AHeap, Y (.inr q) → JW E kFrt_findPoint 110 [some (.ref v0), some (.ref v1), some (.int q.1), some (.int v3), some (.int q.2.1), none, none] [] q.2.2 0 0) : J E kFrt_findPoint (Frt_findPoint_j104 v0 v1 v2 v3 v4 v5 h) Y 104 [some (.ref v0), some (.ref v1), some (.int v2), some (.int v3), some (.int v4), some (.int v5), none] [] h 0 0 := by
  unfold Frt_findPoint_j104
  refine J_iinc (v := v4 + 1) (ls' := [some (.ref v0), some (.ref v1), some (.int v2), some (.int v3), some (.int (v4 + 1)), some (.int v5), none]) (pc' := 107) ok (dOf dX4_findPoint 61 rfl) rfl rfl (by rfl) (Nat.le_of_ble_eq_true rfl) rfl rfl ?_
  refine J_goto (tgt := 23) ok (dOf dX4_findPoint 62 rfl) (by decide) ?_
  refine J_weak (ls' := [some (.ref v0), some (.ref v1), some (.int v2), some (.int v3), some (.int (v4 + 1)), none, none]) ⟨rfl, rfl, rfl, rfl, rfl, trivial⟩ ?_
  exact J_fin (k1 (v2, v4 + 1, h))
def Frt_findPoint_b23 (v0 : Nat) (v1 : Nat) (v3 : Int32) (s : Int32 × Int32 × AHeap) : Option ((Int32 × Int32 × AHeap) ⊕ ((Int32 × Int32 × AHeap))) :=
  (if 4 ≤ s.2.1 then some (.inr (s.1, s.2.1, s.2.2)) else (iter (Frt_findPoint_b32 v0 v1 v3 s.2.1) Lmax (s.1, 0, s.2.2)).bind (fun q32 => Frt_findPoint_j104 v0 v1 q32.1 v3 s.2.1 q32.2.1 q32.2.2))
theorem Frt_findPoint_b23_J {E : JE} {l : Launch} {G : GX} {r : Option Value} {h' : AHeap} (ok : JOK E l G kFrt_findPoint 0 0 r h') (v0 : Nat) (v1 : Nat) (v3 : Int32) {Y : (Int32 × Int32 × AHeap) ⊕ ((Int32 × Int32 × AHeap)) → Prop} (k1 : ∀ s' : Int32 × Int32 × AHeap, Y (.inl s') → JW E kFrt_findPoint 23 [some (.ref v0), some (.ref v1), some (.int s'.1), some (.int v3), some (.int s'.2.1), none, none] [] s'.2.2 0 0) (kx110 : ∀ q : Int32 × Int32 × AHeap, Y (.inr q) → JW E kFrt_findPoint 110 [some (.ref v0), some (.ref v1), some (.int q.1), some (.int v3), some (.int q.2.1), none, none] [] q.2.2 0 0) (s : Int32 × Int32 × AHeap) : J E kFrt_findPoint (Frt_findPoint_b23 v0 v1 v3 s) Y 23 [some (.ref v0), some (.ref v1), some (.int s.1), some (.int v3), some (.int s.2.1), none, none] [] s.2.2 0 0 := by
  unfold Frt_findPoint_b23
  refine J_iload (pc' := 25) ok (dOf dX4_findPoint 16 rfl) rfl rfl ?_
  refine J_iconst (v := 4) (pc' := 26) ok (dOf dX4_findPoint 17 rfl) rfl (by decide) ?_
  refine J_icmp_ge (tgt := 110) (pc' := 29) ok (dOf dX4_findPoint 18 rfl) rfl (by decide) ?_ ?_
  · exact J_fin (kx110 (s.1, s.2.1, s.2.2))
  · refine J_iconst (v := 0) (pc' := 30) ok (dOf dX4_findPoint 19 rfl) rfl (by decide) ?_
    refine J_istore (ls' := [some (.ref v0), some (.ref v1), some (.int s.1), some (.int v3), some (.int s.2.1), some (.int 0), none]) (pc' := 32) ok (dOf dX4_findPoint 20 rfl) rfl (Nat.le_of_ble_eq_true rfl) rfl rfl ?_
    refine J_iter (lf := fun z32 => [some (.ref v0), some (.ref v1), some (.int z32.1), some (.int v3), some (.int s.2.1), some (.int z32.2.1), none]) (sf := fun _ => []) (hf := fun z32 => z32.2.2) (px := (fun q32 => 104)) (lx := (fun q32 => [some (.ref v0), some (.ref v1), some (.int q32.1), some (.int v3), some (.int s.2.1), some (.int q32.2.1), none])) (sx := (fun q32 => [])) (hx := (fun q32 => q32.2.2)) (fun Y2 z32 m1 m2 => Frt_findPoint_b32_J ok v0 v1 v3 s.2.1 m1 m2 z32) (fun q32 => ?_) Lmax _
    exact Frt_findPoint_j104_J ok v0 v1 q32.1 v3 s.2.1 q32.2.1 q32.2.2 k1 kx110
def Frt_findPoint_j110 (v0 : Nat) (v1 : Nat) (v2 : Int32) (v3 : Int32) (v4 : Int32) (h : AHeap) : Option ((Int32 × Int32 × AHeap) ⊕ ((Int32 × Int32 × AHeap))) :=
  some (.inl (v2, v3 + 1, h))
theorem Frt_findPoint_j110_J {E : JE} {l : Launch} {G : GX} {r : Option Value} {h' : AHeap} (ok : JOK E l G kFrt_findPoint 0 0 r h') (v0 : Nat) (v1 : Nat) (v2 : Int32) (v3 : Int32) (v4 : Int32) (h : AHeap) {Y : (Int32 × Int32 × AHeap) ⊕ ((Int32 × Int32 × AHeap)) → Prop} (k1 : ∀ s' : Int32 × Int32 × AHeap, Y (.inl s') → JW E kFrt_findPoint 9 [some (.ref v0), some (.ref v1), some (.int s'.1), some (.int s'.2.1), none, none, none] [] s'.2.2 0 0) (kx116 : ∀ q : Int32 × Int32 × AHeap, Y (.inr q) → JW E kFrt_findPoint 116 [some (.ref v0), some (.ref v1), some (.int q.1), some (.int q.2.1), none, none, none] [] q.2.2 0 0) : J E kFrt_findPoint (Frt_findPoint_j110 v0 v1 v2 v3 v4 h) Y 110 [some (.ref v0), some (.ref v1), some (.int v2), some (.int v3), some (.int v4), none, none] [] h 0 0 := by
  unfold Frt_findPoint_j110
  refine J_iinc (v := v3 + 1) (ls' := [some (.ref v0), some (.ref v1), some (.int v2), some (.int (v3 + 1)), some (.int v4), none, none]) (pc' := 113) ok (dOf dX4_findPoint 63 rfl) rfl rfl (by rfl) (Nat.le_of_ble_eq_true rfl) rfl rfl ?_
  refine J_goto (tgt := 9) ok (dOf dX4_findPoint 64 rfl) (by decide) ?_
  refine J_weak (ls' := [some (.ref v0), some (.ref v1), some (.int v2), some (.int (v3 + 1)), none, none, none]) ⟨rfl, rfl, rfl, rfl, trivial⟩ ?_
  exact J_fin (k1 (v2, v3 + 1, h))
def Frt_findPoint_b9 (v0 : Nat) (v1 : Nat) (s : Int32 × Int32 × AHeap) : Option ((Int32 × Int32 × AHeap) ⊕ ((Int32 × Int32 × AHeap))) :=
  (if 4 < s.2.1 then some (.inr (s.1, s.2.1, s.2.2)) else (if s.1 = 0 then some (.inr (s.1, s.2.1, s.2.2)) else (iter (Frt_findPoint_b23 v0 v1 s.2.1) Lmax (0, 0, s.2.2)).bind (fun q23 => Frt_findPoint_j110 v0 v1 q23.1 s.2.1 q23.2.1 q23.2.2)))
theorem Frt_findPoint_b9_J {E : JE} {l : Launch} {G : GX} {r : Option Value} {h' : AHeap} (ok : JOK E l G kFrt_findPoint 0 0 r h') (v0 : Nat) (v1 : Nat) {Y : (Int32 × Int32 × AHeap) ⊕ ((Int32 × Int32 × AHeap)) → Prop} (k1 : ∀ s' : Int32 × Int32 × AHeap, Y (.inl s') → JW E kFrt_findPoint 9 [some (.ref v0), some (.ref v1), some (.int s'.1), some (.int s'.2.1), none, none, none] [] s'.2.2 0 0) (kx116 : ∀ q : Int32 × Int32 × AHeap, Y (.inr q) → JW E kFrt_findPoint 116 [some (.ref v0), some (.ref v1), some (.int q.1), some (.int q.2.1), none, none, none] [] q.2.2 0 0) (s : Int32 × Int32 × AHeap) : J E kFrt_findPoint (Frt_findPoint_b9 v0 v1 s) Y 9 [some (.ref v0), some (.ref v1), some (.int s.1), some (.int s.2.1), none, none, none] [] s.2.2 0 0 := by
  unfold Frt_findPoint_b9
  refine J_iload_n (pc' := 10) ok (dOf dX4_findPoint 7 rfl) rfl rfl rfl ?_
  refine J_iconst (v := 4) (pc' := 11) ok (dOf dX4_findPoint 8 rfl) rfl (by decide) ?_
  refine J_icmp_gt (tgt := 116) (pc' := 14) ok (dOf dX4_findPoint 9 rfl) rfl (by decide) ?_ ?_
  · exact J_fin (kx116 (s.1, s.2.1, s.2.2))
  · refine J_iload_n (pc' := 15) ok (dOf dX4_findPoint 10 rfl) rfl rfl rfl ?_
    refine J_if_eq (tgt := 116) (pc' := 18) ok (dOf dX4_findPoint 11 rfl) rfl (by decide) ?_ ?_
    · exact J_fin (kx116 (s.1, s.2.1, s.2.2))
    · refine J_iconst (v := 0) (pc' := 19) ok (dOf dX4_findPoint 12 rfl) rfl (by decide) ?_
      refine J_istore_n (ls' := [some (.ref v0), some (.ref v1), some (.int 0), some (.int s.2.1), none, none, none]) (pc' := 20) ok (dOf dX4_findPoint 13 rfl) rfl rfl (Nat.le_of_ble_eq_true rfl) rfl rfl ?_
      refine J_iconst (v := 0) (pc' := 21) ok (dOf dX4_findPoint 14 rfl) rfl (by decide) ?_
      refine J_istore (ls' := [some (.ref v0), some (.ref v1), some (.int 0), some (.int s.2.1), some (.int 0), none, none]) (pc' := 23) ok (dOf dX4_findPoint 15 rfl) rfl (Nat.le_of_ble_eq_true rfl) rfl rfl ?_
      refine J_iter (lf := fun z23 => [some (.ref v0), some (.ref v1), some (.int z23.1), some (.int s.2.1), some (.int z23.2.1), none, none]) (sf := fun _ => []) (hf := fun z23 => z23.2.2) (px := (fun q23 => 110)) (lx := (fun q23 => [some (.ref v0), some (.ref v1), some (.int q23.1), some (.int s.2.1), some (.int q23.2.1), none, none])) (sx := (fun q23 => [])) (hx := (fun q23 => q23.2.2)) (fun Y2 z23 m1 m2 => Frt_findPoint_b23_J ok v0 v1 s.2.1 m1 m2 z23) (fun q23 => ?_) Lmax _
      exact Frt_findPoint_j110_J ok v0 v1 q23.1 s.2.1 q23.2.1 q23.2.2 k1 kx116
def Frt_findPoint_b118 (v0 : Nat) (v1 : Nat) (v2 : Int32) (s : Int32 × AHeap) : Option ((Int32 × AHeap) ⊕ ((Int32 × AHeap))) :=
  (gfI s.2 v1 6 1).bind fun x12 => (if x12 ≤ s.1 then some (.inr (s.1, s.2)) else (gfR s.2 v0 4 11).bind fun a13 => (chk s.2 v0 4).bind fun _ => bnd2 (Frt_greatestRate v0 v1 s.1 s.2) fun x15 h14 => (ast 0 h14 a13 s.1 x15).bind fun h16 => some (.inl (s.1 + 1, h16)))
theorem Frt_findPoint_b118_J {E : JE} {l : Launch} {G : GX} {r : Option Value} {h' : AHeap} (ok : JOK E l G kFrt_findPoint 0 0 r h') (v0 : Nat) (v1 : Nat) (v2 : Int32) {Y : (Int32 × AHeap) ⊕ ((Int32 × AHeap)) → Prop} (k1 : ∀ s' : Int32 × AHeap, Y (.inl s') → JW E kFrt_findPoint 118 [some (.ref v0), some (.ref v1), some (.int v2), some (.int s'.1), none, none, none] [] s'.2 0 0) (kx144 : ∀ q : Int32 × AHeap, Y (.inr q) → JW E kFrt_findPoint 144 [some (.ref v0), some (.ref v1), some (.int v2), some (.int q.1), none, none, none] [] q.2 0 0) (s : Int32 × AHeap) : J E kFrt_findPoint (Frt_findPoint_b118 v0 v1 v2 s) Y 118 [some (.ref v0), some (.ref v1), some (.int v2), some (.int s.1), none, none, none] [] s.2 0 0 := by
  unfold Frt_findPoint_b118
  refine J_iload_n (pc' := 119) ok (dOf dX4_findPoint 67 rfl) rfl rfl rfl ?_
  refine J_aload_n (pc' := 120) ok (dOf dX4_findPoint 68 rfl) rfl rfl rfl ?_
  refine J_getI (ci := 6) (kf := 1) (C := RX6) (T := TX6) (N := 9) (pc' := 123) ok (dOf dX4_findPoint 69 rfl) rfl (by decide) rfl (by decide) win_6 wfl_X4_49 (fun x12 => ?_)
  refine J_icmp_ge (tgt := 144) (pc' := 126) ok (dOf dX4_findPoint 70 rfl) rfl (by decide) ?_ ?_
  · exact J_fin (kx144 (s.1, s.2))
  · refine J_aload_n (pc' := 127) ok (dOf dX4_findPoint 71 rfl) rfl rfl rfl ?_
    refine J_getR (ci := 4) (kf := 11) (C := RX4) (T := TX4) (N := 12) (pc' := 130) ok (dOf dX4_findPoint 72 rfl) rfl (by decide) rfl (by decide) win_4 wfl_X4_46 (fun a13 => ?_)
    refine J_iload_n (pc' := 131) ok (dOf dX4_findPoint 73 rfl) rfl rfl rfl ?_
    refine J_aload_n (pc' := 132) ok (dOf dX4_findPoint 74 rfl) rfl rfl rfl ?_
    refine J_aload_n (pc' := 133) ok (dOf dX4_findPoint 75 rfl) rfl rfl rfl ?_
    refine J_iload_n (pc' := 134) ok (dOf dX4_findPoint 76 rfl) rfl rfl rfl ?_
    refine J_callVi (k2 := kFrt_greatestRate) (ci := 4) (T := TX4) (N := 12) (as := [.ref v1, .int s.1]) (pc' := 137) ok (dOf dX4_findPoint 77 rfl) rfl (cw_Frt_greatestRate (by decide) (by decide)) wml_X4_135 winst_X4_greatestRate wsel_X4_greatestRate rfl ⟨Nat.le_refl 0, Nat.le_refl 0⟩ (Nat.le_of_ble_eq_true rfl) rfl (fun _ _ hf => t_Frt_greatestRate hf) (fun x15 h14 => ?_)
    refine J_iast (pc' := 138) ok (dOf dX4_findPoint 78 rfl) rfl (fun h16 _ => ?_)
    refine J_iinc (v := s.1 + 1) (ls' := [some (.ref v0), some (.ref v1), some (.int v2), some (.int (s.1 + 1)), none, none, none]) (pc' := 141) ok (dOf dX4_findPoint 79 rfl) rfl rfl (by rfl) (Nat.le_of_ble_eq_true rfl) rfl rfl ?_
    refine J_goto (tgt := 118) ok (dOf dX4_findPoint 80 rfl) (by decide) ?_
    exact J_fin (k1 (s.1 + 1, h16))
def Frt_findPoint_j144 (v0 : Nat) (v1 : Nat) (v2 : Int32) (v3 : Int32) (h : AHeap) : Option (Unit × AHeap) :=
  some ((), h)
theorem Frt_findPoint_j144_J {E : JE} {l : Launch} {G : GX} {h' : AHeap} (ok : JOK E l G kFrt_findPoint 0 0 none h') (v0 : Nat) (v1 : Nat) (v2 : Int32) (v3 : Int32) (h : AHeap) : J E kFrt_findPoint (Frt_findPoint_j144 v0 v1 v2 v3 h) (fun z => z = ((), h')) 144 [some (.ref v0), some (.ref v1), some (.int v2), some (.int v3), none, none, none] [] h 0 0 := by
  unfold Frt_findPoint_j144
  exact J_vreturn ok (dOf dX4_findPoint 81 rfl) rfl (Nat.le_refl 0) (Nat.le_refl 0)
def Frt_findPoint_j116 (v0 : Nat) (v1 : Nat) (v2 : Int32) (v3 : Int32) (h : AHeap) : Option (Unit × AHeap) :=
  (iter (Frt_findPoint_b118 v0 v1 v2) Lmax (0, h)).bind (fun q118 => Frt_findPoint_j144 v0 v1 v2 q118.1 q118.2)
theorem Frt_findPoint_j116_J {E : JE} {l : Launch} {G : GX} {h' : AHeap} (ok : JOK E l G kFrt_findPoint 0 0 none h') (v0 : Nat) (v1 : Nat) (v2 : Int32) (v3 : Int32) (h : AHeap) : J E kFrt_findPoint (Frt_findPoint_j116 v0 v1 v2 v3 h) (fun z => z = ((), h')) 116 [some (.ref v0), some (.ref v1), some (.int v2), some (.int v3), none, none, none] [] h 0 0 := by
  unfold Frt_findPoint_j116
  refine J_iconst (v := 0) (pc' := 117) ok (dOf dX4_findPoint 65 rfl) rfl (by decide) ?_
  refine J_istore_n (ls' := [some (.ref v0), some (.ref v1), some (.int v2), some (.int 0), none, none, none]) (pc' := 118) ok (dOf dX4_findPoint 66 rfl) rfl rfl (Nat.le_of_ble_eq_true rfl) rfl rfl ?_
  refine J_iter (lf := fun z118 => [some (.ref v0), some (.ref v1), some (.int v2), some (.int z118.1), none, none, none]) (sf := fun _ => []) (hf := fun z118 => z118.2) (px := (fun q118 => 144)) (lx := (fun q118 => [some (.ref v0), some (.ref v1), some (.int v2), some (.int q118.1), none, none, none])) (sx := (fun q118 => [])) (hx := (fun q118 => q118.2)) (fun Y2 z118 m1 m2 => Frt_findPoint_b118_J ok v0 v1 v2 m1 m2 z118) (fun q118 => ?_) Lmax _
  exact Frt_findPoint_j144_J ok v0 v1 v2 q118.1 q118.2
def Frt_findPoint (v0 : Nat) (v1 : Nat) (h : AHeap) : Option (Unit × AHeap) :=
  (chk h v0 4).bind fun _ => bnd2 (Frt_findSwaps v0 v1 h) fun _ h1 => (iter (Frt_findPoint_b9 v0 v1) Lmax (1, 0, h1)).bind (fun q9 => Frt_findPoint_j116 v0 v1 q9.1 q9.2.1 q9.2.2)
theorem t_Frt_findPoint {l : Launch} {G : GX} {v0 : Nat} {v1 : Nat} {h : AHeap} {h1 : AHeap} (hf : Frt_findPoint v0 v1 h = some ((), h1)) : CT l G kFrt_findPoint 0 0 [.ref v0, .ref v1] h none h1 := by
  refine CT_of (ls := [some (.ref v0), some (.ref v1), none, none, none, none, none]) (Z := fun z => z = ((), h1)) (by decide +kernel) (Nat.le_of_ble_eq_true rfl) hf rfl ⟨rfl, rfl, trivial⟩ (fun E ok => ?_)
  unfold Frt_findPoint
  refine J_aload_n (pc' := 1) ok (dOf dX4_findPoint 0 rfl) rfl rfl rfl ?_
  refine J_aload_n (pc' := 2) ok (dOf dX4_findPoint 1 rfl) rfl rfl rfl ?_
  refine J_callVv (k2 := kFrt_findSwaps) (ci := 4) (T := TX4) (N := 12) (as := [.ref v1]) (pc' := 5) ok (dOf dX4_findPoint 2 rfl) rfl (cw_Frt_findSwaps (by decide) (by decide)) wml_X4_107 winst_X4_findSwaps wsel_X4_findSwaps rfl ⟨Nat.le_refl 0, Nat.le_refl 0⟩ (Nat.le_of_ble_eq_true rfl) rfl (fun _ _ hf => t_Frt_findSwaps hf) (fun _ h1 => ?_)
  refine J_iconst (v := 1) (pc' := 6) ok (dOf dX4_findPoint 3 rfl) rfl (by decide) ?_
  refine J_istore_n (ls' := [some (.ref v0), some (.ref v1), some (.int 1), none, none, none, none]) (pc' := 7) ok (dOf dX4_findPoint 4 rfl) rfl rfl (Nat.le_of_ble_eq_true rfl) rfl rfl ?_
  refine J_iconst (v := 0) (pc' := 8) ok (dOf dX4_findPoint 5 rfl) rfl (by decide) ?_
  refine J_istore_n (ls' := [some (.ref v0), some (.ref v1), some (.int 1), some (.int 0), none, none, none]) (pc' := 9) ok (dOf dX4_findPoint 6 rfl) rfl rfl (Nat.le_of_ble_eq_true rfl) rfl rfl ?_
  refine J_iter (lf := fun z9 => [some (.ref v0), some (.ref v1), some (.int z9.1), some (.int z9.2.1), none, none, none]) (sf := fun _ => []) (hf := fun z9 => z9.2.2) (px := (fun q9 => 116)) (lx := (fun q9 => [some (.ref v0), some (.ref v1), some (.int q9.1), some (.int q9.2.1), none, none, none])) (sx := (fun q9 => [])) (hx := (fun q9 => q9.2.2)) (fun Y2 z9 m1 m2 => Frt_findPoint_b9_J ok v0 v1 m1 m2 z9) (fun q9 => ?_) Lmax _
  exact Frt_findPoint_j116_J ok v0 v1 q9.1 q9.2.1 q9.2.2
-- X4_findRates
abbrev kFrt_findRates : Cd := (yX4_findRates, cX4_findRates, 5, (some .boolean), 4, 100)
theorem dX4_findRates : dcheck cX4_findRates [(0, .aload_n 0, 1), (1, .aload_n 1, 1), (2, .iload_n 2, 1), (3, .iload_n 3, 1), (4, .invokevirtual 121, 3), (7, .istore 4, 2), (9, .aload_n 0, 1), (10, .getfield 43, 3), (13, .iconst 0, 1), (14, .invokestatic 87, 3), (17, .aload_n 0, 1), (18, .getfield 46, 3), (21, .iconst 0, 1), (22, .invokestatic 87, 3), (25, .iload 4, 2), (27, .ifCond .le 13, 3), (30, .aload_n 0, 1), (31, .aload_n 1, 1), (32, .iload_n 2, 1), (33, .iload 4, 2), (35, .invokevirtual 125, 3), (38, .iconst 1, 1), (39, .ireturn, 1), (40, .aload_n 0, 1), (41, .aload_n 1, 1), (42, .iload_n 2, 1), (43, .iload_n 3, 1), (44, .invokevirtual 129, 3), (47, .pop, 1), (48, .aload_n 0, 1), (49, .aload_n 1, 1), (50, .invokevirtual 132, 3), (53, .iconst 0, 1), (54, .ireturn, 1)] = true := by decide +kernel
theorem cw_Frt_findRates {k : Cd} (h1 : kFrt_findRates.2.2.2.2.1 + 1 ≤ k.2.2.2.2.1) (h2 : 8 + (kFrt_findRates.2.2.1 + 11) + kFrt_findRates.2.2.2.2.2 ≤ k.2.2.2.2.2) : Cw k kFrt_findRates 3 := ⟨wcode_X4_findRates, wini_SplitProgram_Freight, ⟨by decide, by decide, by decide +kernel⟩, h1, h2⟩
def Frt_findRates (v0 : Nat) (v1 : Nat) (v2 : Int32) (v3 : Int32) (h : AHeap) : Option (Int32 × AHeap) :=
  (chk h v0 4).bind fun _ => bnd2 (Frt_lackAt v0 v1 v2 v3 h) fun x2 h1 => (gfR h1 v0 4 10).bind fun a3 => bnd2 (J7_fill a3 0 h1) fun _ h4 => (gfR h4 v0 4 11).bind fun a5 => bnd2 (J7_fill a5 0 h4) fun _ h6 => (if x2 ≤ 0 then (chk h6 v0 4).bind fun _ => bnd2 (Frt_costAt v0 v1 v2 v3 h6) fun x8 h7 => (chk h7 v0 4).bind fun _ => bnd2 (Frt_findPoint v0 v1 h7) fun _ h9 => (bz 0).bind fun z => some (z, h9) else (chk h6 v0 4).bind fun _ => bnd2 (Frt_findRay v0 v1 v2 x2 h6) fun _ h10 => (bz 1).bind fun z => some (z, h10))
theorem t_Frt_findRates {l : Launch} {G : GX} {v0 : Nat} {v1 : Nat} {v2 : Int32} {v3 : Int32} {h : AHeap} {v : Int32} {h1 : AHeap} (hf : Frt_findRates v0 v1 v2 v3 h = some (v, h1)) : CT l G kFrt_findRates 0 0 [.ref v0, .ref v1, .int v2, .int v3] h (some (.int v)) h1 := by
  refine CT_of (ls := [some (.ref v0), some (.ref v1), some (.int v2), some (.int v3), none]) (Z := fun z => z = (v, h1)) (by decide +kernel) (Nat.le_of_ble_eq_true rfl) hf rfl ⟨rfl, rfl, rfl, rfl, trivial⟩ (fun E ok => ?_)
  unfold Frt_findRates
  refine J_aload_n (pc' := 1) ok (dOf dX4_findRates 0 rfl) rfl rfl rfl ?_
  refine J_aload_n (pc' := 2) ok (dOf dX4_findRates 1 rfl) rfl rfl rfl ?_
  refine J_iload_n (pc' := 3) ok (dOf dX4_findRates 2 rfl) rfl rfl rfl ?_
  refine J_iload_n (pc' := 4) ok (dOf dX4_findRates 3 rfl) rfl rfl rfl ?_
  refine J_callVi (k2 := kFrt_lackAt) (ci := 4) (T := TX4) (N := 12) (as := [.ref v1, .int v2, .int v3]) (pc' := 7) ok (dOf dX4_findRates 4 rfl) rfl (cw_Frt_lackAt (by decide) (by decide)) wml_X4_121 winst_X4_lackAt wsel_X4_lackAt rfl ⟨Nat.le_refl 0, Nat.le_refl 0⟩ (Nat.le_of_ble_eq_true rfl) rfl (fun _ _ hf => t_Frt_lackAt hf) (fun x2 h1 => ?_)
  refine J_istore (ls' := [some (.ref v0), some (.ref v1), some (.int v2), some (.int v3), some (.int x2)]) (pc' := 9) ok (dOf dX4_findRates 5 rfl) rfl (Nat.le_of_ble_eq_true rfl) rfl rfl ?_
  refine J_aload_n (pc' := 10) ok (dOf dX4_findRates 6 rfl) rfl rfl rfl ?_
  refine J_getR (ci := 4) (kf := 10) (C := RX4) (T := TX4) (N := 12) (pc' := 13) ok (dOf dX4_findRates 7 rfl) rfl (by decide) rfl (by decide) win_4 wfl_X4_43 (fun a3 => ?_)
  refine J_iconst (v := 0) (pc' := 14) ok (dOf dX4_findRates 8 rfl) rfl (by decide) ?_
  refine J_callSv (k2 := kJ7_fill) (as := [.ref a3, .int 0]) (pc' := 17) ok (dOf dX4_findRates 9 rfl) rfl (cw_J7_fill (by decide) (by decide)) wml_X4_87 wstat_J7_fill_53178 ⟨Nat.le_refl 0, Nat.le_refl 0⟩ (Nat.le_of_ble_eq_true rfl) rfl (fun _ _ hf => t_J7_fill hf) (fun _ h4 => ?_)
  refine J_aload_n (pc' := 18) ok (dOf dX4_findRates 10 rfl) rfl rfl rfl ?_
  refine J_getR (ci := 4) (kf := 11) (C := RX4) (T := TX4) (N := 12) (pc' := 21) ok (dOf dX4_findRates 11 rfl) rfl (by decide) rfl (by decide) win_4 wfl_X4_46 (fun a5 => ?_)
  refine J_iconst (v := 0) (pc' := 22) ok (dOf dX4_findRates 12 rfl) rfl (by decide) ?_
  refine J_callSv (k2 := kJ7_fill) (as := [.ref a5, .int 0]) (pc' := 25) ok (dOf dX4_findRates 13 rfl) rfl (cw_J7_fill (by decide) (by decide)) wml_X4_87 wstat_J7_fill_53178 ⟨Nat.le_refl 0, Nat.le_refl 0⟩ (Nat.le_of_ble_eq_true rfl) rfl (fun _ _ hf => t_J7_fill hf) (fun _ h6 => ?_)
  refine J_iload (pc' := 27) ok (dOf dX4_findRates 14 rfl) rfl rfl ?_
  refine J_if_le (tgt := 40) (pc' := 30) ok (dOf dX4_findRates 15 rfl) rfl (by decide) ?_ ?_
  · refine J_aload_n (pc' := 41) ok (dOf dX4_findRates 23 rfl) rfl rfl rfl ?_
    refine J_aload_n (pc' := 42) ok (dOf dX4_findRates 24 rfl) rfl rfl rfl ?_
    refine J_iload_n (pc' := 43) ok (dOf dX4_findRates 25 rfl) rfl rfl rfl ?_
    refine J_iload_n (pc' := 44) ok (dOf dX4_findRates 26 rfl) rfl rfl rfl ?_
    refine J_callVi (k2 := kFrt_costAt) (ci := 4) (T := TX4) (N := 12) (as := [.ref v1, .int v2, .int v3]) (pc' := 47) ok (dOf dX4_findRates 27 rfl) rfl (cw_Frt_costAt (by decide) (by decide)) wml_X4_129 winst_X4_costAt wsel_X4_costAt rfl ⟨Nat.le_refl 0, Nat.le_refl 0⟩ (Nat.le_of_ble_eq_true rfl) rfl (fun _ _ hf => t_Frt_costAt hf) (fun x8 h7 => ?_)
    refine J_pop (pc' := 48) ok (dOf dX4_findRates 28 rfl) rfl rfl ?_
    refine J_aload_n (pc' := 49) ok (dOf dX4_findRates 29 rfl) rfl rfl rfl ?_
    refine J_aload_n (pc' := 50) ok (dOf dX4_findRates 30 rfl) rfl rfl rfl ?_
    refine J_callVv (k2 := kFrt_findPoint) (ci := 4) (T := TX4) (N := 12) (as := [.ref v1]) (pc' := 53) ok (dOf dX4_findRates 31 rfl) rfl (cw_Frt_findPoint (by decide) (by decide)) wml_X4_132 winst_X4_findPoint wsel_X4_findPoint rfl ⟨Nat.le_refl 0, Nat.le_refl 0⟩ (Nat.le_of_ble_eq_true rfl) rfl (fun _ _ hf => t_Frt_findPoint hf) (fun _ h9 => ?_)
    refine J_iconst (v := 0) (pc' := 54) ok (dOf dX4_findRates 32 rfl) rfl (by decide) ?_
    exact J_zreturn ok (dOf dX4_findRates 33 rfl) rfl (Nat.le_refl 0) (Nat.le_refl 0)
  · refine J_aload_n (pc' := 31) ok (dOf dX4_findRates 16 rfl) rfl rfl rfl ?_
    refine J_aload_n (pc' := 32) ok (dOf dX4_findRates 17 rfl) rfl rfl rfl ?_
    refine J_iload_n (pc' := 33) ok (dOf dX4_findRates 18 rfl) rfl rfl rfl ?_
    refine J_iload (pc' := 35) ok (dOf dX4_findRates 19 rfl) rfl rfl ?_
    refine J_callVv (k2 := kFrt_findRay) (ci := 4) (T := TX4) (N := 12) (as := [.ref v1, .int v2, .int x2]) (pc' := 38) ok (dOf dX4_findRates 20 rfl) rfl (cw_Frt_findRay (by decide) (by decide)) wml_X4_125 winst_X4_findRay wsel_X4_findRay rfl ⟨Nat.le_refl 0, Nat.le_refl 0⟩ (Nat.le_of_ble_eq_true rfl) rfl (fun _ _ hf => t_Frt_findRay hf) (fun _ h10 => ?_)
    refine J_iconst (v := 1) (pc' := 39) ok (dOf dX4_findRates 21 rfl) rfl (by decide) ?_
    exact J_zreturn ok (dOf dX4_findRates 22 rfl) rfl (Nat.le_refl 0) (Nat.le_refl 0)
-- X2_append
abbrev kCuts_append : Cd := (yX2_append, cX2_append, 5, none, 1, 45)
theorem dX2_append : dcheck cX2_append [(0, .aload_n 0, 1), (1, .getfield 31, 3), (4, .aload_n 0, 1), (5, .getfield 9, 3), (8, .if_icmp .lt 4, 3), (11, .return_, 1), (12, .aload_n 0, 1), (13, .getfield 15, 3), (16, .aload_n 0, 1), (17, .getfield 31, 3), (20, .iload_n 1, 1), (21, .iastore, 1), (22, .aload_n 0, 1), (23, .getfield 19, 3), (26, .aload_n 0, 1), (27, .getfield 31, 3), (30, .iload_n 2, 1), (31, .iastore, 1), (32, .aload_n 0, 1), (33, .getfield 22, 3), (36, .aload_n 0, 1), (37, .getfield 31, 3), (40, .iconst 0, 1), (41, .iastore, 1), (42, .aload_n 3, 1), (43, .iconst 0, 1), (44, .aload_n 0, 1), (45, .getfield 25, 3), (48, .aload_n 0, 1), (49, .getfield 31, 3), (52, .iconst 4, 1), (53, .imul, 1), (54, .iconst 4, 1), (55, .invokestatic 40, 3), (58, .aload 4, 2), (60, .iconst 0, 1), (61, .aload_n 0, 1), (62, .getfield 28, 3), (65, .aload_n 0, 1), (66, .getfield 31, 3), (69, .bipush 6, 2), (71, .imul, 1), (72, .bipush 6, 2), (74, .invokestatic 40, 3), (77, .aload_n 0, 1), (78, .dup, 1), (79, .getfield 31, 3), (82, .iconst 1, 1), (83, .iadd, 1), (84, .putfield 31, 3), (87, .return_, 1)] = true := by decide +kernel
theorem cw_Cuts_append {k : Cd} (h1 : kCuts_append.2.2.2.2.1 + 1 ≤ k.2.2.2.2.1) (h2 : 8 + (kCuts_append.2.2.1 + 11) + kCuts_append.2.2.2.2.2 ≤ k.2.2.2.2.2) : Cw k kCuts_append 4 := ⟨wcode_X2_append, wini_SplitProgram_Cuts, ⟨by decide, by decide, by decide +kernel⟩, h1, h2⟩
def Cuts_append (v0 : Nat) (v1 : Int32) (v2 : Int32) (v3 : Nat) (v4 : Nat) (h : AHeap) : Option (Unit × AHeap) :=
  (gfI h v0 2 1).bind fun x1 => (gfI h v0 2 0).bind fun x2 => (if x1 < x2 then (gfR h v0 2 2).bind fun a3 => (gfI h v0 2 1).bind fun x4 => (ast 0 h a3 x4 v1).bind fun h5 => (gfR h5 v0 2 3).bind fun a6 => (gfI h5 v0 2 1).bind fun x7 => (ast 0 h5 a6 x7 v2).bind fun h8 => (gfR h8 v0 2 4).bind fun a9 => (gfI h8 v0 2 1).bind fun x10 => (ast 0 h8 a9 x10 0).bind fun h11 => (gfR h11 v0 2 5).bind fun a12 => (gfI h11 v0 2 1).bind fun x13 => (acp h11 v3 0 a12 (x13 * 4) 4).bind fun h14 => (gfR h14 v0 2 6).bind fun a15 => (gfI h14 v0 2 1).bind fun x16 => (acp h14 v4 0 a15 (x16 * 6) 6).bind fun h17 => (gfI h17 v0 2 1).bind fun x18 => (pfV h17 v0 2 1 (.int (x18 + 1))).bind fun h19 => some ((), h19) else some ((), h))
theorem t_Cuts_append {l : Launch} {G : GX} {v0 : Nat} {v1 : Int32} {v2 : Int32} {v3 : Nat} {v4 : Nat} {h : AHeap} {h1 : AHeap} (hf : Cuts_append v0 v1 v2 v3 v4 h = some ((), h1)) : CT l G kCuts_append 0 0 [.ref v0, .int v1, .int v2, .ref v3, .ref v4] h none h1 := by
  refine CT_of (ls := [some (.ref v0), some (.int v1), some (.int v2), some (.ref v3), some (.ref v4)]) (Z := fun z => z = ((), h1)) (by decide +kernel) (Nat.le_of_ble_eq_true rfl) hf rfl ⟨rfl, rfl, rfl, rfl, rfl, trivial⟩ (fun E ok => ?_)
  unfold Cuts_append
  refine J_aload_n (pc' := 1) ok (dOf dX2_append 0 rfl) rfl rfl rfl ?_
  refine J_getI (ci := 2) (kf := 1) (C := RX2) (T := TX2) (N := 7) (pc' := 4) ok (dOf dX2_append 1 rfl) rfl (by decide) rfl (by decide) win_2 wfl_X2_31 (fun x1 => ?_)
  refine J_aload_n (pc' := 5) ok (dOf dX2_append 2 rfl) rfl rfl rfl ?_
  refine J_getI (ci := 2) (kf := 0) (C := RX2) (T := TX2) (N := 7) (pc' := 8) ok (dOf dX2_append 3 rfl) rfl (by decide) rfl (by decide) win_2 wfl_X2_9 (fun x2 => ?_)
  refine J_icmp_lt (tgt := 12) (pc' := 11) ok (dOf dX2_append 4 rfl) rfl (by decide) ?_ ?_
  · refine J_aload_n (pc' := 13) ok (dOf dX2_append 6 rfl) rfl rfl rfl ?_
    refine J_getR (ci := 2) (kf := 2) (C := RX2) (T := TX2) (N := 7) (pc' := 16) ok (dOf dX2_append 7 rfl) rfl (by decide) rfl (by decide) win_2 wfl_X2_15 (fun a3 => ?_)
    refine J_aload_n (pc' := 17) ok (dOf dX2_append 8 rfl) rfl rfl rfl ?_
    refine J_getI (ci := 2) (kf := 1) (C := RX2) (T := TX2) (N := 7) (pc' := 20) ok (dOf dX2_append 9 rfl) rfl (by decide) rfl (by decide) win_2 wfl_X2_31 (fun x4 => ?_)
    refine J_iload_n (pc' := 21) ok (dOf dX2_append 10 rfl) rfl rfl rfl ?_
    refine J_iast (pc' := 22) ok (dOf dX2_append 11 rfl) rfl (fun h5 _ => ?_)
    refine J_aload_n (pc' := 23) ok (dOf dX2_append 12 rfl) rfl rfl rfl ?_
    refine J_getR (ci := 2) (kf := 3) (C := RX2) (T := TX2) (N := 7) (pc' := 26) ok (dOf dX2_append 13 rfl) rfl (by decide) rfl (by decide) win_2 wfl_X2_19 (fun a6 => ?_)
    refine J_aload_n (pc' := 27) ok (dOf dX2_append 14 rfl) rfl rfl rfl ?_
    refine J_getI (ci := 2) (kf := 1) (C := RX2) (T := TX2) (N := 7) (pc' := 30) ok (dOf dX2_append 15 rfl) rfl (by decide) rfl (by decide) win_2 wfl_X2_31 (fun x7 => ?_)
    refine J_iload_n (pc' := 31) ok (dOf dX2_append 16 rfl) rfl rfl rfl ?_
    refine J_iast (pc' := 32) ok (dOf dX2_append 17 rfl) rfl (fun h8 _ => ?_)
    refine J_aload_n (pc' := 33) ok (dOf dX2_append 18 rfl) rfl rfl rfl ?_
    refine J_getR (ci := 2) (kf := 4) (C := RX2) (T := TX2) (N := 7) (pc' := 36) ok (dOf dX2_append 19 rfl) rfl (by decide) rfl (by decide) win_2 wfl_X2_22 (fun a9 => ?_)
    refine J_aload_n (pc' := 37) ok (dOf dX2_append 20 rfl) rfl rfl rfl ?_
    refine J_getI (ci := 2) (kf := 1) (C := RX2) (T := TX2) (N := 7) (pc' := 40) ok (dOf dX2_append 21 rfl) rfl (by decide) rfl (by decide) win_2 wfl_X2_31 (fun x10 => ?_)
    refine J_iconst (v := 0) (pc' := 41) ok (dOf dX2_append 22 rfl) rfl (by decide) ?_
    refine J_iast (pc' := 42) ok (dOf dX2_append 23 rfl) rfl (fun h11 _ => ?_)
    refine J_aload_n (pc' := 43) ok (dOf dX2_append 24 rfl) rfl rfl rfl ?_
    refine J_iconst (v := 0) (pc' := 44) ok (dOf dX2_append 25 rfl) rfl (by decide) ?_
    refine J_aload_n (pc' := 45) ok (dOf dX2_append 26 rfl) rfl rfl rfl ?_
    refine J_getR (ci := 2) (kf := 5) (C := RX2) (T := TX2) (N := 7) (pc' := 48) ok (dOf dX2_append 27 rfl) rfl (by decide) rfl (by decide) win_2 wfl_X2_25 (fun a12 => ?_)
    refine J_aload_n (pc' := 49) ok (dOf dX2_append 28 rfl) rfl rfl rfl ?_
    refine J_getI (ci := 2) (kf := 1) (C := RX2) (T := TX2) (N := 7) (pc' := 52) ok (dOf dX2_append 29 rfl) rfl (by decide) rfl (by decide) win_2 wfl_X2_31 (fun x13 => ?_)
    refine J_iconst (v := 4) (pc' := 53) ok (dOf dX2_append 30 rfl) rfl (by decide) ?_
    refine J_imul (pc' := 54) ok (dOf dX2_append 31 rfl) rfl ?_
    refine J_iconst (v := 4) (pc' := 55) ok (dOf dX2_append 32 rfl) rfl (by decide) ?_
    refine J_acp (pc' := 58) ok (dOf dX2_append 33 rfl) rfl wml_X2_40 wnat_java_lang_System_arraycopy wstat_java_lang_System_arraycopy wini_java_lang_System (Nat.le_of_ble_eq_true rfl) (Nat.le_of_ble_eq_true rfl) (fun h14 _ => ?_)
    refine J_aload (pc' := 60) ok (dOf dX2_append 34 rfl) rfl rfl ?_
    refine J_iconst (v := 0) (pc' := 61) ok (dOf dX2_append 35 rfl) rfl (by decide) ?_
    refine J_aload_n (pc' := 62) ok (dOf dX2_append 36 rfl) rfl rfl rfl ?_
    refine J_getR (ci := 2) (kf := 6) (C := RX2) (T := TX2) (N := 7) (pc' := 65) ok (dOf dX2_append 37 rfl) rfl (by decide) rfl (by decide) win_2 wfl_X2_28 (fun a15 => ?_)
    refine J_aload_n (pc' := 66) ok (dOf dX2_append 38 rfl) rfl rfl rfl ?_
    refine J_getI (ci := 2) (kf := 1) (C := RX2) (T := TX2) (N := 7) (pc' := 69) ok (dOf dX2_append 39 rfl) rfl (by decide) rfl (by decide) win_2 wfl_X2_31 (fun x16 => ?_)
    refine J_bipush (v := 6) (pc' := 71) ok (dOf dX2_append 40 rfl) rfl (by decide) ?_
    refine J_imul (pc' := 72) ok (dOf dX2_append 41 rfl) rfl ?_
    refine J_bipush (v := 6) (pc' := 74) ok (dOf dX2_append 42 rfl) rfl (by decide) ?_
    refine J_acp (pc' := 77) ok (dOf dX2_append 43 rfl) rfl wml_X2_40 wnat_java_lang_System_arraycopy wstat_java_lang_System_arraycopy wini_java_lang_System (Nat.le_of_ble_eq_true rfl) (Nat.le_of_ble_eq_true rfl) (fun h17 _ => ?_)
    refine J_aload_n (pc' := 78) ok (dOf dX2_append 44 rfl) rfl rfl rfl ?_
    refine J_dup (pc' := 79) ok (dOf dX2_append 45 rfl) rfl rfl ?_
    refine J_getI (ci := 2) (kf := 1) (C := RX2) (T := TX2) (N := 7) (pc' := 82) ok (dOf dX2_append 46 rfl) rfl (by decide) rfl (by decide) win_2 wfl_X2_31 (fun x18 => ?_)
    refine J_iconst (v := 1) (pc' := 83) ok (dOf dX2_append 47 rfl) rfl (by decide) ?_
    refine J_iadd (pc' := 84) ok (dOf dX2_append 48 rfl) rfl ?_
    refine J_putI (ci := 2) (kf := 1) (C := RX2) (T := TX2) (N := 7) (pc' := 87) ok tyX2 (dOf dX2_append 49 rfl) rfl rfl (by decide) win_2 tyX2_ok nmX2 rfl rfl wfl_X2_31 (fun h19 _ => ?_)
    exact J_vreturn ok (dOf dX2_append 50 rfl) rfl (Nat.le_refl 0) (Nat.le_refl 0)
  · exact J_vreturn ok (dOf dX2_append 5 rfl) rfl (Nat.le_refl 0) (Nat.le_refl 0)
-- X3_apply
abbrev kEng_apply : Cd := (yX3_apply, cX3_apply, 8, (some .int), 5, 124)
theorem dX3_apply : dcheck cX3_apply [(0, .aload_n 3, 1), (1, .dup, 1), (2, .getfield 159, 3), (5, .iconst 1, 1), (6, .iadd, 1), (7, .putfield 159, 3), (10, .aload_n 3, 1), (11, .aload_n 0, 1), (12, .getfield 64, 3), (15, .putfield 39, 3), (18, .aload_n 3, 1), (19, .aload_n 0, 1), (20, .getfield 61, 3), (23, .putfield 162, 3), (26, .aload_n 0, 1), (27, .getfield 61, 3), (30, .iconst (-1), 1), (31, .if_icmp .ne 5, 3), (34, .iconst 0, 1), (35, .ireturn, 1), (36, .aload_n 3, 1), (37, .aload_n 0, 1), (38, .getfield 124, 3), (41, .putfield 117, 3), (44, .aload_n 3, 1), (45, .aload_n 0, 1), (46, .getfield 131, 3), (49, .putfield 128, 3), (52, .aload_n 3, 1), (53, .aload_n 0, 1), (54, .getfield 135, 3), (57, .putfield 132, 3), (60, .aload_n 0, 1), (61, .getfield 36, 3), (64, .iconst 0, 1), (65, .aload_n 2, 1), (66, .getfield 107, 3), (69, .iconst 0, 1), (70, .aload_n 2, 1), (71, .getfield 94, 3), (74, .invokestatic 163, 3), (77, .aload_n 0, 1), (78, .getfield 64, 3), (81, .ifCond .eq 5, 3), (84, .iconst 0, 1), (85, .ireturn, 1), (86, .aload_n 0, 1), (87, .getfield 120, 3), (90, .ifCond .eq 54, 3), (93, .iload 4, 2), (95, .ifCond .eq 49, 3), (98, .aload_n 2, 1), (99, .iload 4, 2), (101, .invokevirtual 169, 3), (104, .istore 5, 2), (106, .aload_n 3, 1), (107, .dup, 1), (108, .getfield 172, 3), (111, .iload 5, 2), (113, .iadd, 1), (114, .putfield 172, 3), (117, .aload_n 0, 1), (118, .getfield 21, 3), (121, .aload_n 0, 1), (122, .getfield 21, 3), (125, .getfield 175, 3), (128, .ifCond .ne 8, 3), (131, .iload 5, 2), (133, .ifCond .le 7, 3), (136, .iconst 1, 1), (137, .goto 4, 3), (140, .iconst 0, 1), (141, .putfield 175, 3), (144, .iconst 0, 1), (145, .istore 5, 2), (147, .iconst 0, 1), (148, .istore 6, 2), (150, .iload 6, 2), (152, .aload_n 1, 1), (153, .getfield 65, 3), (156, .if_icmp .ge 102, 3), (159, .aload_n 0, 1), (160, .getfield 32, 3), (163, .iload 6, 2), (165, .baload, 1), (166, .ifCond .eq 86, 3), (169, .aload_n 0, 1), (170, .getfield 12, 3), (173, .getfield 150, 3), (176, .aload_n 1, 1), (177, .iload 6, 2), (179, .aload_n 0, 1), (180, .getfield 61, 3), (183, .invokevirtual 178, 3), (186, .istore 7, 2), (188, .aload_n 2, 1), (189, .iload 6, 2), (191, .iload 7, 2), (193, .ifCond .eq 7, 3), (196, .iconst 1, 1), (197, .goto 4, 3), (200, .iconst 0, 1), (201, .aload_n 0, 1), (202, .getfield 12, 3), (205, .getfield 150, 3), (208, .getfield 182, 3), (211, .aload_n 0, 1), (212, .getfield 12, 3), (215, .getfield 150, 3), (218, .getfield 185, 3), (221, .invokevirtual 188, 3), (224, .iinc 5 1, 3), (227, .aload_n 0, 1), (228, .getfield 21, 3), (231, .getfield 175, 3), (234, .ifCond .ne 18, 3), (237, .aload_n 0, 1), (238, .getfield 21, 3), (241, .aload_n 1, 1), (242, .aload_n 2, 1), (243, .aload_n 2, 1), (244, .getfield 94, 3), (247, .iconst 1, 1), (248, .isub, 1), (249, .invokevirtual 192, 3), (252, .iinc 6 1, 3), (255, .goto (-105), 3), (258, .iload 5, 2), (260, .ireturn, 1)] = true := by decide +kernel
theorem cw_Eng_apply {k : Cd} (h1 : kEng_apply.2.2.2.2.1 + 1 ≤ k.2.2.2.2.1) (h2 : 8 + (kEng_apply.2.2.1 + 11) + kEng_apply.2.2.2.2.2 ≤ k.2.2.2.2.2) : Cw k kEng_apply 4 := ⟨wcode_X3_apply, wini_SplitProgram_Engine, ⟨by decide, by decide, by decide +kernel⟩, h1, h2⟩
def Eng_apply_j252 (v0 : Nat) (v1 : Nat) (v2 : Nat) (v3 : Nat) (v4 : Int32) (v5 : Int32) (v6 : Int32) (h : AHeap) : Option ((Int32 × Int32 × AHeap) ⊕ ((Int32 × Int32 × AHeap))) :=
  some (.inl (v5, v6 + 1, h))
theorem Eng_apply_j252_J {E : JE} {l : Launch} {G : GX} {r : Option Value} {h' : AHeap} (ok : JOK E l G kEng_apply 0 0 r h') (v0 : Nat) (v1 : Nat) (v2 : Nat) (v3 : Nat) (v4 : Int32) (v5 : Int32) (v6 : Int32) (h : AHeap) {Y : (Int32 × Int32 × AHeap) ⊕ ((Int32 × Int32 × AHeap)) → Prop} (k1 : ∀ s' : Int32 × Int32 × AHeap, Y (.inl s') → JW E kEng_apply 150 [some (.ref v0), some (.ref v1), some (.ref v2), some (.ref v3), some (.int v4), some (.int s'.1), some (.int s'.2.1), none] [] s'.2.2 0 0) (kx258 : ∀ q : Int32 × Int32 × AHeap, Y (.inr q) → JW E kEng_apply 258 [some (.ref v0), some (.ref v1), some (.ref v2), some (.ref v3), some (.int v4), some (.int q.1), some (.int q.2.1), none] [] q.2.2 0 0) : J E kEng_apply (Eng_apply_j252 v0 v1 v2 v3 v4 v5 v6 h) Y 252 [some (.ref v0), some (.ref v1), some (.ref v2), some (.ref v3), some (.int v4), some (.int v5), some (.int v6), none] [] h 0 0 := by
  unfold Eng_apply_j252
  refine J_iinc (v := v6 + 1) (ls' := [some (.ref v0), some (.ref v1), some (.ref v2), some (.ref v3), some (.int v4), some (.int v5), some (.int (v6 + 1)), none]) (pc' := 255) ok (dOf dX3_apply 125 rfl) rfl rfl (by rfl) (Nat.le_of_ble_eq_true rfl) rfl rfl ?_
  refine J_goto (tgt := 150) ok (dOf dX3_apply 126 rfl) (by decide) ?_
  exact J_fin (k1 (v5, v6 + 1, h))
def Eng_apply_j201 (v0 : Nat) (v1 : Nat) (v2 : Nat) (v3 : Nat) (v4 : Int32) (v5 : Int32) (v6 : Int32) (v7 : Int32) (t0 : Nat) (t1 : Int32) (t2 : Int32) (h : AHeap) : Option ((Int32 × Int32 × AHeap) ⊕ ((Int32 × Int32 × AHeap))) :=
  (gfR h v0 3 0).bind fun a28 => (gfR h a28 0 0).bind fun a29 => (gfR h a29 4 10).bind fun a30 => (gfR h v0 3 0).bind fun a31 => (gfR h a31 0 0).bind fun a32 => (gfR h a32 4 11).bind fun a33 => (chk h t0 2).bind fun _ => bnd2 (Cuts_append t0 t1 t2 a30 a33 h) fun _ h34 => (gfR h34 v0 3 1).bind fun a35 => (gfI h34 a35 1 0).bind fun x36 => (if ¬ x36 = 0 then Eng_apply_j252 v0 v1 v2 v3 v4 (v5 + 1) v6 h34 else (gfR h34 v0 3 1).bind fun a37 => (gfI h34 v2 2 1).bind fun x38 => (chk h34 a37 1).bind fun _ => bnd2 (Bnds_include a37 v1 v2 (x38 - 1) h34) fun _ h39 => Eng_apply_j252 v0 v1 v2 v3 v4 (v5 + 1) v6 h39)
theorem Eng_apply_j201_J {E : JE} {l : Launch} {G : GX} {r : Option Value} {h' : AHeap} (ok : JOK E l G kEng_apply 0 0 r h') (v0 : Nat) (v1 : Nat) (v2 : Nat) (v3 : Nat) (v4 : Int32) (v5 : Int32) (v6 : Int32) (v7 : Int32) (t0 : Nat) (t1 : Int32) (t2 : Int32) (h : AHeap) {Y : (Int32 × Int32 × AHeap) ⊕ ((Int32 × Int32 × AHeap)) → Prop} (k1 : ∀ s' : Int32 × Int32 × AHeap, Y (.inl s') → JW E kEng_apply 150 [some (.ref v0), some (.ref v1), some (.ref v2), some (.ref v3), some (.int v4), some (.int s'.1), some (.int s'.2.1), none] [] s'.2.2 0 0) (kx258 : ∀ q : Int32 × Int32 × AHeap, Y (.inr q) → JW E kEng_apply 258 [some (.ref v0), some (.ref v1), some (.ref v2), some (.ref v3), some (.int v4), some (.int q.1), some (.int q.2.1), none] [] q.2.2 0 0) : J E kEng_apply (Eng_apply_j201 v0 v1 v2 v3 v4 v5 v6 v7 t0 t1 t2 h) Y 201 [some (.ref v0), some (.ref v1), some (.ref v2), some (.ref v3), some (.int v4), some (.int v5), some (.int v6), some (.int v7)] [.int t2, .int t1, .ref t0] h 0 0 := by
  unfold Eng_apply_j201
  refine J_aload_n (pc' := 202) ok (dOf dX3_apply 102 rfl) rfl rfl rfl ?_
  refine J_getR (ci := 3) (kf := 0) (C := RX3) (T := TX3) (N := 12) (pc' := 205) ok (dOf dX3_apply 103 rfl) rfl (by decide) rfl (by decide) win_3 wfl_X3_12 (fun a28 => ?_)
  refine J_getR (ci := 0) (kf := 0) (C := RX0) (T := TX0) (N := 2) (pc' := 208) ok (dOf dX3_apply 104 rfl) rfl (by decide) rfl (by decide) win_0 wfl_X3_150 (fun a29 => ?_)
  refine J_getR (ci := 4) (kf := 10) (C := RX4) (T := TX4) (N := 12) (pc' := 211) ok (dOf dX3_apply 105 rfl) rfl (by decide) rfl (by decide) win_4 wfl_X3_182 (fun a30 => ?_)
  refine J_aload_n (pc' := 212) ok (dOf dX3_apply 106 rfl) rfl rfl rfl ?_
  refine J_getR (ci := 3) (kf := 0) (C := RX3) (T := TX3) (N := 12) (pc' := 215) ok (dOf dX3_apply 107 rfl) rfl (by decide) rfl (by decide) win_3 wfl_X3_12 (fun a31 => ?_)
  refine J_getR (ci := 0) (kf := 0) (C := RX0) (T := TX0) (N := 2) (pc' := 218) ok (dOf dX3_apply 108 rfl) rfl (by decide) rfl (by decide) win_0 wfl_X3_150 (fun a32 => ?_)
  refine J_getR (ci := 4) (kf := 11) (C := RX4) (T := TX4) (N := 12) (pc' := 221) ok (dOf dX3_apply 109 rfl) rfl (by decide) rfl (by decide) win_4 wfl_X3_185 (fun a33 => ?_)
  refine J_callVv (k2 := kCuts_append) (ci := 2) (T := TX2) (N := 7) (as := [.int t1, .int t2, .ref a30, .ref a33]) (pc' := 224) ok (dOf dX3_apply 110 rfl) rfl (cw_Cuts_append (by decide) (by decide)) wml_X3_188 winst_X2_append wsel_X2_append rfl ⟨Nat.le_refl 0, Nat.le_refl 0⟩ (Nat.le_of_ble_eq_true rfl) rfl (fun _ _ hf => t_Cuts_append hf) (fun _ h34 => ?_)
  refine J_iinc (v := v5 + 1) (ls' := [some (.ref v0), some (.ref v1), some (.ref v2), some (.ref v3), some (.int v4), some (.int (v5 + 1)), some (.int v6), some (.int v7)]) (pc' := 227) ok (dOf dX3_apply 111 rfl) rfl rfl (by rfl) (Nat.le_of_ble_eq_true rfl) rfl rfl ?_
  refine J_aload_n (pc' := 228) ok (dOf dX3_apply 112 rfl) rfl rfl rfl ?_
  refine J_getR (ci := 3) (kf := 1) (C := RX3) (T := TX3) (N := 12) (pc' := 231) ok (dOf dX3_apply 113 rfl) rfl (by decide) rfl (by decide) win_3 wfl_X3_21 (fun a35 => ?_)
  refine J_getI (ci := 1) (kf := 0) (C := RX1) (T := TX1) (N := 3) (pc' := 234) ok (dOf dX3_apply 114 rfl) rfl (by decide) rfl (by decide) win_1 wfl_X3_175 (fun x36 => ?_)
  refine J_if_ne (tgt := 252) (pc' := 237) ok (dOf dX3_apply 115 rfl) rfl (by decide) ?_ ?_
  · refine J_weak (ls' := [some (.ref v0), some (.ref v1), some (.ref v2), some (.ref v3), some (.int v4), some (.int (v5 + 1)), some (.int v6), none]) ⟨rfl, rfl, rfl, rfl, rfl, rfl, rfl, trivial⟩ ?_
    exact Eng_apply_j252_J ok v0 v1 v2 v3 v4 (v5 + 1) v6 h34 k1 kx258
  · refine J_aload_n (pc' := 238) ok (dOf dX3_apply 116 rfl) rfl rfl rfl ?_
    refine J_getR (ci := 3) (kf := 1) (C := RX3) (T := TX3) (N := 12) (pc' := 241) ok (dOf dX3_apply 117 rfl) rfl (by decide) rfl (by decide) win_3 wfl_X3_21 (fun a37 => ?_)
    refine J_aload_n (pc' := 242) ok (dOf dX3_apply 118 rfl) rfl rfl rfl ?_
    refine J_aload_n (pc' := 243) ok (dOf dX3_apply 119 rfl) rfl rfl rfl ?_
    refine J_aload_n (pc' := 244) ok (dOf dX3_apply 120 rfl) rfl rfl rfl ?_
    refine J_getI (ci := 2) (kf := 1) (C := RX2) (T := TX2) (N := 7) (pc' := 247) ok (dOf dX3_apply 121 rfl) rfl (by decide) rfl (by decide) win_2 wfl_X3_94 (fun x38 => ?_)
    refine J_iconst (v := 1) (pc' := 248) ok (dOf dX3_apply 122 rfl) rfl (by decide) ?_
    refine J_isub (pc' := 249) ok (dOf dX3_apply 123 rfl) rfl ?_
    refine J_callVv (k2 := kBnds_include) (ci := 1) (T := TX1) (N := 3) (as := [.ref v1, .ref v2, .int (x38 - 1)]) (pc' := 252) ok (dOf dX3_apply 124 rfl) rfl (cw_Bnds_include (by decide) (by decide)) wml_X3_192 winst_X1_include wsel_X1_include rfl ⟨Nat.le_refl 0, Nat.le_refl 0⟩ (Nat.le_of_ble_eq_true rfl) rfl (fun _ _ hf => t_Bnds_include hf) (fun _ h39 => ?_)
    refine J_weak (ls' := [some (.ref v0), some (.ref v1), some (.ref v2), some (.ref v3), some (.int v4), some (.int (v5 + 1)), some (.int v6), none]) ⟨rfl, rfl, rfl, rfl, rfl, rfl, rfl, trivial⟩ ?_
    exact Eng_apply_j252_J ok v0 v1 v2 v3 v4 (v5 + 1) v6 h39 k1 kx258
def Eng_apply_b150 (v0 : Nat) (v1 : Nat) (v2 : Nat) (v3 : Nat) (v4 : Int32) (s : Int32 × Int32 × AHeap) : Option ((Int32 × Int32 × AHeap) ⊕ ((Int32 × Int32 × AHeap))) :=
  (gfI s.2.2 v1 6 2).bind fun x20 => (if x20 ≤ s.2.1 then some (.inr (s.1, s.2.1, s.2.2)) else (gfR s.2.2 v0 3 4).bind fun a21 => (ald 1 s.2.2 a21 s.2.1).bind fun x22 => (if x22 = 0 then Eng_apply_j252 v0 v1 v2 v3 v4 s.1 s.2.1 s.2.2 else (gfR s.2.2 v0 3 0).bind fun a23 => (gfR s.2.2 a23 0 0).bind fun a24 => (gfI s.2.2 v0 3 6).bind fun x25 => (chk s.2.2 a24 4).bind fun _ => bnd2 (Frt_findRates a24 v1 s.2.1 x25 s.2.2) fun x27 h26 => (if x27 = 0 then Eng_apply_j201 v0 v1 v2 v3 v4 s.1 s.2.1 x27 v2 s.2.1 0 h26 else Eng_apply_j201 v0 v1 v2 v3 v4 s.1 s.2.1 x27 v2 s.2.1 1 h26)))
theorem Eng_apply_b150_J {E : JE} {l : Launch} {G : GX} {r : Option Value} {h' : AHeap} (ok : JOK E l G kEng_apply 0 0 r h') (v0 : Nat) (v1 : Nat) (v2 : Nat) (v3 : Nat) (v4 : Int32) {Y : (Int32 × Int32 × AHeap) ⊕ ((Int32 × Int32 × AHeap)) → Prop} (k1 : ∀ s' : Int32 × Int32 × AHeap, Y (.inl s') → JW E kEng_apply 150 [some (.ref v0), some (.ref v1), some (.ref v2), some (.ref v3), some (.int v4), some (.int s'.1), some (.int s'.2.1), none] [] s'.2.2 0 0) (kx258 : ∀ q : Int32 × Int32 × AHeap, Y (.inr q) → JW E kEng_apply 258 [some (.ref v0), some (.ref v1), some (.ref v2), some (.ref v3), some (.int v4), some (.int q.1), some (.int q.2.1), none] [] q.2.2 0 0) (s : Int32 × Int32 × AHeap) : J E kEng_apply (Eng_apply_b150 v0 v1 v2 v3 v4 s) Y 150 [some (.ref v0), some (.ref v1), some (.ref v2), some (.ref v3), some (.int v4), some (.int s.1), some (.int s.2.1), none] [] s.2.2 0 0 := by
  unfold Eng_apply_b150
  refine J_iload (pc' := 152) ok (dOf dX3_apply 77 rfl) rfl rfl ?_
  refine J_aload_n (pc' := 153) ok (dOf dX3_apply 78 rfl) rfl rfl rfl ?_
  refine J_getI (ci := 6) (kf := 2) (C := RX6) (T := TX6) (N := 9) (pc' := 156) ok (dOf dX3_apply 79 rfl) rfl (by decide) rfl (by decide) win_6 wfl_X3_65 (fun x20 => ?_)
  refine J_icmp_ge (tgt := 258) (pc' := 159) ok (dOf dX3_apply 80 rfl) rfl (by decide) ?_ ?_
  · exact J_fin (kx258 (s.1, s.2.1, s.2.2))
  · refine J_aload_n (pc' := 160) ok (dOf dX3_apply 81 rfl) rfl rfl rfl ?_
    refine J_getR (ci := 3) (kf := 4) (C := RX3) (T := TX3) (N := 12) (pc' := 163) ok (dOf dX3_apply 82 rfl) rfl (by decide) rfl (by decide) win_3 wfl_X3_32 (fun a21 => ?_)
    refine J_iload (pc' := 165) ok (dOf dX3_apply 83 rfl) rfl rfl ?_
    refine J_zald (pc' := 166) ok (dOf dX3_apply 84 rfl) rfl (fun x22 => ?_)
    refine J_if_eq (tgt := 252) (pc' := 169) ok (dOf dX3_apply 85 rfl) rfl (by decide) ?_ ?_
    · exact Eng_apply_j252_J ok v0 v1 v2 v3 v4 s.1 s.2.1 s.2.2 k1 kx258
    · refine J_aload_n (pc' := 170) ok (dOf dX3_apply 86 rfl) rfl rfl rfl ?_
      refine J_getR (ci := 3) (kf := 0) (C := RX3) (T := TX3) (N := 12) (pc' := 173) ok (dOf dX3_apply 87 rfl) rfl (by decide) rfl (by decide) win_3 wfl_X3_12 (fun a23 => ?_)
      refine J_getR (ci := 0) (kf := 0) (C := RX0) (T := TX0) (N := 2) (pc' := 176) ok (dOf dX3_apply 88 rfl) rfl (by decide) rfl (by decide) win_0 wfl_X3_150 (fun a24 => ?_)
      refine J_aload_n (pc' := 177) ok (dOf dX3_apply 89 rfl) rfl rfl rfl ?_
      refine J_iload (pc' := 179) ok (dOf dX3_apply 90 rfl) rfl rfl ?_
      refine J_aload_n (pc' := 180) ok (dOf dX3_apply 91 rfl) rfl rfl rfl ?_
      refine J_getI (ci := 3) (kf := 6) (C := RX3) (T := TX3) (N := 12) (pc' := 183) ok (dOf dX3_apply 92 rfl) rfl (by decide) rfl (by decide) win_3 wfl_X3_61 (fun x25 => ?_)
      refine J_callVi (k2 := kFrt_findRates) (ci := 4) (T := TX4) (N := 12) (as := [.ref v1, .int s.2.1, .int x25]) (pc' := 186) ok (dOf dX3_apply 93 rfl) rfl (cw_Frt_findRates (by decide) (by decide)) wml_X3_178 winst_X4_findRates wsel_X4_findRates rfl ⟨Nat.le_refl 0, Nat.le_refl 0⟩ (Nat.le_of_ble_eq_true rfl) rfl (fun _ _ hf => t_Frt_findRates hf) (fun x27 h26 => ?_)
      refine J_istore (ls' := [some (.ref v0), some (.ref v1), some (.ref v2), some (.ref v3), some (.int v4), some (.int s.1), some (.int s.2.1), some (.int x27)]) (pc' := 188) ok (dOf dX3_apply 94 rfl) rfl (Nat.le_of_ble_eq_true rfl) rfl rfl ?_
      refine J_aload_n (pc' := 189) ok (dOf dX3_apply 95 rfl) rfl rfl rfl ?_
      refine J_iload (pc' := 191) ok (dOf dX3_apply 96 rfl) rfl rfl ?_
      refine J_iload (pc' := 193) ok (dOf dX3_apply 97 rfl) rfl rfl ?_
      refine J_if_eq (tgt := 200) (pc' := 196) ok (dOf dX3_apply 98 rfl) rfl (by decide) ?_ ?_
      · refine J_iconst (v := 0) (pc' := 201) ok (dOf dX3_apply 101 rfl) rfl (by decide) ?_
        exact Eng_apply_j201_J ok v0 v1 v2 v3 v4 s.1 s.2.1 x27 v2 s.2.1 0 h26 k1 kx258
      · refine J_iconst (v := 1) (pc' := 197) ok (dOf dX3_apply 99 rfl) rfl (by decide) ?_
        refine J_goto (tgt := 201) ok (dOf dX3_apply 100 rfl) (by decide) ?_
        exact Eng_apply_j201_J ok v0 v1 v2 v3 v4 s.1 s.2.1 x27 v2 s.2.1 1 h26 k1 kx258
def Eng_apply_j258 (v0 : Nat) (v1 : Nat) (v2 : Nat) (v3 : Nat) (v4 : Int32) (v5 : Int32) (v6 : Int32) (h : AHeap) : Option (Int32 × AHeap) :=
  some (v5, h)
theorem Eng_apply_j258_J {E : JE} {l : Launch} {G : GX} {v : Int32} {h' : AHeap} (ok : JOK E l G kEng_apply 0 0 (some (.int v)) h') (v0 : Nat) (v1 : Nat) (v2 : Nat) (v3 : Nat) (v4 : Int32) (v5 : Int32) (v6 : Int32) (h : AHeap) : J E kEng_apply (Eng_apply_j258 v0 v1 v2 v3 v4 v5 v6 h) (fun z => z = (v, h')) 258 [some (.ref v0), some (.ref v1), some (.ref v2), some (.ref v3), some (.int v4), some (.int v5), some (.int v6), none] [] h 0 0 := by
  unfold Eng_apply_j258
  refine J_iload (pc' := 260) ok (dOf dX3_apply 127 rfl) rfl rfl ?_
  exact J_ireturn ok (dOf dX3_apply 128 rfl) rfl (Nat.le_refl 0) (Nat.le_refl 0)
def Eng_apply_j144 (v0 : Nat) (v1 : Nat) (v2 : Nat) (v3 : Nat) (v4 : Int32) (h : AHeap) : Option (Int32 × AHeap) :=
  (iter (Eng_apply_b150 v0 v1 v2 v3 v4) Lmax (0, 0, h)).bind (fun q150 => Eng_apply_j258 v0 v1 v2 v3 v4 q150.1 q150.2.1 q150.2.2)
theorem Eng_apply_j144_J {E : JE} {l : Launch} {G : GX} {v : Int32} {h' : AHeap} (ok : JOK E l G kEng_apply 0 0 (some (.int v)) h') (v0 : Nat) (v1 : Nat) (v2 : Nat) (v3 : Nat) (v4 : Int32) (h : AHeap) : J E kEng_apply (Eng_apply_j144 v0 v1 v2 v3 v4 h) (fun z => z = (v, h')) 144 [some (.ref v0), some (.ref v1), some (.ref v2), some (.ref v3), some (.int v4), none, none, none] [] h 0 0 := by
  unfold Eng_apply_j144
  refine J_iconst (v := 0) (pc' := 145) ok (dOf dX3_apply 73 rfl) rfl (by decide) ?_
  refine J_istore (ls' := [some (.ref v0), some (.ref v1), some (.ref v2), some (.ref v3), some (.int v4), some (.int 0), none, none]) (pc' := 147) ok (dOf dX3_apply 74 rfl) rfl (Nat.le_of_ble_eq_true rfl) rfl rfl ?_
  refine J_iconst (v := 0) (pc' := 148) ok (dOf dX3_apply 75 rfl) rfl (by decide) ?_
  refine J_istore (ls' := [some (.ref v0), some (.ref v1), some (.ref v2), some (.ref v3), some (.int v4), some (.int 0), some (.int 0), none]) (pc' := 150) ok (dOf dX3_apply 76 rfl) rfl (Nat.le_of_ble_eq_true rfl) rfl rfl ?_
  refine J_iter (lf := fun z150 => [some (.ref v0), some (.ref v1), some (.ref v2), some (.ref v3), some (.int v4), some (.int z150.1), some (.int z150.2.1), none]) (sf := fun _ => []) (hf := fun z150 => z150.2.2) (px := (fun q150 => 258)) (lx := (fun q150 => [some (.ref v0), some (.ref v1), some (.ref v2), some (.ref v3), some (.int v4), some (.int q150.1), some (.int q150.2.1), none])) (sx := (fun q150 => [])) (hx := (fun q150 => q150.2.2)) (fun Y2 z150 m1 m2 => Eng_apply_b150_J ok v0 v1 v2 v3 v4 m1 m2 z150) (fun q150 => ?_) Lmax _
  exact Eng_apply_j258_J ok v0 v1 v2 v3 v4 q150.1 q150.2.1 q150.2.2
def Eng_apply_j141 (v0 : Nat) (v1 : Nat) (v2 : Nat) (v3 : Nat) (v4 : Int32) (v5 : Int32) (t0 : Nat) (t1 : Int32) (h : AHeap) : Option (Int32 × AHeap) :=
  (bz t1).bind fun x48 => (pfV h t0 1 0 (.int x48)).bind fun h47 => Eng_apply_j144 v0 v1 v2 v3 v4 h47
theorem Eng_apply_j141_J {E : JE} {l : Launch} {G : GX} {v : Int32} {h' : AHeap} (ok : JOK E l G kEng_apply 0 0 (some (.int v)) h') (v0 : Nat) (v1 : Nat) (v2 : Nat) (v3 : Nat) (v4 : Int32) (v5 : Int32) (t0 : Nat) (t1 : Int32) (h : AHeap) : J E kEng_apply (Eng_apply_j141 v0 v1 v2 v3 v4 v5 t0 t1 h) (fun z => z = (v, h')) 141 [some (.ref v0), some (.ref v1), some (.ref v2), some (.ref v3), some (.int v4), some (.int v5), none, none] [.int t1, .ref t0] h 0 0 := by
  unfold Eng_apply_j141
  refine J_putZ (ci := 1) (kf := 0) (C := RX1) (T := TX1) (N := 3) (pc' := 144) ok tyX1 (dOf dX3_apply 72 rfl) rfl rfl (by decide) win_1 tyX1_ok nmX1 rfl rfl wfl_X3_175 (fun h47 _ => ?_)
  refine J_weak (ls' := [some (.ref v0), some (.ref v1), some (.ref v2), some (.ref v3), some (.int v4), none, none, none]) ⟨rfl, rfl, rfl, rfl, rfl, trivial⟩ ?_
  exact Eng_apply_j144_J ok v0 v1 v2 v3 v4 h47
def Eng_apply_j136 (v0 : Nat) (v1 : Nat) (v2 : Nat) (v3 : Nat) (v4 : Int32) (v5 : Int32) (t0 : Nat) (h : AHeap) : Option (Int32 × AHeap) :=
  Eng_apply_j141 v0 v1 v2 v3 v4 v5 t0 1 h
theorem Eng_apply_j136_J {E : JE} {l : Launch} {G : GX} {v : Int32} {h' : AHeap} (ok : JOK E l G kEng_apply 0 0 (some (.int v)) h') (v0 : Nat) (v1 : Nat) (v2 : Nat) (v3 : Nat) (v4 : Int32) (v5 : Int32) (t0 : Nat) (h : AHeap) : J E kEng_apply (Eng_apply_j136 v0 v1 v2 v3 v4 v5 t0 h) (fun z => z = (v, h')) 136 [some (.ref v0), some (.ref v1), some (.ref v2), some (.ref v3), some (.int v4), some (.int v5), none, none] [.ref t0] h 0 0 := by
  unfold Eng_apply_j136
  refine J_iconst (v := 1) (pc' := 137) ok (dOf dX3_apply 69 rfl) rfl (by decide) ?_
  refine J_goto (tgt := 141) ok (dOf dX3_apply 70 rfl) (by decide) ?_
  exact Eng_apply_j141_J ok v0 v1 v2 v3 v4 v5 t0 1 h
def Eng_apply (v0 : Nat) (v1 : Nat) (v2 : Nat) (v3 : Nat) (v4 : Int32) (h : AHeap) : Option (Int32 × AHeap) :=
  (gfI h v3 7 5).bind fun x1 => (pfV h v3 7 5 (.int (x1 + 1))).bind fun h2 => (gfI h2 v0 3 7).bind fun x3 => (pfV h2 v3 7 0 (.int x3)).bind fun h4 => (gfI h4 v0 3 6).bind fun x5 => (pfV h4 v3 7 4 (.int x5)).bind fun h6 => (gfI h6 v0 3 6).bind fun x7 => (if ¬ x7 = (-1) then (gfI h6 v0 3 8).bind fun x8 => (pfV h6 v3 7 1 (.int x8)).bind fun h9 => (gfI h9 v0 3 9).bind fun x10 => (pfV h9 v3 7 2 (.int x10)).bind fun h11 => (gfI h11 v0 3 10).bind fun x12 => (pfV h11 v3 7 3 (.int x12)).bind fun h13 => (gfR h13 v0 3 5).bind fun a14 => (gfR h13 v2 2 4).bind fun a15 => (gfI h13 v2 2 1).bind fun x16 => (acp h13 a14 0 a15 0 x16).bind fun h17 => (gfI h17 v0 3 7).bind fun x18 => (if x18 = 0 then (gfI h17 v0 3 11).bind fun x19 => (if x19 = 0 then Eng_apply_j144 v0 v1 v2 v3 v4 h17 else (if v4 = 0 then Eng_apply_j144 v0 v1 v2 v3 v4 h17 else (chk h17 v2 2).bind fun _ => bnd2 (Cuts_dropAged v2 v4 h17) fun x41 h40 => (gfI h40 v3 7 6).bind fun x42 => (pfV h40 v3 7 6 (.int (x42 + x41))).bind fun h43 => (gfR h43 v0 3 1).bind fun a44 => (gfR h43 v0 3 1).bind fun a45 => (gfI h43 a45 1 0).bind fun x46 => (if ¬ x46 = 0 then Eng_apply_j136 v0 v1 v2 v3 v4 x41 a44 h43 else (if x41 ≤ 0 then Eng_apply_j141 v0 v1 v2 v3 v4 x41 a44 0 h43 else Eng_apply_j136 v0 v1 v2 v3 v4 x41 a44 h43)))) else some (0, h17)) else some (0, h6))
theorem t_Eng_apply {l : Launch} {G : GX} {v0 : Nat} {v1 : Nat} {v2 : Nat} {v3 : Nat} {v4 : Int32} {h : AHeap} {v : Int32} {h1 : AHeap} (hf : Eng_apply v0 v1 v2 v3 v4 h = some (v, h1)) : CT l G kEng_apply 0 0 [.ref v0, .ref v1, .ref v2, .ref v3, .int v4] h (some (.int v)) h1 := by
  refine CT_of (ls := [some (.ref v0), some (.ref v1), some (.ref v2), some (.ref v3), some (.int v4), none, none, none]) (Z := fun z => z = (v, h1)) (by decide +kernel) (Nat.le_of_ble_eq_true rfl) hf rfl ⟨rfl, rfl, rfl, rfl, rfl, trivial⟩ (fun E ok => ?_)
  unfold Eng_apply
  refine J_aload_n (pc' := 1) ok (dOf dX3_apply 0 rfl) rfl rfl rfl ?_
  refine J_dup (pc' := 2) ok (dOf dX3_apply 1 rfl) rfl rfl ?_
  refine J_getI (ci := 7) (kf := 5) (C := RX7) (T := TX7) (N := 7) (pc' := 5) ok (dOf dX3_apply 2 rfl) rfl (by decide) rfl (by decide) win_7 wfl_X3_159 (fun x1 => ?_)
  refine J_iconst (v := 1) (pc' := 6) ok (dOf dX3_apply 3 rfl) rfl (by decide) ?_
  refine J_iadd (pc' := 7) ok (dOf dX3_apply 4 rfl) rfl ?_
  refine J_putI (ci := 7) (kf := 5) (C := RX7) (T := TX7) (N := 7) (pc' := 10) ok tyX7 (dOf dX3_apply 5 rfl) rfl rfl (by decide) win_7 tyX7_ok nmX7 rfl rfl wfl_X3_159 (fun h2 _ => ?_)
  refine J_aload_n (pc' := 11) ok (dOf dX3_apply 6 rfl) rfl rfl rfl ?_
  refine J_aload_n (pc' := 12) ok (dOf dX3_apply 7 rfl) rfl rfl rfl ?_
  refine J_getI (ci := 3) (kf := 7) (C := RX3) (T := TX3) (N := 12) (pc' := 15) ok (dOf dX3_apply 8 rfl) rfl (by decide) rfl (by decide) win_3 wfl_X3_64 (fun x3 => ?_)
  refine J_putI (ci := 7) (kf := 0) (C := RX7) (T := TX7) (N := 7) (pc' := 18) ok tyX7 (dOf dX3_apply 9 rfl) rfl rfl (by decide) win_7 tyX7_ok nmX7 rfl rfl wfl_X3_39 (fun h4 _ => ?_)
  refine J_aload_n (pc' := 19) ok (dOf dX3_apply 10 rfl) rfl rfl rfl ?_
  refine J_aload_n (pc' := 20) ok (dOf dX3_apply 11 rfl) rfl rfl rfl ?_
  refine J_getI (ci := 3) (kf := 6) (C := RX3) (T := TX3) (N := 12) (pc' := 23) ok (dOf dX3_apply 12 rfl) rfl (by decide) rfl (by decide) win_3 wfl_X3_61 (fun x5 => ?_)
  refine J_putI (ci := 7) (kf := 4) (C := RX7) (T := TX7) (N := 7) (pc' := 26) ok tyX7 (dOf dX3_apply 13 rfl) rfl rfl (by decide) win_7 tyX7_ok nmX7 rfl rfl wfl_X3_162 (fun h6 _ => ?_)
  refine J_aload_n (pc' := 27) ok (dOf dX3_apply 14 rfl) rfl rfl rfl ?_
  refine J_getI (ci := 3) (kf := 6) (C := RX3) (T := TX3) (N := 12) (pc' := 30) ok (dOf dX3_apply 15 rfl) rfl (by decide) rfl (by decide) win_3 wfl_X3_61 (fun x7 => ?_)
  refine J_iconst (v := (-1)) (pc' := 31) ok (dOf dX3_apply 16 rfl) rfl (by decide) ?_
  refine J_icmp_ne (tgt := 36) (pc' := 34) ok (dOf dX3_apply 17 rfl) rfl (by decide) ?_ ?_
  · refine J_aload_n (pc' := 37) ok (dOf dX3_apply 20 rfl) rfl rfl rfl ?_
    refine J_aload_n (pc' := 38) ok (dOf dX3_apply 21 rfl) rfl rfl rfl ?_
    refine J_getI (ci := 3) (kf := 8) (C := RX3) (T := TX3) (N := 12) (pc' := 41) ok (dOf dX3_apply 22 rfl) rfl (by decide) rfl (by decide) win_3 wfl_X3_124 (fun x8 => ?_)
    refine J_putI (ci := 7) (kf := 1) (C := RX7) (T := TX7) (N := 7) (pc' := 44) ok tyX7 (dOf dX3_apply 23 rfl) rfl rfl (by decide) win_7 tyX7_ok nmX7 rfl rfl wfl_X3_117 (fun h9 _ => ?_)
    refine J_aload_n (pc' := 45) ok (dOf dX3_apply 24 rfl) rfl rfl rfl ?_
    refine J_aload_n (pc' := 46) ok (dOf dX3_apply 25 rfl) rfl rfl rfl ?_
    refine J_getI (ci := 3) (kf := 9) (C := RX3) (T := TX3) (N := 12) (pc' := 49) ok (dOf dX3_apply 26 rfl) rfl (by decide) rfl (by decide) win_3 wfl_X3_131 (fun x10 => ?_)
    refine J_putI (ci := 7) (kf := 2) (C := RX7) (T := TX7) (N := 7) (pc' := 52) ok tyX7 (dOf dX3_apply 27 rfl) rfl rfl (by decide) win_7 tyX7_ok nmX7 rfl rfl wfl_X3_128 (fun h11 _ => ?_)
    refine J_aload_n (pc' := 53) ok (dOf dX3_apply 28 rfl) rfl rfl rfl ?_
    refine J_aload_n (pc' := 54) ok (dOf dX3_apply 29 rfl) rfl rfl rfl ?_
    refine J_getI (ci := 3) (kf := 10) (C := RX3) (T := TX3) (N := 12) (pc' := 57) ok (dOf dX3_apply 30 rfl) rfl (by decide) rfl (by decide) win_3 wfl_X3_135 (fun x12 => ?_)
    refine J_putI (ci := 7) (kf := 3) (C := RX7) (T := TX7) (N := 7) (pc' := 60) ok tyX7 (dOf dX3_apply 31 rfl) rfl rfl (by decide) win_7 tyX7_ok nmX7 rfl rfl wfl_X3_132 (fun h13 _ => ?_)
    refine J_aload_n (pc' := 61) ok (dOf dX3_apply 32 rfl) rfl rfl rfl ?_
    refine J_getR (ci := 3) (kf := 5) (C := RX3) (T := TX3) (N := 12) (pc' := 64) ok (dOf dX3_apply 33 rfl) rfl (by decide) rfl (by decide) win_3 wfl_X3_36 (fun a14 => ?_)
    refine J_iconst (v := 0) (pc' := 65) ok (dOf dX3_apply 34 rfl) rfl (by decide) ?_
    refine J_aload_n (pc' := 66) ok (dOf dX3_apply 35 rfl) rfl rfl rfl ?_
    refine J_getR (ci := 2) (kf := 4) (C := RX2) (T := TX2) (N := 7) (pc' := 69) ok (dOf dX3_apply 36 rfl) rfl (by decide) rfl (by decide) win_2 wfl_X3_107 (fun a15 => ?_)
    refine J_iconst (v := 0) (pc' := 70) ok (dOf dX3_apply 37 rfl) rfl (by decide) ?_
    refine J_aload_n (pc' := 71) ok (dOf dX3_apply 38 rfl) rfl rfl rfl ?_
    refine J_getI (ci := 2) (kf := 1) (C := RX2) (T := TX2) (N := 7) (pc' := 74) ok (dOf dX3_apply 39 rfl) rfl (by decide) rfl (by decide) win_2 wfl_X3_94 (fun x16 => ?_)
    refine J_acp (pc' := 77) ok (dOf dX3_apply 40 rfl) rfl wml_X3_163 wnat_java_lang_System_arraycopy wstat_java_lang_System_arraycopy wini_java_lang_System (Nat.le_of_ble_eq_true rfl) (Nat.le_of_ble_eq_true rfl) (fun h17 _ => ?_)
    refine J_aload_n (pc' := 78) ok (dOf dX3_apply 41 rfl) rfl rfl rfl ?_
    refine J_getI (ci := 3) (kf := 7) (C := RX3) (T := TX3) (N := 12) (pc' := 81) ok (dOf dX3_apply 42 rfl) rfl (by decide) rfl (by decide) win_3 wfl_X3_64 (fun x18 => ?_)
    refine J_if_eq (tgt := 86) (pc' := 84) ok (dOf dX3_apply 43 rfl) rfl (by decide) ?_ ?_
    · refine J_aload_n (pc' := 87) ok (dOf dX3_apply 46 rfl) rfl rfl rfl ?_
      refine J_getI (ci := 3) (kf := 11) (C := RX3) (T := TX3) (N := 12) (pc' := 90) ok (dOf dX3_apply 47 rfl) rfl (by decide) rfl (by decide) win_3 wfl_X3_120 (fun x19 => ?_)
      refine J_if_eq (tgt := 144) (pc' := 93) ok (dOf dX3_apply 48 rfl) rfl (by decide) ?_ ?_
      · exact Eng_apply_j144_J ok v0 v1 v2 v3 v4 h17
      · refine J_iload (pc' := 95) ok (dOf dX3_apply 49 rfl) rfl rfl ?_
        refine J_if_eq (tgt := 144) (pc' := 98) ok (dOf dX3_apply 50 rfl) rfl (by decide) ?_ ?_
        · exact Eng_apply_j144_J ok v0 v1 v2 v3 v4 h17
        · refine J_aload_n (pc' := 99) ok (dOf dX3_apply 51 rfl) rfl rfl rfl ?_
          refine J_iload (pc' := 101) ok (dOf dX3_apply 52 rfl) rfl rfl ?_
          refine J_callVi (k2 := kCuts_dropAged) (ci := 2) (T := TX2) (N := 7) (as := [.int v4]) (pc' := 104) ok (dOf dX3_apply 53 rfl) rfl (cw_Cuts_dropAged (by decide) (by decide)) wml_X3_169 winst_X2_dropAged wsel_X2_dropAged rfl ⟨Nat.le_refl 0, Nat.le_refl 0⟩ (Nat.le_of_ble_eq_true rfl) rfl (fun _ _ hf => t_Cuts_dropAged hf) (fun x41 h40 => ?_)
          refine J_istore (ls' := [some (.ref v0), some (.ref v1), some (.ref v2), some (.ref v3), some (.int v4), some (.int x41), none, none]) (pc' := 106) ok (dOf dX3_apply 54 rfl) rfl (Nat.le_of_ble_eq_true rfl) rfl rfl ?_
          refine J_aload_n (pc' := 107) ok (dOf dX3_apply 55 rfl) rfl rfl rfl ?_
          refine J_dup (pc' := 108) ok (dOf dX3_apply 56 rfl) rfl rfl ?_
          refine J_getI (ci := 7) (kf := 6) (C := RX7) (T := TX7) (N := 7) (pc' := 111) ok (dOf dX3_apply 57 rfl) rfl (by decide) rfl (by decide) win_7 wfl_X3_172 (fun x42 => ?_)
          refine J_iload (pc' := 113) ok (dOf dX3_apply 58 rfl) rfl rfl ?_
          refine J_iadd (pc' := 114) ok (dOf dX3_apply 59 rfl) rfl ?_
          refine J_putI (ci := 7) (kf := 6) (C := RX7) (T := TX7) (N := 7) (pc' := 117) ok tyX7 (dOf dX3_apply 60 rfl) rfl rfl (by decide) win_7 tyX7_ok nmX7 rfl rfl wfl_X3_172 (fun h43 _ => ?_)
          refine J_aload_n (pc' := 118) ok (dOf dX3_apply 61 rfl) rfl rfl rfl ?_
          refine J_getR (ci := 3) (kf := 1) (C := RX3) (T := TX3) (N := 12) (pc' := 121) ok (dOf dX3_apply 62 rfl) rfl (by decide) rfl (by decide) win_3 wfl_X3_21 (fun a44 => ?_)
          refine J_aload_n (pc' := 122) ok (dOf dX3_apply 63 rfl) rfl rfl rfl ?_
          refine J_getR (ci := 3) (kf := 1) (C := RX3) (T := TX3) (N := 12) (pc' := 125) ok (dOf dX3_apply 64 rfl) rfl (by decide) rfl (by decide) win_3 wfl_X3_21 (fun a45 => ?_)
          refine J_getI (ci := 1) (kf := 0) (C := RX1) (T := TX1) (N := 3) (pc' := 128) ok (dOf dX3_apply 65 rfl) rfl (by decide) rfl (by decide) win_1 wfl_X3_175 (fun x46 => ?_)
          refine J_if_ne (tgt := 136) (pc' := 131) ok (dOf dX3_apply 66 rfl) rfl (by decide) ?_ ?_
          · exact Eng_apply_j136_J ok v0 v1 v2 v3 v4 x41 a44 h43
          · refine J_iload (pc' := 133) ok (dOf dX3_apply 67 rfl) rfl rfl ?_
            refine J_if_le (tgt := 140) (pc' := 136) ok (dOf dX3_apply 68 rfl) rfl (by decide) ?_ ?_
            · refine J_iconst (v := 0) (pc' := 141) ok (dOf dX3_apply 71 rfl) rfl (by decide) ?_
              exact Eng_apply_j141_J ok v0 v1 v2 v3 v4 x41 a44 0 h43
            · exact Eng_apply_j136_J ok v0 v1 v2 v3 v4 x41 a44 h43
    · refine J_iconst (v := 0) (pc' := 85) ok (dOf dX3_apply 44 rfl) rfl (by decide) ?_
      exact J_ireturn ok (dOf dX3_apply 45 rfl) rfl (Nat.le_refl 0) (Nat.le_refl 0)
  · refine J_iconst (v := 0) (pc' := 35) ok (dOf dX3_apply 18 rfl) rfl (by decide) ?_
    exact J_ireturn ok (dOf dX3_apply 19 rfl) rfl (Nat.le_refl 0) (Nat.le_refl 0)
-- X3_run
abbrev kEng_run : Cd := (yX3_run, cX3_run, 8, (some .int), 6, 151)
theorem dX3_run : dcheck cX3_run [(0, .iconst 0, 1), (1, .istore 6, 2), (3, .iconst 0, 1), (4, .istore 7, 2), (6, .iload 7, 2), (8, .iload 5, 2), (10, .if_icmp .ge 46, 3), (13, .aload_n 3, 1), (14, .getfield 39, 3), (17, .ifCond .ne 39, 3), (20, .aload_n 0, 1), (21, .aload_n 1, 1), (22, .aload_n 2, 1), (23, .aload_n 3, 1), (24, .aload 4, 2), (26, .invokevirtual 45, 3), (29, .ifCond .ne 6, 3), (32, .iload 6, 2), (34, .ireturn, 1), (35, .aload_n 0, 1), (36, .aload_n 1, 1), (37, .aload_n 2, 1), (38, .aload_n 3, 1), (39, .aload 4, 2), (41, .iconst 1, 1), (42, .iaload, 1), (43, .invokevirtual 49, 3), (46, .pop, 1), (47, .iinc 6 1, 3), (50, .iinc 7 1, 3), (53, .goto (-47), 3), (56, .iload 6, 2), (58, .ireturn, 1)] = true := by decide +kernel
theorem cw_Eng_run {k : Cd} (h1 : kEng_run.2.2.2.2.1 + 1 ≤ k.2.2.2.2.1) (h2 : 8 + (kEng_run.2.2.1 + 11) + kEng_run.2.2.2.2.2 ≤ k.2.2.2.2.2) : Cw k kEng_run 5 := ⟨wcode_X3_run, wini_SplitProgram_Engine, ⟨by decide, by decide, by decide +kernel⟩, h1, h2⟩
def Eng_run_b6 (v0 : Nat) (v1 : Nat) (v2 : Nat) (v3 : Nat) (v4 : Nat) (v5 : Int32) (s : Int32 × Int32 × AHeap) : Option ((Int32 × Int32 × AHeap) ⊕ ((Int32 × Int32 × AHeap) ⊕ (Int32 × Int32 × AHeap))) :=
  (if v5 ≤ s.2.1 then some (.inr (.inr (s.1, s.2.1, s.2.2))) else (gfI s.2.2 v3 7 0).bind fun x1 => (if ¬ x1 = 0 then some (.inr (.inr (s.1, s.2.1, s.2.2))) else (chk s.2.2 v0 3).bind fun _ => bnd2 (Eng_decide v0 v1 v2 v3 v4 s.2.2) fun x3 h2 => (if ¬ x3 = 0 then (ald 0 h2 v4 1).bind fun x4 => (chk h2 v0 3).bind fun _ => bnd2 (Eng_apply v0 v1 v2 v3 x4 h2) fun x6 h5 => some (.inl (s.1 + 1, s.2.1 + 1, h5)) else some (.inr (.inl (s.1, s.2.1, h2))))))
theorem Eng_run_b6_J {E : JE} {l : Launch} {G : GX} {r : Option Value} {h' : AHeap} (ok : JOK E l G kEng_run 0 0 r h') (v0 : Nat) (v1 : Nat) (v2 : Nat) (v3 : Nat) (v4 : Nat) (v5 : Int32) {Y : (Int32 × Int32 × AHeap) ⊕ ((Int32 × Int32 × AHeap) ⊕ (Int32 × Int32 × AHeap)) → Prop} (k1 : ∀ s' : Int32 × Int32 × AHeap, Y (.inl s') → JW E kEng_run 6 [some (.ref v0), some (.ref v1), some (.ref v2), some (.ref v3), some (.ref v4), some (.int v5), some (.int s'.1), some (.int s'.2.1)] [] s'.2.2 0 0) (kx32 : ∀ q : Int32 × Int32 × AHeap, Y (.inr (.inl q)) → JW E kEng_run 32 [some (.ref v0), some (.ref v1), some (.ref v2), some (.ref v3), some (.ref v4), some (.int v5), some (.int q.1), some (.int q.2.1)] [] q.2.2 0 0) (kx56 : ∀ q : Int32 × Int32 × AHeap, Y (.inr (.inr q)) → JW E kEng_run 56 [some (.ref v0), some (.ref v1), some (.ref v2), some (.ref v3), some (.ref v4), some (.int v5), some (.int q.1), some (.int q.2.1)] [] q.2.2 0 0) (s : Int32 × Int32 × AHeap) : J E kEng_run (Eng_run_b6 v0 v1 v2 v3 v4 v5 s) Y 6 [some (.ref v0), some (.ref v1), some (.ref v2), some (.ref v3), some (.ref v4), some (.int v5), some (.int s.1), some (.int s.2.1)] [] s.2.2 0 0 := by
  unfold Eng_run_b6
  refine J_iload (pc' := 8) ok (dOf dX3_run 4 rfl) rfl rfl ?_
  refine J_iload (pc' := 10) ok (dOf dX3_run 5 rfl) rfl rfl ?_
  refine J_icmp_ge (tgt := 56) (pc' := 13) ok (dOf dX3_run 6 rfl) rfl (by decide) ?_ ?_
  · exact J_fin (kx56 (s.1, s.2.1, s.2.2))
  · refine J_aload_n (pc' := 14) ok (dOf dX3_run 7 rfl) rfl rfl rfl ?_
    refine J_getI (ci := 7) (kf := 0) (C := RX7) (T := TX7) (N := 7) (pc' := 17) ok (dOf dX3_run 8 rfl) rfl (by decide) rfl (by decide) win_7 wfl_X3_39 (fun x1 => ?_)
    refine J_if_ne (tgt := 56) (pc' := 20) ok (dOf dX3_run 9 rfl) rfl (by decide) ?_ ?_
    · exact J_fin (kx56 (s.1, s.2.1, s.2.2))
    · refine J_aload_n (pc' := 21) ok (dOf dX3_run 10 rfl) rfl rfl rfl ?_
      refine J_aload_n (pc' := 22) ok (dOf dX3_run 11 rfl) rfl rfl rfl ?_
      refine J_aload_n (pc' := 23) ok (dOf dX3_run 12 rfl) rfl rfl rfl ?_
      refine J_aload_n (pc' := 24) ok (dOf dX3_run 13 rfl) rfl rfl rfl ?_
      refine J_aload (pc' := 26) ok (dOf dX3_run 14 rfl) rfl rfl ?_
      refine J_callVi (k2 := kEng_decide) (ci := 3) (T := TX3) (N := 12) (as := [.ref v1, .ref v2, .ref v3, .ref v4]) (pc' := 29) ok (dOf dX3_run 15 rfl) rfl (cw_Eng_decide (by decide) (by decide)) wml_X3_45 winst_X3_decide wsel_X3_decide rfl ⟨Nat.le_refl 0, Nat.le_refl 0⟩ (Nat.le_of_ble_eq_true rfl) rfl (fun _ _ hf => t_Eng_decide hf) (fun x3 h2 => ?_)
      refine J_if_ne (tgt := 35) (pc' := 32) ok (dOf dX3_run 16 rfl) rfl (by decide) ?_ ?_
      · refine J_aload_n (pc' := 36) ok (dOf dX3_run 19 rfl) rfl rfl rfl ?_
        refine J_aload_n (pc' := 37) ok (dOf dX3_run 20 rfl) rfl rfl rfl ?_
        refine J_aload_n (pc' := 38) ok (dOf dX3_run 21 rfl) rfl rfl rfl ?_
        refine J_aload_n (pc' := 39) ok (dOf dX3_run 22 rfl) rfl rfl rfl ?_
        refine J_aload (pc' := 41) ok (dOf dX3_run 23 rfl) rfl rfl ?_
        refine J_iconst (v := 1) (pc' := 42) ok (dOf dX3_run 24 rfl) rfl (by decide) ?_
        refine J_iald (pc' := 43) ok (dOf dX3_run 25 rfl) rfl (fun x4 => ?_)
        refine J_callVi (k2 := kEng_apply) (ci := 3) (T := TX3) (N := 12) (as := [.ref v1, .ref v2, .ref v3, .int x4]) (pc' := 46) ok (dOf dX3_run 26 rfl) rfl (cw_Eng_apply (by decide) (by decide)) wml_X3_49 winst_X3_apply wsel_X3_apply rfl ⟨Nat.le_refl 0, Nat.le_refl 0⟩ (Nat.le_of_ble_eq_true rfl) rfl (fun _ _ hf => t_Eng_apply hf) (fun x6 h5 => ?_)
        refine J_pop (pc' := 47) ok (dOf dX3_run 27 rfl) rfl rfl ?_
        refine J_iinc (v := s.1 + 1) (ls' := [some (.ref v0), some (.ref v1), some (.ref v2), some (.ref v3), some (.ref v4), some (.int v5), some (.int (s.1 + 1)), some (.int s.2.1)]) (pc' := 50) ok (dOf dX3_run 28 rfl) rfl rfl (by rfl) (Nat.le_of_ble_eq_true rfl) rfl rfl ?_
        refine J_iinc (v := s.2.1 + 1) (ls' := [some (.ref v0), some (.ref v1), some (.ref v2), some (.ref v3), some (.ref v4), some (.int v5), some (.int (s.1 + 1)), some (.int (s.2.1 + 1))]) (pc' := 53) ok (dOf dX3_run 29 rfl) rfl rfl (by rfl) (Nat.le_of_ble_eq_true rfl) rfl rfl ?_
        refine J_goto (tgt := 6) ok (dOf dX3_run 30 rfl) (by decide) ?_
        exact J_fin (k1 (s.1 + 1, s.2.1 + 1, h5))
      · exact J_fin (kx32 (s.1, s.2.1, h2))
def Eng_run_j32 (v0 : Nat) (v1 : Nat) (v2 : Nat) (v3 : Nat) (v4 : Nat) (v5 : Int32) (v6 : Int32) (v7 : Int32) (h : AHeap) : Option (Int32 × AHeap) :=
  some (v6, h)
theorem Eng_run_j32_J {E : JE} {l : Launch} {G : GX} {v : Int32} {h' : AHeap} (ok : JOK E l G kEng_run 0 0 (some (.int v)) h') (v0 : Nat) (v1 : Nat) (v2 : Nat) (v3 : Nat) (v4 : Nat) (v5 : Int32) (v6 : Int32) (v7 : Int32) (h : AHeap) : J E kEng_run (Eng_run_j32 v0 v1 v2 v3 v4 v5 v6 v7 h) (fun z => z = (v, h')) 32 [some (.ref v0), some (.ref v1), some (.ref v2), some (.ref v3), some (.ref v4), some (.int v5), some (.int v6), some (.int v7)] [] h 0 0 := by
  unfold Eng_run_j32
  refine J_iload (pc' := 34) ok (dOf dX3_run 17 rfl) rfl rfl ?_
  exact J_ireturn ok (dOf dX3_run 18 rfl) rfl (Nat.le_refl 0) (Nat.le_refl 0)
def Eng_run_j56 (v0 : Nat) (v1 : Nat) (v2 : Nat) (v3 : Nat) (v4 : Nat) (v5 : Int32) (v6 : Int32) (v7 : Int32) (h : AHeap) : Option (Int32 × AHeap) :=
  some (v6, h)
theorem Eng_run_j56_J {E : JE} {l : Launch} {G : GX} {v : Int32} {h' : AHeap} (ok : JOK E l G kEng_run 0 0 (some (.int v)) h') (v0 : Nat) (v1 : Nat) (v2 : Nat) (v3 : Nat) (v4 : Nat) (v5 : Int32) (v6 : Int32) (v7 : Int32) (h : AHeap) : J E kEng_run (Eng_run_j56 v0 v1 v2 v3 v4 v5 v6 v7 h) (fun z => z = (v, h')) 56 [some (.ref v0), some (.ref v1), some (.ref v2), some (.ref v3), some (.ref v4), some (.int v5), some (.int v6), some (.int v7)] [] h 0 0 := by
  unfold Eng_run_j56
  refine J_iload (pc' := 58) ok (dOf dX3_run 31 rfl) rfl rfl ?_
  exact J_ireturn ok (dOf dX3_run 32 rfl) rfl (Nat.le_refl 0) (Nat.le_refl 0)
def Eng_run (v0 : Nat) (v1 : Nat) (v2 : Nat) (v3 : Nat) (v4 : Nat) (v5 : Int32) (h : AHeap) : Option (Int32 × AHeap) :=
  (iter (Eng_run_b6 v0 v1 v2 v3 v4 v5) Lmax (0, 0, h)).bind (Sum.elim (fun q6 => Eng_run_j32 v0 v1 v2 v3 v4 v5 q6.1 q6.2.1 q6.2.2) (fun q6 => Eng_run_j56 v0 v1 v2 v3 v4 v5 q6.1 q6.2.1 q6.2.2))
theorem t_Eng_run {l : Launch} {G : GX} {v0 : Nat} {v1 : Nat} {v2 : Nat} {v3 : Nat} {v4 : Nat} {v5 : Int32} {h : AHeap} {v : Int32} {h1 : AHeap} (hf : Eng_run v0 v1 v2 v3 v4 v5 h = some (v, h1)) : CT l G kEng_run 0 0 [.ref v0, .ref v1, .ref v2, .ref v3, .ref v4, .int v5] h (some (.int v)) h1 := by
  refine CT_of (ls := [some (.ref v0), some (.ref v1), some (.ref v2), some (.ref v3), some (.ref v4), some (.int v5), none, none]) (Z := fun z => z = (v, h1)) (by decide +kernel) (Nat.le_of_ble_eq_true rfl) hf rfl ⟨rfl, rfl, rfl, rfl, rfl, rfl, trivial⟩ (fun E ok => ?_)
  unfold Eng_run
  refine J_iconst (v := 0) (pc' := 1) ok (dOf dX3_run 0 rfl) rfl (by decide) ?_
  refine J_istore (ls' := [some (.ref v0), some (.ref v1), some (.ref v2), some (.ref v3), some (.ref v4), some (.int v5), some (.int 0), none]) (pc' := 3) ok (dOf dX3_run 1 rfl) rfl (Nat.le_of_ble_eq_true rfl) rfl rfl ?_
  refine J_iconst (v := 0) (pc' := 4) ok (dOf dX3_run 2 rfl) rfl (by decide) ?_
  refine J_istore (ls' := [some (.ref v0), some (.ref v1), some (.ref v2), some (.ref v3), some (.ref v4), some (.int v5), some (.int 0), some (.int 0)]) (pc' := 6) ok (dOf dX3_run 3 rfl) rfl (Nat.le_of_ble_eq_true rfl) rfl rfl ?_
  refine J_iter (lf := fun z6 => [some (.ref v0), some (.ref v1), some (.ref v2), some (.ref v3), some (.ref v4), some (.int v5), some (.int z6.1), some (.int z6.2.1)]) (sf := fun _ => []) (hf := fun z6 => z6.2.2) (px := (Sum.elim (fun q6 => 32) (fun q6 => 56))) (lx := (Sum.elim (fun q6 => [some (.ref v0), some (.ref v1), some (.ref v2), some (.ref v3), some (.ref v4), some (.int v5), some (.int q6.1), some (.int q6.2.1)]) (fun q6 => [some (.ref v0), some (.ref v1), some (.ref v2), some (.ref v3), some (.ref v4), some (.int v5), some (.int q6.1), some (.int q6.2.1)]))) (sx := (Sum.elim (fun q6 => []) (fun q6 => []))) (hx := (Sum.elim (fun q6 => q6.2.2) (fun q6 => q6.2.2))) (fun Y2 z6 m1 m2 => Eng_run_b6_J ok v0 v1 v2 v3 v4 v5 m1 (fun q hq => m2 (.inl q) hq) (fun q hq => m2 (.inr q) hq) z6) (fun q6 => ?_) Lmax _
  rcases q6 with q6 | q6
  · show J E kEng_run (Eng_run_j32 v0 v1 v2 v3 v4 v5 q6.1 q6.2.1 q6.2.2) _ 32 [some (.ref v0), some (.ref v1), some (.ref v2), some (.ref v3), some (.ref v4), some (.int v5), some (.int q6.1), some (.int q6.2.1)] [] q6.2.2 0 0
    exact Eng_run_j32_J ok v0 v1 v2 v3 v4 v5 q6.1 q6.2.1 q6.2.2
  · show J E kEng_run (Eng_run_j56 v0 v1 v2 v3 v4 v5 q6.1 q6.2.1 q6.2.2) _ 56 [some (.ref v0), some (.ref v1), some (.ref v2), some (.ref v3), some (.ref v4), some (.int v5), some (.int q6.1), some (.int q6.2.1)] [] q6.2.2 0 0
    exact Eng_run_j56_J ok v0 v1 v2 v3 v4 v5 q6.1 q6.2.1 q6.2.2
-- X10_would
abbrev kSp_would : Cd := (yX10_would, cX10_would, 4, (some .int), 7, 178)
theorem dX10_would : dcheck cX10_would [(0, .iload_n 1, 1), (1, .getstatic 85, 3), (4, .iconst 0, 1), (5, .iaload, 1), (6, .if_icmp .lt 12, 3), (9, .iload_n 1, 1), (10, .getstatic 88, 3), (13, .iconst 0, 1), (14, .iaload, 1), (15, .if_icmp .le 5, 3), (18, .iconst (-1), 1), (19, .ireturn, 1), (20, .iload_n 2, 1), (21, .getstatic 85, 3), (24, .iconst 1, 1), (25, .iaload, 1), (26, .if_icmp .lt 12, 3), (29, .iload_n 2, 1), (30, .getstatic 88, 3), (33, .iconst 1, 1), (34, .iaload, 1), (35, .if_icmp .le 5, 3), (38, .iconst (-1), 1), (39, .ireturn, 1), (40, .aload_n 0, 1), (41, .getfield 75, 3), (44, .iconst 0, 1), (45, .iload_n 1, 1), (46, .iastore, 1), (47, .aload_n 0, 1), (48, .getfield 75, 3), (51, .iconst 1, 1), (52, .iload_n 2, 1), (53, .iastore, 1), (54, .aload_n 0, 1), (55, .getfield 75, 3), (58, .iconst 2, 1), (59, .iconst 0, 1), (60, .iastore, 1), (61, .aload_n 0, 1), (62, .getfield 75, 3), (65, .iconst 3, 1), (66, .bipush 99, 2), (68, .iastore, 1), (69, .aload_n 0, 1), (70, .getfield 64, 3), (73, .iconst 0, 1), (74, .putfield 123, 3), (77, .aload_n 0, 1), (78, .getfield 71, 3), (81, .invokevirtual 205, 3), (84, .aload_n 0, 1), (85, .getfield 23, 3), (88, .getfield 208, 3), (91, .iconst 1, 1), (92, .putfield 212, 3), (95, .aload_n 0, 1), (96, .getfield 23, 3), (99, .aload_n 0, 1), (100, .getfield 10, 3), (103, .getfield 113, 3), (106, .aload_n 0, 1), (107, .getfield 64, 3), (110, .aload_n 0, 1), (111, .getfield 71, 3), (114, .aload_n 0, 1), (115, .getfield 75, 3), (118, .bipush 99, 2), (120, .invokevirtual 201, 3), (123, .istore_n 3, 1), (124, .aload_n 0, 1), (125, .getfield 23, 3), (128, .getfield 208, 3), (131, .iconst 1, 1), (132, .putfield 212, 3), (135, .aload_n 0, 1), (136, .getfield 71, 3), (139, .getfield 190, 3), (142, .ifCond .eq 7, 3), (145, .iload_n 3, 1), (146, .goto 4, 3), (149, .iconst (-1), 1), (150, .ireturn, 1)] = true := by decide +kernel
theorem cw_Sp_would {k : Cd} (h1 : kSp_would.2.2.2.2.1 + 1 ≤ k.2.2.2.2.1) (h2 : 8 + (kSp_would.2.2.1 + 11) + kSp_would.2.2.2.2.2 ≤ k.2.2.2.2.2) : Cw k kSp_would 2 := ⟨wcode_X10_would, wini_SplitProgram, ⟨by decide, by decide, by decide +kernel⟩, h1, h2⟩
def Sp_would_j18 (v0 : Nat) (v1 : Int32) (v2 : Int32) (h : AHeap) : Option (Int32 × AHeap) :=
  some ((-1), h)
theorem Sp_would_j18_J {E : JE} {l : Launch} {G : GX} {v : Int32} {h' : AHeap} (ok : JOK E l G kSp_would 0 0 (some (.int v)) h') (v0 : Nat) (v1 : Int32) (v2 : Int32) (h : AHeap) : J E kSp_would (Sp_would_j18 v0 v1 v2 h) (fun z => z = (v, h')) 18 [some (.ref v0), some (.int v1), some (.int v2), none] [] h 0 0 := by
  unfold Sp_would_j18
  refine J_iconst (v := (-1)) (pc' := 19) ok (dOf dX10_would 10 rfl) rfl (by decide) ?_
  exact J_ireturn ok (dOf dX10_would 11 rfl) rfl (Nat.le_refl 0) (Nat.le_refl 0)
def Sp_would_j38 (v0 : Nat) (v1 : Int32) (v2 : Int32) (h : AHeap) : Option (Int32 × AHeap) :=
  some ((-1), h)
theorem Sp_would_j38_J {E : JE} {l : Launch} {G : GX} {v : Int32} {h' : AHeap} (ok : JOK E l G kSp_would 0 0 (some (.int v)) h') (v0 : Nat) (v1 : Int32) (v2 : Int32) (h : AHeap) : J E kSp_would (Sp_would_j38 v0 v1 v2 h) (fun z => z = (v, h')) 38 [some (.ref v0), some (.int v1), some (.int v2), none] [] h 0 0 := by
  unfold Sp_would_j38
  refine J_iconst (v := (-1)) (pc' := 39) ok (dOf dX10_would 22 rfl) rfl (by decide) ?_
  exact J_ireturn ok (dOf dX10_would 23 rfl) rfl (Nat.le_refl 0) (Nat.le_refl 0)
def Sp_would_j150 (v0 : Nat) (v1 : Int32) (v2 : Int32) (v3 : Int32) (t0 : Int32) (h : AHeap) : Option (Int32 × AHeap) :=
  some (t0, h)
theorem Sp_would_j150_J {E : JE} {l : Launch} {G : GX} {v : Int32} {h' : AHeap} (ok : JOK E l G kSp_would 0 0 (some (.int v)) h') (v0 : Nat) (v1 : Int32) (v2 : Int32) (v3 : Int32) (t0 : Int32) (h : AHeap) : J E kSp_would (Sp_would_j150 v0 v1 v2 v3 t0 h) (fun z => z = (v, h')) 150 [some (.ref v0), some (.int v1), some (.int v2), some (.int v3)] [.int t0] h 0 0 := by
  unfold Sp_would_j150
  exact J_ireturn ok (dOf dX10_would 82 rfl) rfl (Nat.le_refl 0) (Nat.le_refl 0)
def Sp_would (v0 : Nat) (v1 : Int32) (v2 : Int32) (h : AHeap) : Option (Int32 × AHeap) :=
  (ald 0 h (FB + 0) 0).bind fun x1 => (if v1 < x1 then Sp_would_j18 v0 v1 v2 h else (ald 0 h (FB + 1) 0).bind fun x2 => (if v1 ≤ x2 then (ald 0 h (FB + 0) 1).bind fun x3 => (if v2 < x3 then Sp_would_j38 v0 v1 v2 h else (ald 0 h (FB + 1) 1).bind fun x4 => (if v2 ≤ x4 then (gfR h v0 10 11).bind fun a5 => (ast 0 h a5 0 v1).bind fun h6 => (gfR h6 v0 10 11).bind fun a7 => (ast 0 h6 a7 1 v2).bind fun h8 => (gfR h8 v0 10 11).bind fun a9 => (ast 0 h8 a9 2 0).bind fun h10 => (gfR h10 v0 10 11).bind fun a11 => (ast 0 h10 a11 3 99).bind fun h12 => (gfR h12 v0 10 9).bind fun a13 => (pfV h12 a13 2 1 (.int 0)).bind fun h14 => (gfR h14 v0 10 10).bind fun a15 => (chk h14 a15 7).bind fun _ => bnd2 (Srch_reset a15 h14) fun _ h16 => (gfR h16 v0 10 2).bind fun a17 => (gfR h16 a17 3 1).bind fun a18 => (bz 1).bind fun x20 => (pfV h16 a18 1 0 (.int x20)).bind fun h19 => (gfR h19 v0 10 2).bind fun a21 => (gfR h19 v0 10 0).bind fun a22 => (gfR h19 a22 8 0).bind fun a23 => (gfR h19 v0 10 9).bind fun a24 => (gfR h19 v0 10 10).bind fun a25 => (gfR h19 v0 10 11).bind fun a26 => (chk h19 a21 3).bind fun _ => bnd2 (Eng_run a21 a23 a24 a25 a26 99 h19) fun x28 h27 => (gfR h27 v0 10 2).bind fun a29 => (gfR h27 a29 3 1).bind fun a30 => (bz 1).bind fun x32 => (pfV h27 a30 1 0 (.int x32)).bind fun h31 => (gfR h31 v0 10 10).bind fun a33 => (gfI h31 a33 7 0).bind fun x34 => (if x34 = 0 then Sp_would_j150 v0 v1 v2 x28 (-1) h31 else Sp_would_j150 v0 v1 v2 x28 x28 h31) else Sp_would_j38 v0 v1 v2 h)) else Sp_would_j18 v0 v1 v2 h))
theorem t_Sp_would {l : Launch} {G : GX} {v0 : Nat} {v1 : Int32} {v2 : Int32} {h : AHeap} {v : Int32} {h1 : AHeap} (hf : Sp_would v0 v1 v2 h = some (v, h1)) : CT l G kSp_would 0 0 [.ref v0, .int v1, .int v2] h (some (.int v)) h1 := by
  refine CT_of (ls := [some (.ref v0), some (.int v1), some (.int v2), none]) (Z := fun z => z = (v, h1)) (by decide +kernel) (Nat.le_of_ble_eq_true rfl) hf rfl ⟨rfl, rfl, rfl, trivial⟩ (fun E ok => ?_)
  unfold Sp_would
  refine J_iload_n (pc' := 1) ok (dOf dX10_would 0 rfl) rfl rfl rfl ?_
  refine J_gsLow (pc' := 4) ok (dOf dX10_would 1 rfl) rfl wfl_X10_85 ?_
  refine J_iconst (v := 0) (pc' := 5) ok (dOf dX10_would 2 rfl) rfl (by decide) ?_
  refine J_iald (pc' := 6) ok (dOf dX10_would 3 rfl) rfl (fun x1 => ?_)
  refine J_icmp_lt (tgt := 18) (pc' := 9) ok (dOf dX10_would 4 rfl) rfl (by decide) ?_ ?_
  · exact Sp_would_j18_J ok v0 v1 v2 h
  · refine J_iload_n (pc' := 10) ok (dOf dX10_would 5 rfl) rfl rfl rfl ?_
    refine J_gsHigh (pc' := 13) ok (dOf dX10_would 6 rfl) rfl wfl_X10_88 ?_
    refine J_iconst (v := 0) (pc' := 14) ok (dOf dX10_would 7 rfl) rfl (by decide) ?_
    refine J_iald (pc' := 15) ok (dOf dX10_would 8 rfl) rfl (fun x2 => ?_)
    refine J_icmp_le (tgt := 20) (pc' := 18) ok (dOf dX10_would 9 rfl) rfl (by decide) ?_ ?_
    · refine J_iload_n (pc' := 21) ok (dOf dX10_would 12 rfl) rfl rfl rfl ?_
      refine J_gsLow (pc' := 24) ok (dOf dX10_would 13 rfl) rfl wfl_X10_85 ?_
      refine J_iconst (v := 1) (pc' := 25) ok (dOf dX10_would 14 rfl) rfl (by decide) ?_
      refine J_iald (pc' := 26) ok (dOf dX10_would 15 rfl) rfl (fun x3 => ?_)
      refine J_icmp_lt (tgt := 38) (pc' := 29) ok (dOf dX10_would 16 rfl) rfl (by decide) ?_ ?_
      · exact Sp_would_j38_J ok v0 v1 v2 h
      · refine J_iload_n (pc' := 30) ok (dOf dX10_would 17 rfl) rfl rfl rfl ?_
        refine J_gsHigh (pc' := 33) ok (dOf dX10_would 18 rfl) rfl wfl_X10_88 ?_
        refine J_iconst (v := 1) (pc' := 34) ok (dOf dX10_would 19 rfl) rfl (by decide) ?_
        refine J_iald (pc' := 35) ok (dOf dX10_would 20 rfl) rfl (fun x4 => ?_)
        refine J_icmp_le (tgt := 40) (pc' := 38) ok (dOf dX10_would 21 rfl) rfl (by decide) ?_ ?_
        · refine J_aload_n (pc' := 41) ok (dOf dX10_would 24 rfl) rfl rfl rfl ?_
          refine J_getR (ci := 10) (kf := 11) (C := RX10) (T := TX10) (N := 14) (pc' := 44) ok (dOf dX10_would 25 rfl) rfl (by decide) rfl (by decide) win_10 wfl_X10_75 (fun a5 => ?_)
          refine J_iconst (v := 0) (pc' := 45) ok (dOf dX10_would 26 rfl) rfl (by decide) ?_
          refine J_iload_n (pc' := 46) ok (dOf dX10_would 27 rfl) rfl rfl rfl ?_
          refine J_iast (pc' := 47) ok (dOf dX10_would 28 rfl) rfl (fun h6 _ => ?_)
          refine J_aload_n (pc' := 48) ok (dOf dX10_would 29 rfl) rfl rfl rfl ?_
          refine J_getR (ci := 10) (kf := 11) (C := RX10) (T := TX10) (N := 14) (pc' := 51) ok (dOf dX10_would 30 rfl) rfl (by decide) rfl (by decide) win_10 wfl_X10_75 (fun a7 => ?_)
          refine J_iconst (v := 1) (pc' := 52) ok (dOf dX10_would 31 rfl) rfl (by decide) ?_
          refine J_iload_n (pc' := 53) ok (dOf dX10_would 32 rfl) rfl rfl rfl ?_
          refine J_iast (pc' := 54) ok (dOf dX10_would 33 rfl) rfl (fun h8 _ => ?_)
          refine J_aload_n (pc' := 55) ok (dOf dX10_would 34 rfl) rfl rfl rfl ?_
          refine J_getR (ci := 10) (kf := 11) (C := RX10) (T := TX10) (N := 14) (pc' := 58) ok (dOf dX10_would 35 rfl) rfl (by decide) rfl (by decide) win_10 wfl_X10_75 (fun a9 => ?_)
          refine J_iconst (v := 2) (pc' := 59) ok (dOf dX10_would 36 rfl) rfl (by decide) ?_
          refine J_iconst (v := 0) (pc' := 60) ok (dOf dX10_would 37 rfl) rfl (by decide) ?_
          refine J_iast (pc' := 61) ok (dOf dX10_would 38 rfl) rfl (fun h10 _ => ?_)
          refine J_aload_n (pc' := 62) ok (dOf dX10_would 39 rfl) rfl rfl rfl ?_
          refine J_getR (ci := 10) (kf := 11) (C := RX10) (T := TX10) (N := 14) (pc' := 65) ok (dOf dX10_would 40 rfl) rfl (by decide) rfl (by decide) win_10 wfl_X10_75 (fun a11 => ?_)
          refine J_iconst (v := 3) (pc' := 66) ok (dOf dX10_would 41 rfl) rfl (by decide) ?_
          refine J_bipush (v := 99) (pc' := 68) ok (dOf dX10_would 42 rfl) rfl (by decide) ?_
          refine J_iast (pc' := 69) ok (dOf dX10_would 43 rfl) rfl (fun h12 _ => ?_)
          refine J_aload_n (pc' := 70) ok (dOf dX10_would 44 rfl) rfl rfl rfl ?_
          refine J_getR (ci := 10) (kf := 9) (C := RX10) (T := TX10) (N := 14) (pc' := 73) ok (dOf dX10_would 45 rfl) rfl (by decide) rfl (by decide) win_10 wfl_X10_64 (fun a13 => ?_)
          refine J_iconst (v := 0) (pc' := 74) ok (dOf dX10_would 46 rfl) rfl (by decide) ?_
          refine J_putI (ci := 2) (kf := 1) (C := RX2) (T := TX2) (N := 7) (pc' := 77) ok tyX2 (dOf dX10_would 47 rfl) rfl rfl (by decide) win_2 tyX2_ok nmX2 rfl rfl wfl_X10_123 (fun h14 _ => ?_)
          refine J_aload_n (pc' := 78) ok (dOf dX10_would 48 rfl) rfl rfl rfl ?_
          refine J_getR (ci := 10) (kf := 10) (C := RX10) (T := TX10) (N := 14) (pc' := 81) ok (dOf dX10_would 49 rfl) rfl (by decide) rfl (by decide) win_10 wfl_X10_71 (fun a15 => ?_)
          refine J_callVv (k2 := kSrch_reset) (ci := 7) (T := TX7) (N := 7) (as := []) (pc' := 84) ok (dOf dX10_would 50 rfl) rfl (cw_Srch_reset (by decide) (by decide)) wml_X10_205 winst_X7_reset wsel_X7_reset rfl ⟨Nat.le_refl 0, Nat.le_refl 0⟩ (Nat.le_of_ble_eq_true rfl) rfl (fun _ _ hf => t_Srch_reset hf) (fun _ h16 => ?_)
          refine J_aload_n (pc' := 85) ok (dOf dX10_would 51 rfl) rfl rfl rfl ?_
          refine J_getR (ci := 10) (kf := 2) (C := RX10) (T := TX10) (N := 14) (pc' := 88) ok (dOf dX10_would 52 rfl) rfl (by decide) rfl (by decide) win_10 wfl_X10_23 (fun a17 => ?_)
          refine J_getR (ci := 3) (kf := 1) (C := RX3) (T := TX3) (N := 12) (pc' := 91) ok (dOf dX10_would 53 rfl) rfl (by decide) rfl (by decide) win_3 wfl_X10_208 (fun a18 => ?_)
          refine J_iconst (v := 1) (pc' := 92) ok (dOf dX10_would 54 rfl) rfl (by decide) ?_
          refine J_putZ (ci := 1) (kf := 0) (C := RX1) (T := TX1) (N := 3) (pc' := 95) ok tyX1 (dOf dX10_would 55 rfl) rfl rfl (by decide) win_1 tyX1_ok nmX1 rfl rfl wfl_X10_212 (fun h19 _ => ?_)
          refine J_aload_n (pc' := 96) ok (dOf dX10_would 56 rfl) rfl rfl rfl ?_
          refine J_getR (ci := 10) (kf := 2) (C := RX10) (T := TX10) (N := 14) (pc' := 99) ok (dOf dX10_would 57 rfl) rfl (by decide) rfl (by decide) win_10 wfl_X10_23 (fun a21 => ?_)
          refine J_aload_n (pc' := 100) ok (dOf dX10_would 58 rfl) rfl rfl rfl ?_
          refine J_getR (ci := 10) (kf := 0) (C := RX10) (T := TX10) (N := 14) (pc' := 103) ok (dOf dX10_would 59 rfl) rfl (by decide) rfl (by decide) win_10 wfl_X10_10 (fun a22 => ?_)
          refine J_getR (ci := 8) (kf := 0) (C := RX8) (T := TX8) (N := 3) (pc' := 106) ok (dOf dX10_would 60 rfl) rfl (by decide) rfl (by decide) win_8 wfl_X10_113 (fun a23 => ?_)
          refine J_aload_n (pc' := 107) ok (dOf dX10_would 61 rfl) rfl rfl rfl ?_
          refine J_getR (ci := 10) (kf := 9) (C := RX10) (T := TX10) (N := 14) (pc' := 110) ok (dOf dX10_would 62 rfl) rfl (by decide) rfl (by decide) win_10 wfl_X10_64 (fun a24 => ?_)
          refine J_aload_n (pc' := 111) ok (dOf dX10_would 63 rfl) rfl rfl rfl ?_
          refine J_getR (ci := 10) (kf := 10) (C := RX10) (T := TX10) (N := 14) (pc' := 114) ok (dOf dX10_would 64 rfl) rfl (by decide) rfl (by decide) win_10 wfl_X10_71 (fun a25 => ?_)
          refine J_aload_n (pc' := 115) ok (dOf dX10_would 65 rfl) rfl rfl rfl ?_
          refine J_getR (ci := 10) (kf := 11) (C := RX10) (T := TX10) (N := 14) (pc' := 118) ok (dOf dX10_would 66 rfl) rfl (by decide) rfl (by decide) win_10 wfl_X10_75 (fun a26 => ?_)
          refine J_bipush (v := 99) (pc' := 120) ok (dOf dX10_would 67 rfl) rfl (by decide) ?_
          refine J_callVi (k2 := kEng_run) (ci := 3) (T := TX3) (N := 12) (as := [.ref a23, .ref a24, .ref a25, .ref a26, .int 99]) (pc' := 123) ok (dOf dX10_would 68 rfl) rfl (cw_Eng_run (by decide) (by decide)) wml_X10_201 winst_X3_run wsel_X3_run rfl ⟨Nat.le_refl 0, Nat.le_refl 0⟩ (Nat.le_of_ble_eq_true rfl) rfl (fun _ _ hf => t_Eng_run hf) (fun x28 h27 => ?_)
          refine J_istore_n (ls' := [some (.ref v0), some (.int v1), some (.int v2), some (.int x28)]) (pc' := 124) ok (dOf dX10_would 69 rfl) rfl rfl (Nat.le_of_ble_eq_true rfl) rfl rfl ?_
          refine J_aload_n (pc' := 125) ok (dOf dX10_would 70 rfl) rfl rfl rfl ?_
          refine J_getR (ci := 10) (kf := 2) (C := RX10) (T := TX10) (N := 14) (pc' := 128) ok (dOf dX10_would 71 rfl) rfl (by decide) rfl (by decide) win_10 wfl_X10_23 (fun a29 => ?_)
          refine J_getR (ci := 3) (kf := 1) (C := RX3) (T := TX3) (N := 12) (pc' := 131) ok (dOf dX10_would 72 rfl) rfl (by decide) rfl (by decide) win_3 wfl_X10_208 (fun a30 => ?_)
          refine J_iconst (v := 1) (pc' := 132) ok (dOf dX10_would 73 rfl) rfl (by decide) ?_
          refine J_putZ (ci := 1) (kf := 0) (C := RX1) (T := TX1) (N := 3) (pc' := 135) ok tyX1 (dOf dX10_would 74 rfl) rfl rfl (by decide) win_1 tyX1_ok nmX1 rfl rfl wfl_X10_212 (fun h31 _ => ?_)
          refine J_aload_n (pc' := 136) ok (dOf dX10_would 75 rfl) rfl rfl rfl ?_
          refine J_getR (ci := 10) (kf := 10) (C := RX10) (T := TX10) (N := 14) (pc' := 139) ok (dOf dX10_would 76 rfl) rfl (by decide) rfl (by decide) win_10 wfl_X10_71 (fun a33 => ?_)
          refine J_getI (ci := 7) (kf := 0) (C := RX7) (T := TX7) (N := 7) (pc' := 142) ok (dOf dX10_would 77 rfl) rfl (by decide) rfl (by decide) win_7 wfl_X10_190 (fun x34 => ?_)
          refine J_if_eq (tgt := 149) (pc' := 145) ok (dOf dX10_would 78 rfl) rfl (by decide) ?_ ?_
          · refine J_iconst (v := (-1)) (pc' := 150) ok (dOf dX10_would 81 rfl) rfl (by decide) ?_
            exact Sp_would_j150_J ok v0 v1 v2 x28 (-1) h31
          · refine J_iload_n (pc' := 146) ok (dOf dX10_would 79 rfl) rfl rfl rfl ?_
            refine J_goto (tgt := 150) ok (dOf dX10_would 80 rfl) (by decide) ?_
            exact Sp_would_j150_J ok v0 v1 v2 x28 x28 h31
        · exact Sp_would_j38_J ok v0 v1 v2 h
    · exact Sp_would_j18_J ok v0 v1 v2 h
-- X10_refuse
abbrev kSp_refuse : Cd := (yX10_refuse, cX10_refuse, 3, (some .int), 0, 0)
theorem dX10_refuse : dcheck cX10_refuse [(0, .iconst (-1), 1), (1, .iload_n 1, 1), (2, .isub, 1), (3, .istore_n 2, 1), (4, .iload_n 2, 1), (5, .ifCond .lt 19, 3), (8, .iload_n 2, 1), (9, .bipush 6, 2), (11, .if_icmp .ge 13, 3), (14, .aload_n 0, 1), (15, .getfield 78, 3), (18, .iload_n 2, 1), (19, .dup2, 1), (20, .iaload, 1), (21, .iconst 1, 1), (22, .iadd, 1), (23, .iastore, 1), (24, .aload_n 0, 1), (25, .iload_n 1, 1), (26, .putfield 351, 3), (29, .iload_n 1, 1), (30, .ireturn, 1)] = true := by decide +kernel
theorem cw_Sp_refuse {k : Cd} (h1 : kSp_refuse.2.2.2.2.1 + 1 ≤ k.2.2.2.2.1) (h2 : 8 + (kSp_refuse.2.2.1 + 11) + kSp_refuse.2.2.2.2.2 ≤ k.2.2.2.2.2) : Cw k kSp_refuse 1 := ⟨wcode_X10_refuse, wini_SplitProgram, ⟨by decide, by decide, by decide +kernel⟩, h1, h2⟩
def Sp_refuse_j24 (v0 : Nat) (v1 : Int32) (v2 : Int32) (h : AHeap) : Option (Int32 × AHeap) :=
  (pfV h v0 10 13 (.int v1)).bind fun h1 => some (v1, h1)
theorem Sp_refuse_j24_J {E : JE} {l : Launch} {G : GX} {v : Int32} {h' : AHeap} (ok : JOK E l G kSp_refuse 0 0 (some (.int v)) h') (v0 : Nat) (v1 : Int32) (v2 : Int32) (h : AHeap) : J E kSp_refuse (Sp_refuse_j24 v0 v1 v2 h) (fun z => z = (v, h')) 24 [some (.ref v0), some (.int v1), some (.int v2)] [] h 0 0 := by
  unfold Sp_refuse_j24
  refine J_aload_n (pc' := 25) ok (dOf dX10_refuse 17 rfl) rfl rfl rfl ?_
  refine J_iload_n (pc' := 26) ok (dOf dX10_refuse 18 rfl) rfl rfl rfl ?_
  refine J_putI (ci := 10) (kf := 13) (C := RX10) (T := TX10) (N := 14) (pc' := 29) ok tyX10 (dOf dX10_refuse 19 rfl) rfl rfl (by decide) win_10 tyX10_ok nmX10 rfl rfl wfl_X10_351 (fun h1 _ => ?_)
  refine J_iload_n (pc' := 30) ok (dOf dX10_refuse 20 rfl) rfl rfl rfl ?_
  exact J_ireturn ok (dOf dX10_refuse 21 rfl) rfl (Nat.le_refl 0) (Nat.le_refl 0)
def Sp_refuse (v0 : Nat) (v1 : Int32) (h : AHeap) : Option (Int32 × AHeap) :=
  (if ((-1) - v1) < 0 then Sp_refuse_j24 v0 v1 ((-1) - v1) h else (if 6 ≤ ((-1) - v1) then Sp_refuse_j24 v0 v1 ((-1) - v1) h else (gfR h v0 10 12).bind fun a2 => (ald 0 h a2 ((-1) - v1)).bind fun x3 => (ast 0 h a2 ((-1) - v1) (x3 + 1)).bind fun h4 => Sp_refuse_j24 v0 v1 ((-1) - v1) h4))
theorem t_Sp_refuse {l : Launch} {G : GX} {v0 : Nat} {v1 : Int32} {h : AHeap} {v : Int32} {h1 : AHeap} (hf : Sp_refuse v0 v1 h = some (v, h1)) : CT l G kSp_refuse 0 0 [.ref v0, .int v1] h (some (.int v)) h1 := by
  refine CT_of (ls := [some (.ref v0), some (.int v1), none]) (Z := fun z => z = (v, h1)) (by decide +kernel) (Nat.le_of_ble_eq_true rfl) hf rfl ⟨rfl, rfl, trivial⟩ (fun E ok => ?_)
  unfold Sp_refuse
  refine J_iconst (v := (-1)) (pc' := 1) ok (dOf dX10_refuse 0 rfl) rfl (by decide) ?_
  refine J_iload_n (pc' := 2) ok (dOf dX10_refuse 1 rfl) rfl rfl rfl ?_
  refine J_isub (pc' := 3) ok (dOf dX10_refuse 2 rfl) rfl ?_
  refine J_istore_n (ls' := [some (.ref v0), some (.int v1), some (.int ((-1) - v1))]) (pc' := 4) ok (dOf dX10_refuse 3 rfl) rfl rfl (Nat.le_of_ble_eq_true rfl) rfl rfl ?_
  refine J_iload_n (pc' := 5) ok (dOf dX10_refuse 4 rfl) rfl rfl rfl ?_
  refine J_if_lt (tgt := 24) (pc' := 8) ok (dOf dX10_refuse 5 rfl) rfl (by decide) ?_ ?_
  · exact Sp_refuse_j24_J ok v0 v1 ((-1) - v1) h
  · refine J_iload_n (pc' := 9) ok (dOf dX10_refuse 6 rfl) rfl rfl rfl ?_
    refine J_bipush (v := 6) (pc' := 11) ok (dOf dX10_refuse 7 rfl) rfl (by decide) ?_
    refine J_icmp_ge (tgt := 24) (pc' := 14) ok (dOf dX10_refuse 8 rfl) rfl (by decide) ?_ ?_
    · exact Sp_refuse_j24_J ok v0 v1 ((-1) - v1) h
    · refine J_aload_n (pc' := 15) ok (dOf dX10_refuse 9 rfl) rfl rfl rfl ?_
      refine J_getR (ci := 10) (kf := 12) (C := RX10) (T := TX10) (N := 14) (pc' := 18) ok (dOf dX10_refuse 10 rfl) rfl (by decide) rfl (by decide) win_10 wfl_X10_78 (fun a2 => ?_)
      refine J_iload_n (pc' := 19) ok (dOf dX10_refuse 11 rfl) rfl rfl rfl ?_
      refine J_dup2 (pc' := 20) ok (dOf dX10_refuse 12 rfl) rfl rfl rfl ?_
      refine J_iald (pc' := 21) ok (dOf dX10_refuse 13 rfl) rfl (fun x3 => ?_)
      refine J_iconst (v := 1) (pc' := 22) ok (dOf dX10_refuse 14 rfl) rfl (by decide) ?_
      refine J_iadd (pc' := 23) ok (dOf dX10_refuse 15 rfl) rfl ?_
      refine J_iast (pc' := 24) ok (dOf dX10_refuse 16 rfl) rfl (fun h4 _ => ?_)
      exact Sp_refuse_j24_J ok v0 v1 ((-1) - v1) h4
-- X6_copyFrom
abbrev kProg_copyFrom : Cd := (yX6_copyFrom, cX6_copyFrom, 2, none, 1, 45)
theorem dX6_copyFrom : dcheck cX6_copyFrom [(0, .aload_n 0, 1), (1, .aload_n 1, 1), (2, .getfield 36, 3), (5, .putfield 36, 3), (8, .aload_n 0, 1), (9, .aload_n 1, 1), (10, .getfield 40, 3), (13, .putfield 40, 3), (16, .aload_n 0, 1), (17, .aload_n 1, 1), (18, .getfield 43, 3), (21, .putfield 43, 3), (24, .aload_n 1, 1), (25, .getfield 9, 3), (28, .iconst 0, 1), (29, .aload_n 0, 1), (30, .getfield 9, 3), (33, .iconst 0, 1), (34, .iconst 4, 1), (35, .invokestatic 46, 3), (38, .aload_n 1, 1), (39, .getfield 15, 3), (42, .iconst 0, 1), (43, .aload_n 0, 1), (44, .getfield 15, 3), (47, .iconst 0, 1), (48, .iconst 4, 1), (49, .invokestatic 46, 3), (52, .aload_n 1, 1), (53, .getfield 18, 3), (56, .iconst 0, 1), (57, .aload_n 0, 1), (58, .getfield 18, 3), (61, .iconst 0, 1), (62, .iconst 4, 1), (63, .invokestatic 46, 3), (66, .aload_n 1, 1), (67, .getfield 21, 3), (70, .iconst 0, 1), (71, .aload_n 0, 1), (72, .getfield 21, 3), (75, .iconst 0, 1), (76, .bipush 24, 2), (78, .invokestatic 46, 3), (81, .aload_n 1, 1), (82, .getfield 24, 3), (85, .iconst 0, 1), (86, .aload_n 0, 1), (87, .getfield 24, 3), (90, .iconst 0, 1), (91, .iconst 4, 1), (92, .invokestatic 46, 3), (95, .aload_n 1, 1), (96, .getfield 27, 3), (99, .iconst 0, 1), (100, .aload_n 0, 1), (101, .getfield 27, 3), (104, .iconst 0, 1), (105, .bipush 24, 2), (107, .invokestatic 46, 3), (110, .return_, 1)] = true := by decide +kernel
theorem cw_Prog_copyFrom {k : Cd} (h1 : kProg_copyFrom.2.2.2.2.1 + 1 ≤ k.2.2.2.2.1) (h2 : 8 + (kProg_copyFrom.2.2.1 + 11) + kProg_copyFrom.2.2.2.2.2 ≤ k.2.2.2.2.2) : Cw k kProg_copyFrom 1 := ⟨wcode_X6_copyFrom, wini_SplitProgram_Program, ⟨by decide, by decide, by decide +kernel⟩, h1, h2⟩
def Prog_copyFrom (v0 : Nat) (v1 : Nat) (h : AHeap) : Option (Unit × AHeap) :=
  (gfI h v1 6 0).bind fun x1 => (pfV h v0 6 0 (.int x1)).bind fun h2 => (gfI h2 v1 6 1).bind fun x3 => (pfV h2 v0 6 1 (.int x3)).bind fun h4 => (gfI h4 v1 6 2).bind fun x5 => (pfV h4 v0 6 2 (.int x5)).bind fun h6 => (gfR h6 v1 6 3).bind fun a7 => (gfR h6 v0 6 3).bind fun a8 => (acp h6 a7 0 a8 0 4).bind fun h9 => (gfR h9 v1 6 4).bind fun a10 => (gfR h9 v0 6 4).bind fun a11 => (acp h9 a10 0 a11 0 4).bind fun h12 => (gfR h12 v1 6 5).bind fun a13 => (gfR h12 v0 6 5).bind fun a14 => (acp h12 a13 0 a14 0 4).bind fun h15 => (gfR h15 v1 6 6).bind fun a16 => (gfR h15 v0 6 6).bind fun a17 => (acp h15 a16 0 a17 0 24).bind fun h18 => (gfR h18 v1 6 7).bind fun a19 => (gfR h18 v0 6 7).bind fun a20 => (acp h18 a19 0 a20 0 4).bind fun h21 => (gfR h21 v1 6 8).bind fun a22 => (gfR h21 v0 6 8).bind fun a23 => (acp h21 a22 0 a23 0 24).bind fun h24 => some ((), h24)
theorem t_Prog_copyFrom {l : Launch} {G : GX} {v0 : Nat} {v1 : Nat} {h : AHeap} {h1 : AHeap} (hf : Prog_copyFrom v0 v1 h = some ((), h1)) : CT l G kProg_copyFrom 0 0 [.ref v0, .ref v1] h none h1 := by
  refine CT_of (ls := [some (.ref v0), some (.ref v1)]) (Z := fun z => z = ((), h1)) (by decide +kernel) (Nat.le_of_ble_eq_true rfl) hf rfl ⟨rfl, rfl, trivial⟩ (fun E ok => ?_)
  unfold Prog_copyFrom
  refine J_aload_n (pc' := 1) ok (dOf dX6_copyFrom 0 rfl) rfl rfl rfl ?_
  refine J_aload_n (pc' := 2) ok (dOf dX6_copyFrom 1 rfl) rfl rfl rfl ?_
  refine J_getI (ci := 6) (kf := 0) (C := RX6) (T := TX6) (N := 9) (pc' := 5) ok (dOf dX6_copyFrom 2 rfl) rfl (by decide) rfl (by decide) win_6 wfl_X6_36 (fun x1 => ?_)
  refine J_putI (ci := 6) (kf := 0) (C := RX6) (T := TX6) (N := 9) (pc' := 8) ok tyX6 (dOf dX6_copyFrom 3 rfl) rfl rfl (by decide) win_6 tyX6_ok nmX6 rfl rfl wfl_X6_36 (fun h2 _ => ?_)
  refine J_aload_n (pc' := 9) ok (dOf dX6_copyFrom 4 rfl) rfl rfl rfl ?_
  refine J_aload_n (pc' := 10) ok (dOf dX6_copyFrom 5 rfl) rfl rfl rfl ?_
  refine J_getI (ci := 6) (kf := 1) (C := RX6) (T := TX6) (N := 9) (pc' := 13) ok (dOf dX6_copyFrom 6 rfl) rfl (by decide) rfl (by decide) win_6 wfl_X6_40 (fun x3 => ?_)
  refine J_putI (ci := 6) (kf := 1) (C := RX6) (T := TX6) (N := 9) (pc' := 16) ok tyX6 (dOf dX6_copyFrom 7 rfl) rfl rfl (by decide) win_6 tyX6_ok nmX6 rfl rfl wfl_X6_40 (fun h4 _ => ?_)
  refine J_aload_n (pc' := 17) ok (dOf dX6_copyFrom 8 rfl) rfl rfl rfl ?_
  refine J_aload_n (pc' := 18) ok (dOf dX6_copyFrom 9 rfl) rfl rfl rfl ?_
  refine J_getI (ci := 6) (kf := 2) (C := RX6) (T := TX6) (N := 9) (pc' := 21) ok (dOf dX6_copyFrom 10 rfl) rfl (by decide) rfl (by decide) win_6 wfl_X6_43 (fun x5 => ?_)
  refine J_putI (ci := 6) (kf := 2) (C := RX6) (T := TX6) (N := 9) (pc' := 24) ok tyX6 (dOf dX6_copyFrom 11 rfl) rfl rfl (by decide) win_6 tyX6_ok nmX6 rfl rfl wfl_X6_43 (fun h6 _ => ?_)
  refine J_aload_n (pc' := 25) ok (dOf dX6_copyFrom 12 rfl) rfl rfl rfl ?_
  refine J_getR (ci := 6) (kf := 3) (C := RX6) (T := TX6) (N := 9) (pc' := 28) ok (dOf dX6_copyFrom 13 rfl) rfl (by decide) rfl (by decide) win_6 wfl_X6_9 (fun a7 => ?_)
  refine J_iconst (v := 0) (pc' := 29) ok (dOf dX6_copyFrom 14 rfl) rfl (by decide) ?_
  refine J_aload_n (pc' := 30) ok (dOf dX6_copyFrom 15 rfl) rfl rfl rfl ?_
  refine J_getR (ci := 6) (kf := 3) (C := RX6) (T := TX6) (N := 9) (pc' := 33) ok (dOf dX6_copyFrom 16 rfl) rfl (by decide) rfl (by decide) win_6 wfl_X6_9 (fun a8 => ?_)
  refine J_iconst (v := 0) (pc' := 34) ok (dOf dX6_copyFrom 17 rfl) rfl (by decide) ?_
  refine J_iconst (v := 4) (pc' := 35) ok (dOf dX6_copyFrom 18 rfl) rfl (by decide) ?_
  refine J_acp (pc' := 38) ok (dOf dX6_copyFrom 19 rfl) rfl wml_X6_46 wnat_java_lang_System_arraycopy wstat_java_lang_System_arraycopy wini_java_lang_System (Nat.le_of_ble_eq_true rfl) (Nat.le_of_ble_eq_true rfl) (fun h9 _ => ?_)
  refine J_aload_n (pc' := 39) ok (dOf dX6_copyFrom 20 rfl) rfl rfl rfl ?_
  refine J_getR (ci := 6) (kf := 4) (C := RX6) (T := TX6) (N := 9) (pc' := 42) ok (dOf dX6_copyFrom 21 rfl) rfl (by decide) rfl (by decide) win_6 wfl_X6_15 (fun a10 => ?_)
  refine J_iconst (v := 0) (pc' := 43) ok (dOf dX6_copyFrom 22 rfl) rfl (by decide) ?_
  refine J_aload_n (pc' := 44) ok (dOf dX6_copyFrom 23 rfl) rfl rfl rfl ?_
  refine J_getR (ci := 6) (kf := 4) (C := RX6) (T := TX6) (N := 9) (pc' := 47) ok (dOf dX6_copyFrom 24 rfl) rfl (by decide) rfl (by decide) win_6 wfl_X6_15 (fun a11 => ?_)
  refine J_iconst (v := 0) (pc' := 48) ok (dOf dX6_copyFrom 25 rfl) rfl (by decide) ?_
  refine J_iconst (v := 4) (pc' := 49) ok (dOf dX6_copyFrom 26 rfl) rfl (by decide) ?_
  refine J_acp (pc' := 52) ok (dOf dX6_copyFrom 27 rfl) rfl wml_X6_46 wnat_java_lang_System_arraycopy wstat_java_lang_System_arraycopy wini_java_lang_System (Nat.le_of_ble_eq_true rfl) (Nat.le_of_ble_eq_true rfl) (fun h12 _ => ?_)
  refine J_aload_n (pc' := 53) ok (dOf dX6_copyFrom 28 rfl) rfl rfl rfl ?_
  refine J_getR (ci := 6) (kf := 5) (C := RX6) (T := TX6) (N := 9) (pc' := 56) ok (dOf dX6_copyFrom 29 rfl) rfl (by decide) rfl (by decide) win_6 wfl_X6_18 (fun a13 => ?_)
  refine J_iconst (v := 0) (pc' := 57) ok (dOf dX6_copyFrom 30 rfl) rfl (by decide) ?_
  refine J_aload_n (pc' := 58) ok (dOf dX6_copyFrom 31 rfl) rfl rfl rfl ?_
  refine J_getR (ci := 6) (kf := 5) (C := RX6) (T := TX6) (N := 9) (pc' := 61) ok (dOf dX6_copyFrom 32 rfl) rfl (by decide) rfl (by decide) win_6 wfl_X6_18 (fun a14 => ?_)
  refine J_iconst (v := 0) (pc' := 62) ok (dOf dX6_copyFrom 33 rfl) rfl (by decide) ?_
  refine J_iconst (v := 4) (pc' := 63) ok (dOf dX6_copyFrom 34 rfl) rfl (by decide) ?_
  refine J_acp (pc' := 66) ok (dOf dX6_copyFrom 35 rfl) rfl wml_X6_46 wnat_java_lang_System_arraycopy wstat_java_lang_System_arraycopy wini_java_lang_System (Nat.le_of_ble_eq_true rfl) (Nat.le_of_ble_eq_true rfl) (fun h15 _ => ?_)
  refine J_aload_n (pc' := 67) ok (dOf dX6_copyFrom 36 rfl) rfl rfl rfl ?_
  refine J_getR (ci := 6) (kf := 6) (C := RX6) (T := TX6) (N := 9) (pc' := 70) ok (dOf dX6_copyFrom 37 rfl) rfl (by decide) rfl (by decide) win_6 wfl_X6_21 (fun a16 => ?_)
  refine J_iconst (v := 0) (pc' := 71) ok (dOf dX6_copyFrom 38 rfl) rfl (by decide) ?_
  refine J_aload_n (pc' := 72) ok (dOf dX6_copyFrom 39 rfl) rfl rfl rfl ?_
  refine J_getR (ci := 6) (kf := 6) (C := RX6) (T := TX6) (N := 9) (pc' := 75) ok (dOf dX6_copyFrom 40 rfl) rfl (by decide) rfl (by decide) win_6 wfl_X6_21 (fun a17 => ?_)
  refine J_iconst (v := 0) (pc' := 76) ok (dOf dX6_copyFrom 41 rfl) rfl (by decide) ?_
  refine J_bipush (v := 24) (pc' := 78) ok (dOf dX6_copyFrom 42 rfl) rfl (by decide) ?_
  refine J_acp (pc' := 81) ok (dOf dX6_copyFrom 43 rfl) rfl wml_X6_46 wnat_java_lang_System_arraycopy wstat_java_lang_System_arraycopy wini_java_lang_System (Nat.le_of_ble_eq_true rfl) (Nat.le_of_ble_eq_true rfl) (fun h18 _ => ?_)
  refine J_aload_n (pc' := 82) ok (dOf dX6_copyFrom 44 rfl) rfl rfl rfl ?_
  refine J_getR (ci := 6) (kf := 7) (C := RX6) (T := TX6) (N := 9) (pc' := 85) ok (dOf dX6_copyFrom 45 rfl) rfl (by decide) rfl (by decide) win_6 wfl_X6_24 (fun a19 => ?_)
  refine J_iconst (v := 0) (pc' := 86) ok (dOf dX6_copyFrom 46 rfl) rfl (by decide) ?_
  refine J_aload_n (pc' := 87) ok (dOf dX6_copyFrom 47 rfl) rfl rfl rfl ?_
  refine J_getR (ci := 6) (kf := 7) (C := RX6) (T := TX6) (N := 9) (pc' := 90) ok (dOf dX6_copyFrom 48 rfl) rfl (by decide) rfl (by decide) win_6 wfl_X6_24 (fun a20 => ?_)
  refine J_iconst (v := 0) (pc' := 91) ok (dOf dX6_copyFrom 49 rfl) rfl (by decide) ?_
  refine J_iconst (v := 4) (pc' := 92) ok (dOf dX6_copyFrom 50 rfl) rfl (by decide) ?_
  refine J_acp (pc' := 95) ok (dOf dX6_copyFrom 51 rfl) rfl wml_X6_46 wnat_java_lang_System_arraycopy wstat_java_lang_System_arraycopy wini_java_lang_System (Nat.le_of_ble_eq_true rfl) (Nat.le_of_ble_eq_true rfl) (fun h21 _ => ?_)
  refine J_aload_n (pc' := 96) ok (dOf dX6_copyFrom 52 rfl) rfl rfl rfl ?_
  refine J_getR (ci := 6) (kf := 8) (C := RX6) (T := TX6) (N := 9) (pc' := 99) ok (dOf dX6_copyFrom 53 rfl) rfl (by decide) rfl (by decide) win_6 wfl_X6_27 (fun a22 => ?_)
  refine J_iconst (v := 0) (pc' := 100) ok (dOf dX6_copyFrom 54 rfl) rfl (by decide) ?_
  refine J_aload_n (pc' := 101) ok (dOf dX6_copyFrom 55 rfl) rfl rfl rfl ?_
  refine J_getR (ci := 6) (kf := 8) (C := RX6) (T := TX6) (N := 9) (pc' := 104) ok (dOf dX6_copyFrom 56 rfl) rfl (by decide) rfl (by decide) win_6 wfl_X6_27 (fun a23 => ?_)
  refine J_iconst (v := 0) (pc' := 105) ok (dOf dX6_copyFrom 57 rfl) rfl (by decide) ?_
  refine J_bipush (v := 24) (pc' := 107) ok (dOf dX6_copyFrom 58 rfl) rfl (by decide) ?_
  refine J_acp (pc' := 110) ok (dOf dX6_copyFrom 59 rfl) rfl wml_X6_46 wnat_java_lang_System_arraycopy wstat_java_lang_System_arraycopy wini_java_lang_System (Nat.le_of_ble_eq_true rfl) (Nat.le_of_ble_eq_true rfl) (fun h24 _ => ?_)
  exact J_vreturn ok (dOf dX6_copyFrom 60 rfl) rfl (Nat.le_refl 0) (Nat.le_refl 0)
-- X2_copyFrom
abbrev kCuts_copyFrom : Cd := (yX2_copyFrom, cX2_copyFrom, 2, none, 1, 45)
theorem dX2_copyFrom : dcheck cX2_copyFrom [(0, .aload_n 0, 1), (1, .aload_n 1, 1), (2, .getfield 31, 3), (5, .aload_n 0, 1), (6, .getfield 9, 3), (9, .invokestatic 34, 3), (12, .putfield 31, 3), (15, .aload_n 1, 1), (16, .getfield 15, 3), (19, .iconst 0, 1), (20, .aload_n 0, 1), (21, .getfield 15, 3), (24, .iconst 0, 1), (25, .aload_n 0, 1), (26, .getfield 31, 3), (29, .invokestatic 40, 3), (32, .aload_n 1, 1), (33, .getfield 19, 3), (36, .iconst 0, 1), (37, .aload_n 0, 1), (38, .getfield 19, 3), (41, .iconst 0, 1), (42, .aload_n 0, 1), (43, .getfield 31, 3), (46, .invokestatic 40, 3), (49, .aload_n 1, 1), (50, .getfield 22, 3), (53, .iconst 0, 1), (54, .aload_n 0, 1), (55, .getfield 22, 3), (58, .iconst 0, 1), (59, .aload_n 0, 1), (60, .getfield 31, 3), (63, .invokestatic 40, 3), (66, .aload_n 1, 1), (67, .getfield 25, 3), (70, .iconst 0, 1), (71, .aload_n 0, 1), (72, .getfield 25, 3), (75, .iconst 0, 1), (76, .aload_n 0, 1), (77, .getfield 31, 3), (80, .iconst 4, 1), (81, .imul, 1), (82, .invokestatic 40, 3), (85, .aload_n 1, 1), (86, .getfield 28, 3), (89, .iconst 0, 1), (90, .aload_n 0, 1), (91, .getfield 28, 3), (94, .iconst 0, 1), (95, .aload_n 0, 1), (96, .getfield 31, 3), (99, .bipush 6, 2), (101, .imul, 1), (102, .invokestatic 40, 3), (105, .return_, 1)] = true := by decide +kernel
theorem cw_Cuts_copyFrom {k : Cd} (h1 : kCuts_copyFrom.2.2.2.2.1 + 1 ≤ k.2.2.2.2.1) (h2 : 8 + (kCuts_copyFrom.2.2.1 + 11) + kCuts_copyFrom.2.2.2.2.2 ≤ k.2.2.2.2.2) : Cw k kCuts_copyFrom 1 := ⟨wcode_X2_copyFrom, wini_SplitProgram_Cuts, ⟨by decide, by decide, by decide +kernel⟩, h1, h2⟩
def Cuts_copyFrom (v0 : Nat) (v1 : Nat) (h : AHeap) : Option (Unit × AHeap) :=
  (gfI h v1 2 1).bind fun x1 => (gfI h v0 2 0).bind fun x2 => (pfV h v0 2 1 (.int (if x2 < x1 then x2 else x1))).bind fun h3 => (gfR h3 v1 2 2).bind fun a4 => (gfR h3 v0 2 2).bind fun a5 => (gfI h3 v0 2 1).bind fun x6 => (acp h3 a4 0 a5 0 x6).bind fun h7 => (gfR h7 v1 2 3).bind fun a8 => (gfR h7 v0 2 3).bind fun a9 => (gfI h7 v0 2 1).bind fun x10 => (acp h7 a8 0 a9 0 x10).bind fun h11 => (gfR h11 v1 2 4).bind fun a12 => (gfR h11 v0 2 4).bind fun a13 => (gfI h11 v0 2 1).bind fun x14 => (acp h11 a12 0 a13 0 x14).bind fun h15 => (gfR h15 v1 2 5).bind fun a16 => (gfR h15 v0 2 5).bind fun a17 => (gfI h15 v0 2 1).bind fun x18 => (acp h15 a16 0 a17 0 (x18 * 4)).bind fun h19 => (gfR h19 v1 2 6).bind fun a20 => (gfR h19 v0 2 6).bind fun a21 => (gfI h19 v0 2 1).bind fun x22 => (acp h19 a20 0 a21 0 (x22 * 6)).bind fun h23 => some ((), h23)
theorem t_Cuts_copyFrom {l : Launch} {G : GX} {v0 : Nat} {v1 : Nat} {h : AHeap} {h1 : AHeap} (hf : Cuts_copyFrom v0 v1 h = some ((), h1)) : CT l G kCuts_copyFrom 0 0 [.ref v0, .ref v1] h none h1 := by
  refine CT_of (ls := [some (.ref v0), some (.ref v1)]) (Z := fun z => z = ((), h1)) (by decide +kernel) (Nat.le_of_ble_eq_true rfl) hf rfl ⟨rfl, rfl, trivial⟩ (fun E ok => ?_)
  unfold Cuts_copyFrom
  refine J_aload_n (pc' := 1) ok (dOf dX2_copyFrom 0 rfl) rfl rfl rfl ?_
  refine J_aload_n (pc' := 2) ok (dOf dX2_copyFrom 1 rfl) rfl rfl rfl ?_
  refine J_getI (ci := 2) (kf := 1) (C := RX2) (T := TX2) (N := 7) (pc' := 5) ok (dOf dX2_copyFrom 2 rfl) rfl (by decide) rfl (by decide) win_2 wfl_X2_31 (fun x1 => ?_)
  refine J_aload_n (pc' := 6) ok (dOf dX2_copyFrom 3 rfl) rfl rfl rfl ?_
  refine J_getI (ci := 2) (kf := 0) (C := RX2) (T := TX2) (N := 7) (pc' := 9) ok (dOf dX2_copyFrom 4 rfl) rfl (by decide) rfl (by decide) win_2 wfl_X2_9 (fun x2 => ?_)
  refine J_mmin (pc' := 12) ok (dOf dX2_copyFrom 5 rfl) rfl wml_X2_34 wstat_J9_min_7cf53 wini_java_lang_Math wcode_J9_min_7cf53 (Nat.le_of_ble_eq_true rfl) (Nat.le_of_ble_eq_true rfl) (Nat.le_refl 0) (Nat.le_refl 0) ?_
  refine J_putI (ci := 2) (kf := 1) (C := RX2) (T := TX2) (N := 7) (pc' := 15) ok tyX2 (dOf dX2_copyFrom 6 rfl) rfl rfl (by decide) win_2 tyX2_ok nmX2 rfl rfl wfl_X2_31 (fun h3 _ => ?_)
  refine J_aload_n (pc' := 16) ok (dOf dX2_copyFrom 7 rfl) rfl rfl rfl ?_
  refine J_getR (ci := 2) (kf := 2) (C := RX2) (T := TX2) (N := 7) (pc' := 19) ok (dOf dX2_copyFrom 8 rfl) rfl (by decide) rfl (by decide) win_2 wfl_X2_15 (fun a4 => ?_)
  refine J_iconst (v := 0) (pc' := 20) ok (dOf dX2_copyFrom 9 rfl) rfl (by decide) ?_
  refine J_aload_n (pc' := 21) ok (dOf dX2_copyFrom 10 rfl) rfl rfl rfl ?_
  refine J_getR (ci := 2) (kf := 2) (C := RX2) (T := TX2) (N := 7) (pc' := 24) ok (dOf dX2_copyFrom 11 rfl) rfl (by decide) rfl (by decide) win_2 wfl_X2_15 (fun a5 => ?_)
  refine J_iconst (v := 0) (pc' := 25) ok (dOf dX2_copyFrom 12 rfl) rfl (by decide) ?_
  refine J_aload_n (pc' := 26) ok (dOf dX2_copyFrom 13 rfl) rfl rfl rfl ?_
  refine J_getI (ci := 2) (kf := 1) (C := RX2) (T := TX2) (N := 7) (pc' := 29) ok (dOf dX2_copyFrom 14 rfl) rfl (by decide) rfl (by decide) win_2 wfl_X2_31 (fun x6 => ?_)
  refine J_acp (pc' := 32) ok (dOf dX2_copyFrom 15 rfl) rfl wml_X2_40 wnat_java_lang_System_arraycopy wstat_java_lang_System_arraycopy wini_java_lang_System (Nat.le_of_ble_eq_true rfl) (Nat.le_of_ble_eq_true rfl) (fun h7 _ => ?_)
  refine J_aload_n (pc' := 33) ok (dOf dX2_copyFrom 16 rfl) rfl rfl rfl ?_
  refine J_getR (ci := 2) (kf := 3) (C := RX2) (T := TX2) (N := 7) (pc' := 36) ok (dOf dX2_copyFrom 17 rfl) rfl (by decide) rfl (by decide) win_2 wfl_X2_19 (fun a8 => ?_)
  refine J_iconst (v := 0) (pc' := 37) ok (dOf dX2_copyFrom 18 rfl) rfl (by decide) ?_
  refine J_aload_n (pc' := 38) ok (dOf dX2_copyFrom 19 rfl) rfl rfl rfl ?_
  refine J_getR (ci := 2) (kf := 3) (C := RX2) (T := TX2) (N := 7) (pc' := 41) ok (dOf dX2_copyFrom 20 rfl) rfl (by decide) rfl (by decide) win_2 wfl_X2_19 (fun a9 => ?_)
  refine J_iconst (v := 0) (pc' := 42) ok (dOf dX2_copyFrom 21 rfl) rfl (by decide) ?_
  refine J_aload_n (pc' := 43) ok (dOf dX2_copyFrom 22 rfl) rfl rfl rfl ?_
  refine J_getI (ci := 2) (kf := 1) (C := RX2) (T := TX2) (N := 7) (pc' := 46) ok (dOf dX2_copyFrom 23 rfl) rfl (by decide) rfl (by decide) win_2 wfl_X2_31 (fun x10 => ?_)
  refine J_acp (pc' := 49) ok (dOf dX2_copyFrom 24 rfl) rfl wml_X2_40 wnat_java_lang_System_arraycopy wstat_java_lang_System_arraycopy wini_java_lang_System (Nat.le_of_ble_eq_true rfl) (Nat.le_of_ble_eq_true rfl) (fun h11 _ => ?_)
  refine J_aload_n (pc' := 50) ok (dOf dX2_copyFrom 25 rfl) rfl rfl rfl ?_
  refine J_getR (ci := 2) (kf := 4) (C := RX2) (T := TX2) (N := 7) (pc' := 53) ok (dOf dX2_copyFrom 26 rfl) rfl (by decide) rfl (by decide) win_2 wfl_X2_22 (fun a12 => ?_)
  refine J_iconst (v := 0) (pc' := 54) ok (dOf dX2_copyFrom 27 rfl) rfl (by decide) ?_
  refine J_aload_n (pc' := 55) ok (dOf dX2_copyFrom 28 rfl) rfl rfl rfl ?_
  refine J_getR (ci := 2) (kf := 4) (C := RX2) (T := TX2) (N := 7) (pc' := 58) ok (dOf dX2_copyFrom 29 rfl) rfl (by decide) rfl (by decide) win_2 wfl_X2_22 (fun a13 => ?_)
  refine J_iconst (v := 0) (pc' := 59) ok (dOf dX2_copyFrom 30 rfl) rfl (by decide) ?_
  refine J_aload_n (pc' := 60) ok (dOf dX2_copyFrom 31 rfl) rfl rfl rfl ?_
  refine J_getI (ci := 2) (kf := 1) (C := RX2) (T := TX2) (N := 7) (pc' := 63) ok (dOf dX2_copyFrom 32 rfl) rfl (by decide) rfl (by decide) win_2 wfl_X2_31 (fun x14 => ?_)
  refine J_acp (pc' := 66) ok (dOf dX2_copyFrom 33 rfl) rfl wml_X2_40 wnat_java_lang_System_arraycopy wstat_java_lang_System_arraycopy wini_java_lang_System (Nat.le_of_ble_eq_true rfl) (Nat.le_of_ble_eq_true rfl) (fun h15 _ => ?_)
  refine J_aload_n (pc' := 67) ok (dOf dX2_copyFrom 34 rfl) rfl rfl rfl ?_
  refine J_getR (ci := 2) (kf := 5) (C := RX2) (T := TX2) (N := 7) (pc' := 70) ok (dOf dX2_copyFrom 35 rfl) rfl (by decide) rfl (by decide) win_2 wfl_X2_25 (fun a16 => ?_)
  refine J_iconst (v := 0) (pc' := 71) ok (dOf dX2_copyFrom 36 rfl) rfl (by decide) ?_
  refine J_aload_n (pc' := 72) ok (dOf dX2_copyFrom 37 rfl) rfl rfl rfl ?_
  refine J_getR (ci := 2) (kf := 5) (C := RX2) (T := TX2) (N := 7) (pc' := 75) ok (dOf dX2_copyFrom 38 rfl) rfl (by decide) rfl (by decide) win_2 wfl_X2_25 (fun a17 => ?_)
  refine J_iconst (v := 0) (pc' := 76) ok (dOf dX2_copyFrom 39 rfl) rfl (by decide) ?_
  refine J_aload_n (pc' := 77) ok (dOf dX2_copyFrom 40 rfl) rfl rfl rfl ?_
  refine J_getI (ci := 2) (kf := 1) (C := RX2) (T := TX2) (N := 7) (pc' := 80) ok (dOf dX2_copyFrom 41 rfl) rfl (by decide) rfl (by decide) win_2 wfl_X2_31 (fun x18 => ?_)
  refine J_iconst (v := 4) (pc' := 81) ok (dOf dX2_copyFrom 42 rfl) rfl (by decide) ?_
  refine J_imul (pc' := 82) ok (dOf dX2_copyFrom 43 rfl) rfl ?_
  refine J_acp (pc' := 85) ok (dOf dX2_copyFrom 44 rfl) rfl wml_X2_40 wnat_java_lang_System_arraycopy wstat_java_lang_System_arraycopy wini_java_lang_System (Nat.le_of_ble_eq_true rfl) (Nat.le_of_ble_eq_true rfl) (fun h19 _ => ?_)
  refine J_aload_n (pc' := 86) ok (dOf dX2_copyFrom 45 rfl) rfl rfl rfl ?_
  refine J_getR (ci := 2) (kf := 6) (C := RX2) (T := TX2) (N := 7) (pc' := 89) ok (dOf dX2_copyFrom 46 rfl) rfl (by decide) rfl (by decide) win_2 wfl_X2_28 (fun a20 => ?_)
  refine J_iconst (v := 0) (pc' := 90) ok (dOf dX2_copyFrom 47 rfl) rfl (by decide) ?_
  refine J_aload_n (pc' := 91) ok (dOf dX2_copyFrom 48 rfl) rfl rfl rfl ?_
  refine J_getR (ci := 2) (kf := 6) (C := RX2) (T := TX2) (N := 7) (pc' := 94) ok (dOf dX2_copyFrom 49 rfl) rfl (by decide) rfl (by decide) win_2 wfl_X2_28 (fun a21 => ?_)
  refine J_iconst (v := 0) (pc' := 95) ok (dOf dX2_copyFrom 50 rfl) rfl (by decide) ?_
  refine J_aload_n (pc' := 96) ok (dOf dX2_copyFrom 51 rfl) rfl rfl rfl ?_
  refine J_getI (ci := 2) (kf := 1) (C := RX2) (T := TX2) (N := 7) (pc' := 99) ok (dOf dX2_copyFrom 52 rfl) rfl (by decide) rfl (by decide) win_2 wfl_X2_31 (fun x22 => ?_)
  refine J_bipush (v := 6) (pc' := 101) ok (dOf dX2_copyFrom 53 rfl) rfl (by decide) ?_
  refine J_imul (pc' := 102) ok (dOf dX2_copyFrom 54 rfl) rfl ?_
  refine J_acp (pc' := 105) ok (dOf dX2_copyFrom 55 rfl) rfl wml_X2_40 wnat_java_lang_System_arraycopy wstat_java_lang_System_arraycopy wini_java_lang_System (Nat.le_of_ble_eq_true rfl) (Nat.le_of_ble_eq_true rfl) (fun h23 _ => ?_)
  exact J_vreturn ok (dOf dX2_copyFrom 56 rfl) rfl (Nat.le_refl 0) (Nat.le_refl 0)
-- X7_copyFrom
abbrev kSrch_copyFrom : Cd := (yX7_copyFrom, cX7_copyFrom, 2, none, 0, 0)
theorem dX7_copyFrom : dcheck cX7_copyFrom [(0, .aload_n 0, 1), (1, .aload_n 1, 1), (2, .getfield 24, 3), (5, .putfield 24, 3), (8, .aload_n 0, 1), (9, .aload_n 1, 1), (10, .getfield 9, 3), (13, .putfield 9, 3), (16, .aload_n 0, 1), (17, .aload_n 1, 1), (18, .getfield 15, 3), (21, .putfield 15, 3), (24, .aload_n 0, 1), (25, .aload_n 1, 1), (26, .getfield 18, 3), (29, .putfield 18, 3), (32, .aload_n 0, 1), (33, .aload_n 1, 1), (34, .getfield 21, 3), (37, .putfield 21, 3), (40, .aload_n 0, 1), (41, .aload_n 1, 1), (42, .getfield 27, 3), (45, .putfield 27, 3), (48, .aload_n 0, 1), (49, .aload_n 1, 1), (50, .getfield 30, 3), (53, .putfield 30, 3), (56, .return_, 1)] = true := by decide +kernel
theorem cw_Srch_copyFrom {k : Cd} (h1 : kSrch_copyFrom.2.2.2.2.1 + 1 ≤ k.2.2.2.2.1) (h2 : 8 + (kSrch_copyFrom.2.2.1 + 11) + kSrch_copyFrom.2.2.2.2.2 ≤ k.2.2.2.2.2) : Cw k kSrch_copyFrom 1 := ⟨wcode_X7_copyFrom, wini_SplitProgram_Search, ⟨by decide, by decide, by decide +kernel⟩, h1, h2⟩
def Srch_copyFrom (v0 : Nat) (v1 : Nat) (h : AHeap) : Option (Unit × AHeap) :=
  (gfI h v1 7 0).bind fun x1 => (pfV h v0 7 0 (.int x1)).bind fun h2 => (gfI h2 v1 7 1).bind fun x3 => (pfV h2 v0 7 1 (.int x3)).bind fun h4 => (gfI h4 v1 7 2).bind fun x5 => (pfV h4 v0 7 2 (.int x5)).bind fun h6 => (gfI h6 v1 7 3).bind fun x7 => (pfV h6 v0 7 3 (.int x7)).bind fun h8 => (gfI h8 v1 7 4).bind fun x9 => (pfV h8 v0 7 4 (.int x9)).bind fun h10 => (gfI h10 v1 7 5).bind fun x11 => (pfV h10 v0 7 5 (.int x11)).bind fun h12 => (gfI h12 v1 7 6).bind fun x13 => (pfV h12 v0 7 6 (.int x13)).bind fun h14 => some ((), h14)
theorem t_Srch_copyFrom {l : Launch} {G : GX} {v0 : Nat} {v1 : Nat} {h : AHeap} {h1 : AHeap} (hf : Srch_copyFrom v0 v1 h = some ((), h1)) : CT l G kSrch_copyFrom 0 0 [.ref v0, .ref v1] h none h1 := by
  refine CT_of (ls := [some (.ref v0), some (.ref v1)]) (Z := fun z => z = ((), h1)) (by decide +kernel) (Nat.le_of_ble_eq_true rfl) hf rfl ⟨rfl, rfl, trivial⟩ (fun E ok => ?_)
  unfold Srch_copyFrom
  refine J_aload_n (pc' := 1) ok (dOf dX7_copyFrom 0 rfl) rfl rfl rfl ?_
  refine J_aload_n (pc' := 2) ok (dOf dX7_copyFrom 1 rfl) rfl rfl rfl ?_
  refine J_getI (ci := 7) (kf := 0) (C := RX7) (T := TX7) (N := 7) (pc' := 5) ok (dOf dX7_copyFrom 2 rfl) rfl (by decide) rfl (by decide) win_7 wfl_X7_24 (fun x1 => ?_)
  refine J_putI (ci := 7) (kf := 0) (C := RX7) (T := TX7) (N := 7) (pc' := 8) ok tyX7 (dOf dX7_copyFrom 3 rfl) rfl rfl (by decide) win_7 tyX7_ok nmX7 rfl rfl wfl_X7_24 (fun h2 _ => ?_)
  refine J_aload_n (pc' := 9) ok (dOf dX7_copyFrom 4 rfl) rfl rfl rfl ?_
  refine J_aload_n (pc' := 10) ok (dOf dX7_copyFrom 5 rfl) rfl rfl rfl ?_
  refine J_getI (ci := 7) (kf := 1) (C := RX7) (T := TX7) (N := 7) (pc' := 13) ok (dOf dX7_copyFrom 6 rfl) rfl (by decide) rfl (by decide) win_7 wfl_X7_9 (fun x3 => ?_)
  refine J_putI (ci := 7) (kf := 1) (C := RX7) (T := TX7) (N := 7) (pc' := 16) ok tyX7 (dOf dX7_copyFrom 7 rfl) rfl rfl (by decide) win_7 tyX7_ok nmX7 rfl rfl wfl_X7_9 (fun h4 _ => ?_)
  refine J_aload_n (pc' := 17) ok (dOf dX7_copyFrom 8 rfl) rfl rfl rfl ?_
  refine J_aload_n (pc' := 18) ok (dOf dX7_copyFrom 9 rfl) rfl rfl rfl ?_
  refine J_getI (ci := 7) (kf := 2) (C := RX7) (T := TX7) (N := 7) (pc' := 21) ok (dOf dX7_copyFrom 10 rfl) rfl (by decide) rfl (by decide) win_7 wfl_X7_15 (fun x5 => ?_)
  refine J_putI (ci := 7) (kf := 2) (C := RX7) (T := TX7) (N := 7) (pc' := 24) ok tyX7 (dOf dX7_copyFrom 11 rfl) rfl rfl (by decide) win_7 tyX7_ok nmX7 rfl rfl wfl_X7_15 (fun h6 _ => ?_)
  refine J_aload_n (pc' := 25) ok (dOf dX7_copyFrom 12 rfl) rfl rfl rfl ?_
  refine J_aload_n (pc' := 26) ok (dOf dX7_copyFrom 13 rfl) rfl rfl rfl ?_
  refine J_getI (ci := 7) (kf := 3) (C := RX7) (T := TX7) (N := 7) (pc' := 29) ok (dOf dX7_copyFrom 14 rfl) rfl (by decide) rfl (by decide) win_7 wfl_X7_18 (fun x7 => ?_)
  refine J_putI (ci := 7) (kf := 3) (C := RX7) (T := TX7) (N := 7) (pc' := 32) ok tyX7 (dOf dX7_copyFrom 15 rfl) rfl rfl (by decide) win_7 tyX7_ok nmX7 rfl rfl wfl_X7_18 (fun h8 _ => ?_)
  refine J_aload_n (pc' := 33) ok (dOf dX7_copyFrom 16 rfl) rfl rfl rfl ?_
  refine J_aload_n (pc' := 34) ok (dOf dX7_copyFrom 17 rfl) rfl rfl rfl ?_
  refine J_getI (ci := 7) (kf := 4) (C := RX7) (T := TX7) (N := 7) (pc' := 37) ok (dOf dX7_copyFrom 18 rfl) rfl (by decide) rfl (by decide) win_7 wfl_X7_21 (fun x9 => ?_)
  refine J_putI (ci := 7) (kf := 4) (C := RX7) (T := TX7) (N := 7) (pc' := 40) ok tyX7 (dOf dX7_copyFrom 19 rfl) rfl rfl (by decide) win_7 tyX7_ok nmX7 rfl rfl wfl_X7_21 (fun h10 _ => ?_)
  refine J_aload_n (pc' := 41) ok (dOf dX7_copyFrom 20 rfl) rfl rfl rfl ?_
  refine J_aload_n (pc' := 42) ok (dOf dX7_copyFrom 21 rfl) rfl rfl rfl ?_
  refine J_getI (ci := 7) (kf := 5) (C := RX7) (T := TX7) (N := 7) (pc' := 45) ok (dOf dX7_copyFrom 22 rfl) rfl (by decide) rfl (by decide) win_7 wfl_X7_27 (fun x11 => ?_)
  refine J_putI (ci := 7) (kf := 5) (C := RX7) (T := TX7) (N := 7) (pc' := 48) ok tyX7 (dOf dX7_copyFrom 23 rfl) rfl rfl (by decide) win_7 tyX7_ok nmX7 rfl rfl wfl_X7_27 (fun h12 _ => ?_)
  refine J_aload_n (pc' := 49) ok (dOf dX7_copyFrom 24 rfl) rfl rfl rfl ?_
  refine J_aload_n (pc' := 50) ok (dOf dX7_copyFrom 25 rfl) rfl rfl rfl ?_
  refine J_getI (ci := 7) (kf := 6) (C := RX7) (T := TX7) (N := 7) (pc' := 53) ok (dOf dX7_copyFrom 26 rfl) rfl (by decide) rfl (by decide) win_7 wfl_X7_30 (fun x13 => ?_)
  refine J_putI (ci := 7) (kf := 6) (C := RX7) (T := TX7) (N := 7) (pc' := 56) ok tyX7 (dOf dX7_copyFrom 27 rfl) rfl rfl (by decide) win_7 tyX7_ok nmX7 rfl rfl wfl_X7_30 (fun h14 _ => ?_)
  exact J_vreturn ok (dOf dX7_copyFrom 28 rfl) rfl (Nat.le_refl 0) (Nat.le_refl 0)
-- X8_copyFrom
abbrev kStat_copyFrom : Cd := (yX8_copyFrom, cX8_copyFrom, 2, none, 2, 66)
theorem dX8_copyFrom : dcheck cX8_copyFrom [(0, .aload_n 0, 1), (1, .getfield 12, 3), (4, .aload_n 1, 1), (5, .getfield 12, 3), (8, .invokevirtual 34, 3), (11, .aload_n 0, 1), (12, .getfield 23, 3), (15, .aload_n 1, 1), (16, .getfield 23, 3), (19, .invokevirtual 38, 3), (22, .aload_n 0, 1), (23, .getfield 30, 3), (26, .aload_n 1, 1), (27, .getfield 30, 3), (30, .invokevirtual 41, 3), (33, .return_, 1)] = true := by decide +kernel
theorem cw_Stat_copyFrom {k : Cd} (h1 : kStat_copyFrom.2.2.2.2.1 + 1 ≤ k.2.2.2.2.1) (h2 : 8 + (kStat_copyFrom.2.2.1 + 11) + kStat_copyFrom.2.2.2.2.2 ≤ k.2.2.2.2.2) : Cw k kStat_copyFrom 1 := ⟨wcode_X8_copyFrom, wini_SplitProgram_State, ⟨by decide, by decide, by decide +kernel⟩, h1, h2⟩
def Stat_copyFrom (v0 : Nat) (v1 : Nat) (h : AHeap) : Option (Unit × AHeap) :=
  (gfR h v0 8 0).bind fun a1 => (gfR h v1 8 0).bind fun a2 => (chk h a1 6).bind fun _ => bnd2 (Prog_copyFrom a1 a2 h) fun _ h3 => (gfR h3 v0 8 1).bind fun a4 => (gfR h3 v1 8 1).bind fun a5 => (chk h3 a4 2).bind fun _ => bnd2 (Cuts_copyFrom a4 a5 h3) fun _ h6 => (gfR h6 v0 8 2).bind fun a7 => (gfR h6 v1 8 2).bind fun a8 => (chk h6 a7 7).bind fun _ => bnd2 (Srch_copyFrom a7 a8 h6) fun _ h9 => some ((), h9)
theorem t_Stat_copyFrom {l : Launch} {G : GX} {v0 : Nat} {v1 : Nat} {h : AHeap} {h1 : AHeap} (hf : Stat_copyFrom v0 v1 h = some ((), h1)) : CT l G kStat_copyFrom 0 0 [.ref v0, .ref v1] h none h1 := by
  refine CT_of (ls := [some (.ref v0), some (.ref v1)]) (Z := fun z => z = ((), h1)) (by decide +kernel) (Nat.le_of_ble_eq_true rfl) hf rfl ⟨rfl, rfl, trivial⟩ (fun E ok => ?_)
  unfold Stat_copyFrom
  refine J_aload_n (pc' := 1) ok (dOf dX8_copyFrom 0 rfl) rfl rfl rfl ?_
  refine J_getR (ci := 8) (kf := 0) (C := RX8) (T := TX8) (N := 3) (pc' := 4) ok (dOf dX8_copyFrom 1 rfl) rfl (by decide) rfl (by decide) win_8 wfl_X8_12 (fun a1 => ?_)
  refine J_aload_n (pc' := 5) ok (dOf dX8_copyFrom 2 rfl) rfl rfl rfl ?_
  refine J_getR (ci := 8) (kf := 0) (C := RX8) (T := TX8) (N := 3) (pc' := 8) ok (dOf dX8_copyFrom 3 rfl) rfl (by decide) rfl (by decide) win_8 wfl_X8_12 (fun a2 => ?_)
  refine J_callVv (k2 := kProg_copyFrom) (ci := 6) (T := TX6) (N := 9) (as := [.ref a2]) (pc' := 11) ok (dOf dX8_copyFrom 4 rfl) rfl (cw_Prog_copyFrom (by decide) (by decide)) wml_X8_34 winst_X6_copyFrom wsel_X6_copyFrom rfl ⟨Nat.le_refl 0, Nat.le_refl 0⟩ (Nat.le_of_ble_eq_true rfl) rfl (fun _ _ hf => t_Prog_copyFrom hf) (fun _ h3 => ?_)
  refine J_aload_n (pc' := 12) ok (dOf dX8_copyFrom 5 rfl) rfl rfl rfl ?_
  refine J_getR (ci := 8) (kf := 1) (C := RX8) (T := TX8) (N := 3) (pc' := 15) ok (dOf dX8_copyFrom 6 rfl) rfl (by decide) rfl (by decide) win_8 wfl_X8_23 (fun a4 => ?_)
  refine J_aload_n (pc' := 16) ok (dOf dX8_copyFrom 7 rfl) rfl rfl rfl ?_
  refine J_getR (ci := 8) (kf := 1) (C := RX8) (T := TX8) (N := 3) (pc' := 19) ok (dOf dX8_copyFrom 8 rfl) rfl (by decide) rfl (by decide) win_8 wfl_X8_23 (fun a5 => ?_)
  refine J_callVv (k2 := kCuts_copyFrom) (ci := 2) (T := TX2) (N := 7) (as := [.ref a5]) (pc' := 22) ok (dOf dX8_copyFrom 9 rfl) rfl (cw_Cuts_copyFrom (by decide) (by decide)) wml_X8_38 winst_X2_copyFrom wsel_X2_copyFrom rfl ⟨Nat.le_refl 0, Nat.le_refl 0⟩ (Nat.le_of_ble_eq_true rfl) rfl (fun _ _ hf => t_Cuts_copyFrom hf) (fun _ h6 => ?_)
  refine J_aload_n (pc' := 23) ok (dOf dX8_copyFrom 10 rfl) rfl rfl rfl ?_
  refine J_getR (ci := 8) (kf := 2) (C := RX8) (T := TX8) (N := 3) (pc' := 26) ok (dOf dX8_copyFrom 11 rfl) rfl (by decide) rfl (by decide) win_8 wfl_X8_30 (fun a7 => ?_)
  refine J_aload_n (pc' := 27) ok (dOf dX8_copyFrom 12 rfl) rfl rfl rfl ?_
  refine J_getR (ci := 8) (kf := 2) (C := RX8) (T := TX8) (N := 3) (pc' := 30) ok (dOf dX8_copyFrom 13 rfl) rfl (by decide) rfl (by decide) win_8 wfl_X8_30 (fun a8 => ?_)
  refine J_callVv (k2 := kSrch_copyFrom) (ci := 7) (T := TX7) (N := 7) (as := [.ref a8]) (pc' := 33) ok (dOf dX8_copyFrom 14 rfl) rfl (cw_Srch_copyFrom (by decide) (by decide)) wml_X8_41 winst_X7_copyFrom wsel_X7_copyFrom rfl ⟨Nat.le_refl 0, Nat.le_refl 0⟩ (Nat.le_of_ble_eq_true rfl) rfl (fun _ _ hf => t_Srch_copyFrom hf) (fun _ h9 => ?_)
  exact J_vreturn ok (dOf dX8_copyFrom 15 rfl) rfl (Nat.le_refl 0) (Nat.le_refl 0)
-- X5_keep
abbrev kHist_keep : Cd := (yX5_keep, cX5_keep, 3, none, 3, 87)
theorem dX5_keep : dcheck cX5_keep [(0, .aload_n 0, 1), (1, .getfield 11, 3), (4, .aload_n 0, 1), (5, .getfield 22, 3), (8, .aaload, 1), (9, .aload_n 1, 1), (10, .invokevirtual 26, 3), (13, .aload_n 0, 1), (14, .getfield 17, 3), (17, .aload_n 0, 1), (18, .getfield 22, 3), (21, .iload_n 2, 1), (22, .iastore, 1), (23, .aload_n 0, 1), (24, .aload_n 0, 1), (25, .getfield 22, 3), (28, .iconst 1, 1), (29, .iadd, 1), (30, .bipush 12, 2), (32, .if_icmp .ge 12, 3), (35, .aload_n 0, 1), (36, .getfield 22, 3), (39, .iconst 1, 1), (40, .iadd, 1), (41, .goto 4, 3), (44, .iconst 0, 1), (45, .putfield 22, 3), (48, .aload_n 0, 1), (49, .aload_n 0, 1), (50, .getfield 30, 3), (53, .iconst 1, 1), (54, .iadd, 1), (55, .bipush 12, 2), (57, .invokestatic 33, 3), (60, .putfield 30, 3), (63, .return_, 1)] = true := by decide +kernel
theorem cw_Hist_keep {k : Cd} (h1 : kHist_keep.2.2.2.2.1 + 1 ≤ k.2.2.2.2.1) (h2 : 8 + (kHist_keep.2.2.1 + 11) + kHist_keep.2.2.2.2.2 ≤ k.2.2.2.2.2) : Cw k kHist_keep 2 := ⟨wcode_X5_keep, wini_SplitProgram_History, ⟨by decide, by decide, by decide +kernel⟩, h1, h2⟩
def Hist_keep_j45 (v0 : Nat) (v1 : Nat) (v2 : Int32) (t0 : Nat) (t1 : Int32) (h : AHeap) : Option (Unit × AHeap) :=
  (pfV h t0 5 3 (.int t1)).bind fun h9 => (gfI h9 v0 5 2).bind fun x10 => (pfV h9 v0 5 2 (.int (if 12 < (x10 + 1) then 12 else (x10 + 1)))).bind fun h11 => some ((), h11)
theorem Hist_keep_j45_J {E : JE} {l : Launch} {G : GX} {h' : AHeap} (ok : JOK E l G kHist_keep 0 0 none h') (v0 : Nat) (v1 : Nat) (v2 : Int32) (t0 : Nat) (t1 : Int32) (h : AHeap) : J E kHist_keep (Hist_keep_j45 v0 v1 v2 t0 t1 h) (fun z => z = ((), h')) 45 [some (.ref v0), some (.ref v1), some (.int v2)] [.int t1, .ref t0] h 0 0 := by
  unfold Hist_keep_j45
  refine J_putI (ci := 5) (kf := 3) (C := RX5) (T := TX5) (N := 4) (pc' := 48) ok tyX5 (dOf dX5_keep 26 rfl) rfl rfl (by decide) win_5 tyX5_ok nmX5 rfl rfl wfl_X5_22 (fun h9 _ => ?_)
  refine J_aload_n (pc' := 49) ok (dOf dX5_keep 27 rfl) rfl rfl rfl ?_
  refine J_aload_n (pc' := 50) ok (dOf dX5_keep 28 rfl) rfl rfl rfl ?_
  refine J_getI (ci := 5) (kf := 2) (C := RX5) (T := TX5) (N := 4) (pc' := 53) ok (dOf dX5_keep 29 rfl) rfl (by decide) rfl (by decide) win_5 wfl_X5_30 (fun x10 => ?_)
  refine J_iconst (v := 1) (pc' := 54) ok (dOf dX5_keep 30 rfl) rfl (by decide) ?_
  refine J_iadd (pc' := 55) ok (dOf dX5_keep 31 rfl) rfl ?_
  refine J_bipush (v := 12) (pc' := 57) ok (dOf dX5_keep 32 rfl) rfl (by decide) ?_
  refine J_mmin (pc' := 60) ok (dOf dX5_keep 33 rfl) rfl wml_X5_33 wstat_J9_min_7cf53 wini_java_lang_Math wcode_J9_min_7cf53 (Nat.le_of_ble_eq_true rfl) (Nat.le_of_ble_eq_true rfl) (Nat.le_refl 0) (Nat.le_refl 0) ?_
  refine J_putI (ci := 5) (kf := 2) (C := RX5) (T := TX5) (N := 4) (pc' := 63) ok tyX5 (dOf dX5_keep 34 rfl) rfl rfl (by decide) win_5 tyX5_ok nmX5 rfl rfl wfl_X5_30 (fun h11 _ => ?_)
  exact J_vreturn ok (dOf dX5_keep 35 rfl) rfl (Nat.le_refl 0) (Nat.le_refl 0)
def Hist_keep (v0 : Nat) (v1 : Nat) (v2 : Int32) (h : AHeap) : Option (Unit × AHeap) :=
  (gfR h v0 5 0).bind fun a1 => (gfI h v0 5 3).bind fun x2 => (aldR h a1 x2).bind fun a3 => (chk h a3 8).bind fun _ => bnd2 (Stat_copyFrom a3 v1 h) fun _ h4 => (gfR h4 v0 5 1).bind fun a5 => (gfI h4 v0 5 3).bind fun x6 => (ast 0 h4 a5 x6 v2).bind fun h7 => (gfI h7 v0 5 3).bind fun x8 => (if 12 ≤ (x8 + 1) then Hist_keep_j45 v0 v1 v2 v0 0 h7 else (gfI h7 v0 5 3).bind fun x12 => Hist_keep_j45 v0 v1 v2 v0 (x12 + 1) h7)
theorem t_Hist_keep {l : Launch} {G : GX} {v0 : Nat} {v1 : Nat} {v2 : Int32} {h : AHeap} {h1 : AHeap} (hf : Hist_keep v0 v1 v2 h = some ((), h1)) : CT l G kHist_keep 0 0 [.ref v0, .ref v1, .int v2] h none h1 := by
  refine CT_of (ls := [some (.ref v0), some (.ref v1), some (.int v2)]) (Z := fun z => z = ((), h1)) (by decide +kernel) (Nat.le_of_ble_eq_true rfl) hf rfl ⟨rfl, rfl, rfl, trivial⟩ (fun E ok => ?_)
  unfold Hist_keep
  refine J_aload_n (pc' := 1) ok (dOf dX5_keep 0 rfl) rfl rfl rfl ?_
  refine J_getR (ci := 5) (kf := 0) (C := RX5) (T := TX5) (N := 4) (pc' := 4) ok (dOf dX5_keep 1 rfl) rfl (by decide) rfl (by decide) win_5 wfl_X5_11 (fun a1 => ?_)
  refine J_aload_n (pc' := 5) ok (dOf dX5_keep 2 rfl) rfl rfl rfl ?_
  refine J_getI (ci := 5) (kf := 3) (C := RX5) (T := TX5) (N := 4) (pc' := 8) ok (dOf dX5_keep 3 rfl) rfl (by decide) rfl (by decide) win_5 wfl_X5_22 (fun x2 => ?_)
  refine J_aldR (pc' := 9) ok (dOf dX5_keep 4 rfl) rfl (fun a3 => ?_)
  refine J_aload_n (pc' := 10) ok (dOf dX5_keep 5 rfl) rfl rfl rfl ?_
  refine J_callVv (k2 := kStat_copyFrom) (ci := 8) (T := TX8) (N := 3) (as := [.ref v1]) (pc' := 13) ok (dOf dX5_keep 6 rfl) rfl (cw_Stat_copyFrom (by decide) (by decide)) wml_X5_26 winst_X8_copyFrom wsel_X8_copyFrom rfl ⟨Nat.le_refl 0, Nat.le_refl 0⟩ (Nat.le_of_ble_eq_true rfl) rfl (fun _ _ hf => t_Stat_copyFrom hf) (fun _ h4 => ?_)
  refine J_aload_n (pc' := 14) ok (dOf dX5_keep 7 rfl) rfl rfl rfl ?_
  refine J_getR (ci := 5) (kf := 1) (C := RX5) (T := TX5) (N := 4) (pc' := 17) ok (dOf dX5_keep 8 rfl) rfl (by decide) rfl (by decide) win_5 wfl_X5_17 (fun a5 => ?_)
  refine J_aload_n (pc' := 18) ok (dOf dX5_keep 9 rfl) rfl rfl rfl ?_
  refine J_getI (ci := 5) (kf := 3) (C := RX5) (T := TX5) (N := 4) (pc' := 21) ok (dOf dX5_keep 10 rfl) rfl (by decide) rfl (by decide) win_5 wfl_X5_22 (fun x6 => ?_)
  refine J_iload_n (pc' := 22) ok (dOf dX5_keep 11 rfl) rfl rfl rfl ?_
  refine J_iast (pc' := 23) ok (dOf dX5_keep 12 rfl) rfl (fun h7 _ => ?_)
  refine J_aload_n (pc' := 24) ok (dOf dX5_keep 13 rfl) rfl rfl rfl ?_
  refine J_aload_n (pc' := 25) ok (dOf dX5_keep 14 rfl) rfl rfl rfl ?_
  refine J_getI (ci := 5) (kf := 3) (C := RX5) (T := TX5) (N := 4) (pc' := 28) ok (dOf dX5_keep 15 rfl) rfl (by decide) rfl (by decide) win_5 wfl_X5_22 (fun x8 => ?_)
  refine J_iconst (v := 1) (pc' := 29) ok (dOf dX5_keep 16 rfl) rfl (by decide) ?_
  refine J_iadd (pc' := 30) ok (dOf dX5_keep 17 rfl) rfl ?_
  refine J_bipush (v := 12) (pc' := 32) ok (dOf dX5_keep 18 rfl) rfl (by decide) ?_
  refine J_icmp_ge (tgt := 44) (pc' := 35) ok (dOf dX5_keep 19 rfl) rfl (by decide) ?_ ?_
  · refine J_iconst (v := 0) (pc' := 45) ok (dOf dX5_keep 25 rfl) rfl (by decide) ?_
    exact Hist_keep_j45_J ok v0 v1 v2 v0 0 h7
  · refine J_aload_n (pc' := 36) ok (dOf dX5_keep 20 rfl) rfl rfl rfl ?_
    refine J_getI (ci := 5) (kf := 3) (C := RX5) (T := TX5) (N := 4) (pc' := 39) ok (dOf dX5_keep 21 rfl) rfl (by decide) rfl (by decide) win_5 wfl_X5_22 (fun x12 => ?_)
    refine J_iconst (v := 1) (pc' := 40) ok (dOf dX5_keep 22 rfl) rfl (by decide) ?_
    refine J_iadd (pc' := 41) ok (dOf dX5_keep 23 rfl) rfl ?_
    refine J_goto (tgt := 45) ok (dOf dX5_keep 24 rfl) (by decide) ?_
    exact Hist_keep_j45_J ok v0 v1 v2 v0 (x12 + 1) h7
-- X10_accept
abbrev kSp_accept : Cd := (yX10_accept, cX10_accept, 2, (some .int), 0, 0)
theorem dX10_accept : dcheck cX10_accept [(0, .aload_n 0, 1), (1, .iconst 0, 1), (2, .putfield 351, 3), (5, .iload_n 1, 1), (6, .ireturn, 1)] = true := by decide +kernel
theorem cw_Sp_accept {k : Cd} (h1 : kSp_accept.2.2.2.2.1 + 1 ≤ k.2.2.2.2.1) (h2 : 8 + (kSp_accept.2.2.1 + 11) + kSp_accept.2.2.2.2.2 ≤ k.2.2.2.2.2) : Cw k kSp_accept 1 := ⟨wcode_X10_accept, wini_SplitProgram, ⟨by decide, by decide, by decide +kernel⟩, h1, h2⟩
def Sp_accept (v0 : Nat) (v1 : Int32) (h : AHeap) : Option (Int32 × AHeap) :=
  (pfV h v0 10 13 (.int 0)).bind fun h1 => some (v1, h1)
theorem t_Sp_accept {l : Launch} {G : GX} {v0 : Nat} {v1 : Int32} {h : AHeap} {v : Int32} {h1 : AHeap} (hf : Sp_accept v0 v1 h = some (v, h1)) : CT l G kSp_accept 0 0 [.ref v0, .int v1] h (some (.int v)) h1 := by
  refine CT_of (ls := [some (.ref v0), some (.int v1)]) (Z := fun z => z = (v, h1)) (by decide +kernel) (Nat.le_of_ble_eq_true rfl) hf rfl ⟨rfl, rfl, trivial⟩ (fun E ok => ?_)
  unfold Sp_accept
  refine J_aload_n (pc' := 1) ok (dOf dX10_accept 0 rfl) rfl rfl rfl ?_
  refine J_iconst (v := 0) (pc' := 2) ok (dOf dX10_accept 1 rfl) rfl (by decide) ?_
  refine J_putI (ci := 10) (kf := 13) (C := RX10) (T := TX10) (N := 14) (pc' := 5) ok tyX10 (dOf dX10_accept 2 rfl) rfl rfl (by decide) win_10 tyX10_ok nmX10 rfl rfl wfl_X10_351 (fun h1 _ => ?_)
  refine J_iload_n (pc' := 6) ok (dOf dX10_accept 3 rfl) rfl rfl rfl ?_
  exact J_ireturn ok (dOf dX10_accept 4 rfl) rfl (Nat.le_refl 0) (Nat.le_refl 0)
-- X10_go
abbrev kSp_go : Cd := (yX10_go, cX10_go, 3, (some .int), 7, 178)
theorem dX10_go : dcheck cX10_go [(0, .iload_n 1, 1), (1, .iconst 1, 1), (2, .if_icmp .lt 9, 3), (5, .iload_n 1, 1), (6, .bipush 99, 2), (8, .if_icmp .le 9, 3), (11, .aload_n 0, 1), (12, .iconst (-1), 1), (13, .invokevirtual 81, 3), (16, .ireturn, 1), (17, .aload_n 0, 1), (18, .getfield 10, 3), (21, .getfield 187, 3), (24, .getfield 190, 3), (27, .ifCond .eq 10, 3), (30, .aload_n 0, 1), (31, .bipush (-3), 2), (33, .invokevirtual 81, 3), (36, .ireturn, 1), (37, .aload_n 0, 1), (38, .getfield 23, 3), (41, .aload_n 0, 1), (42, .getfield 10, 3), (45, .getfield 113, 3), (48, .aload_n 0, 1), (49, .getfield 10, 3), (52, .getfield 120, 3), (55, .aload_n 0, 1), (56, .getfield 10, 3), (59, .getfield 187, 3), (62, .aload_n 0, 1), (63, .getfield 16, 3), (66, .invokevirtual 193, 3), (69, .ifCond .ne 10, 3), (72, .aload_n 0, 1), (73, .bipush (-5), 2), (75, .invokevirtual 81, 3), (78, .ireturn, 1), (79, .aload_n 0, 1), (80, .getfield 44, 3), (83, .aload_n 0, 1), (84, .getfield 10, 3), (87, .bipush 8, 2), (89, .invokevirtual 109, 3), (92, .aload_n 0, 1), (93, .getfield 23, 3), (96, .aload_n 0, 1), (97, .getfield 10, 3), (100, .getfield 113, 3), (103, .aload_n 0, 1), (104, .getfield 10, 3), (107, .getfield 120, 3), (110, .aload_n 0, 1), (111, .getfield 10, 3), (114, .getfield 187, 3), (117, .aload_n 0, 1), (118, .getfield 16, 3), (121, .iconst 1, 1), (122, .iaload, 1), (123, .invokevirtual 197, 3), (126, .pop, 1), (127, .aload_n 0, 1), (128, .getfield 23, 3), (131, .aload_n 0, 1), (132, .getfield 10, 3), (135, .getfield 113, 3), (138, .aload_n 0, 1), (139, .getfield 10, 3), (142, .getfield 120, 3), (145, .aload_n 0, 1), (146, .getfield 10, 3), (149, .getfield 187, 3), (152, .aload_n 0, 1), (153, .getfield 16, 3), (156, .iload_n 1, 1), (157, .iconst 1, 1), (158, .isub, 1), (159, .invokevirtual 201, 3), (162, .istore_n 2, 1), (163, .aload_n 0, 1), (164, .iconst 1, 1), (165, .iload_n 2, 1), (166, .iadd, 1), (167, .invokevirtual 91, 3), (170, .ireturn, 1)] = true := by decide +kernel
theorem cw_Sp_go {k : Cd} (h1 : kSp_go.2.2.2.2.1 + 1 ≤ k.2.2.2.2.1) (h2 : 8 + (kSp_go.2.2.1 + 11) + kSp_go.2.2.2.2.2 ≤ k.2.2.2.2.2) : Cw k kSp_go 1 := ⟨wcode_X10_go, wini_SplitProgram, ⟨by decide, by decide, by decide +kernel⟩, h1, h2⟩
def Sp_go_j11 (v0 : Nat) (v1 : Int32) (h : AHeap) : Option (Int32 × AHeap) :=
  (chk h v0 10).bind fun _ => bnd2 (Sp_refuse v0 (-1) h) fun x2 h1 => some (x2, h1)
theorem Sp_go_j11_J {E : JE} {l : Launch} {G : GX} {v : Int32} {h' : AHeap} (ok : JOK E l G kSp_go 0 0 (some (.int v)) h') (v0 : Nat) (v1 : Int32) (h : AHeap) : J E kSp_go (Sp_go_j11 v0 v1 h) (fun z => z = (v, h')) 11 [some (.ref v0), some (.int v1), none] [] h 0 0 := by
  unfold Sp_go_j11
  refine J_aload_n (pc' := 12) ok (dOf dX10_go 6 rfl) rfl rfl rfl ?_
  refine J_iconst (v := (-1)) (pc' := 13) ok (dOf dX10_go 7 rfl) rfl (by decide) ?_
  refine J_callVi (k2 := kSp_refuse) (ci := 10) (T := TX10) (N := 14) (as := [.int (-1)]) (pc' := 16) ok (dOf dX10_go 8 rfl) rfl (cw_Sp_refuse (by decide) (by decide)) wml_X10_81 winst_X10_refuse wsel_X10_refuse rfl ⟨Nat.le_refl 0, Nat.le_refl 0⟩ (Nat.le_of_ble_eq_true rfl) rfl (fun _ _ hf => t_Sp_refuse hf) (fun x2 h1 => ?_)
  exact J_ireturn ok (dOf dX10_go 9 rfl) rfl (Nat.le_refl 0) (Nat.le_refl 0)
def Sp_go (v0 : Nat) (v1 : Int32) (h : AHeap) : Option (Int32 × AHeap) :=
  (if v1 < 1 then Sp_go_j11 v0 v1 h else (if v1 ≤ 99 then (gfR h v0 10 0).bind fun a3 => (gfR h a3 8 2).bind fun a4 => (gfI h a4 7 0).bind fun x5 => (if x5 = 0 then (gfR h v0 10 2).bind fun a6 => (gfR h v0 10 0).bind fun a7 => (gfR h a7 8 0).bind fun a8 => (gfR h v0 10 0).bind fun a9 => (gfR h a9 8 1).bind fun a10 => (gfR h v0 10 0).bind fun a11 => (gfR h a11 8 2).bind fun a12 => (gfR h v0 10 1).bind fun a13 => (chk h a6 3).bind fun _ => bnd2 (Eng_decide a6 a8 a10 a12 a13 h) fun x15 h14 => (if ¬ x15 = 0 then (gfR h14 v0 10 5).bind fun a16 => (gfR h14 v0 10 0).bind fun a17 => (chk h14 a16 5).bind fun _ => bnd2 (Hist_keep a16 a17 8 h14) fun _ h18 => (gfR h18 v0 10 2).bind fun a19 => (gfR h18 v0 10 0).bind fun a20 => (gfR h18 a20 8 0).bind fun a21 => (gfR h18 v0 10 0).bind fun a22 => (gfR h18 a22 8 1).bind fun a23 => (gfR h18 v0 10 0).bind fun a24 => (gfR h18 a24 8 2).bind fun a25 => (gfR h18 v0 10 1).bind fun a26 => (ald 0 h18 a26 1).bind fun x27 => (chk h18 a19 3).bind fun _ => bnd2 (Eng_apply a19 a21 a23 a25 x27 h18) fun x29 h28 => (gfR h28 v0 10 2).bind fun a30 => (gfR h28 v0 10 0).bind fun a31 => (gfR h28 a31 8 0).bind fun a32 => (gfR h28 v0 10 0).bind fun a33 => (gfR h28 a33 8 1).bind fun a34 => (gfR h28 v0 10 0).bind fun a35 => (gfR h28 a35 8 2).bind fun a36 => (gfR h28 v0 10 1).bind fun a37 => (chk h28 a30 3).bind fun _ => bnd2 (Eng_run a30 a32 a34 a36 a37 (v1 - 1) h28) fun x39 h38 => (chk h38 v0 10).bind fun _ => bnd2 (Sp_accept v0 (1 + x39) h38) fun x41 h40 => some (x41, h40) else (chk h14 v0 10).bind fun _ => bnd2 (Sp_refuse v0 (-5) h14) fun x43 h42 => some (x43, h42)) else (chk h v0 10).bind fun _ => bnd2 (Sp_refuse v0 (-3) h) fun x45 h44 => some (x45, h44)) else Sp_go_j11 v0 v1 h))
theorem t_Sp_go {l : Launch} {G : GX} {v0 : Nat} {v1 : Int32} {h : AHeap} {v : Int32} {h1 : AHeap} (hf : Sp_go v0 v1 h = some (v, h1)) : CT l G kSp_go 0 0 [.ref v0, .int v1] h (some (.int v)) h1 := by
  refine CT_of (ls := [some (.ref v0), some (.int v1), none]) (Z := fun z => z = (v, h1)) (by decide +kernel) (Nat.le_of_ble_eq_true rfl) hf rfl ⟨rfl, rfl, trivial⟩ (fun E ok => ?_)
  unfold Sp_go
  refine J_iload_n (pc' := 1) ok (dOf dX10_go 0 rfl) rfl rfl rfl ?_
  refine J_iconst (v := 1) (pc' := 2) ok (dOf dX10_go 1 rfl) rfl (by decide) ?_
  refine J_icmp_lt (tgt := 11) (pc' := 5) ok (dOf dX10_go 2 rfl) rfl (by decide) ?_ ?_
  · exact Sp_go_j11_J ok v0 v1 h
  · refine J_iload_n (pc' := 6) ok (dOf dX10_go 3 rfl) rfl rfl rfl ?_
    refine J_bipush (v := 99) (pc' := 8) ok (dOf dX10_go 4 rfl) rfl (by decide) ?_
    refine J_icmp_le (tgt := 17) (pc' := 11) ok (dOf dX10_go 5 rfl) rfl (by decide) ?_ ?_
    · refine J_aload_n (pc' := 18) ok (dOf dX10_go 10 rfl) rfl rfl rfl ?_
      refine J_getR (ci := 10) (kf := 0) (C := RX10) (T := TX10) (N := 14) (pc' := 21) ok (dOf dX10_go 11 rfl) rfl (by decide) rfl (by decide) win_10 wfl_X10_10 (fun a3 => ?_)
      refine J_getR (ci := 8) (kf := 2) (C := RX8) (T := TX8) (N := 3) (pc' := 24) ok (dOf dX10_go 12 rfl) rfl (by decide) rfl (by decide) win_8 wfl_X10_187 (fun a4 => ?_)
      refine J_getI (ci := 7) (kf := 0) (C := RX7) (T := TX7) (N := 7) (pc' := 27) ok (dOf dX10_go 13 rfl) rfl (by decide) rfl (by decide) win_7 wfl_X10_190 (fun x5 => ?_)
      refine J_if_eq (tgt := 37) (pc' := 30) ok (dOf dX10_go 14 rfl) rfl (by decide) ?_ ?_
      · refine J_aload_n (pc' := 38) ok (dOf dX10_go 19 rfl) rfl rfl rfl ?_
        refine J_getR (ci := 10) (kf := 2) (C := RX10) (T := TX10) (N := 14) (pc' := 41) ok (dOf dX10_go 20 rfl) rfl (by decide) rfl (by decide) win_10 wfl_X10_23 (fun a6 => ?_)
        refine J_aload_n (pc' := 42) ok (dOf dX10_go 21 rfl) rfl rfl rfl ?_
        refine J_getR (ci := 10) (kf := 0) (C := RX10) (T := TX10) (N := 14) (pc' := 45) ok (dOf dX10_go 22 rfl) rfl (by decide) rfl (by decide) win_10 wfl_X10_10 (fun a7 => ?_)
        refine J_getR (ci := 8) (kf := 0) (C := RX8) (T := TX8) (N := 3) (pc' := 48) ok (dOf dX10_go 23 rfl) rfl (by decide) rfl (by decide) win_8 wfl_X10_113 (fun a8 => ?_)
        refine J_aload_n (pc' := 49) ok (dOf dX10_go 24 rfl) rfl rfl rfl ?_
        refine J_getR (ci := 10) (kf := 0) (C := RX10) (T := TX10) (N := 14) (pc' := 52) ok (dOf dX10_go 25 rfl) rfl (by decide) rfl (by decide) win_10 wfl_X10_10 (fun a9 => ?_)
        refine J_getR (ci := 8) (kf := 1) (C := RX8) (T := TX8) (N := 3) (pc' := 55) ok (dOf dX10_go 26 rfl) rfl (by decide) rfl (by decide) win_8 wfl_X10_120 (fun a10 => ?_)
        refine J_aload_n (pc' := 56) ok (dOf dX10_go 27 rfl) rfl rfl rfl ?_
        refine J_getR (ci := 10) (kf := 0) (C := RX10) (T := TX10) (N := 14) (pc' := 59) ok (dOf dX10_go 28 rfl) rfl (by decide) rfl (by decide) win_10 wfl_X10_10 (fun a11 => ?_)
        refine J_getR (ci := 8) (kf := 2) (C := RX8) (T := TX8) (N := 3) (pc' := 62) ok (dOf dX10_go 29 rfl) rfl (by decide) rfl (by decide) win_8 wfl_X10_187 (fun a12 => ?_)
        refine J_aload_n (pc' := 63) ok (dOf dX10_go 30 rfl) rfl rfl rfl ?_
        refine J_getR (ci := 10) (kf := 1) (C := RX10) (T := TX10) (N := 14) (pc' := 66) ok (dOf dX10_go 31 rfl) rfl (by decide) rfl (by decide) win_10 wfl_X10_16 (fun a13 => ?_)
        refine J_callVi (k2 := kEng_decide) (ci := 3) (T := TX3) (N := 12) (as := [.ref a8, .ref a10, .ref a12, .ref a13]) (pc' := 69) ok (dOf dX10_go 32 rfl) rfl (cw_Eng_decide (by decide) (by decide)) wml_X10_193 winst_X3_decide wsel_X3_decide rfl ⟨Nat.le_refl 0, Nat.le_refl 0⟩ (Nat.le_of_ble_eq_true rfl) rfl (fun _ _ hf => t_Eng_decide hf) (fun x15 h14 => ?_)
        refine J_if_ne (tgt := 79) (pc' := 72) ok (dOf dX10_go 33 rfl) rfl (by decide) ?_ ?_
        · refine J_aload_n (pc' := 80) ok (dOf dX10_go 38 rfl) rfl rfl rfl ?_
          refine J_getR (ci := 10) (kf := 5) (C := RX10) (T := TX10) (N := 14) (pc' := 83) ok (dOf dX10_go 39 rfl) rfl (by decide) rfl (by decide) win_10 wfl_X10_44 (fun a16 => ?_)
          refine J_aload_n (pc' := 84) ok (dOf dX10_go 40 rfl) rfl rfl rfl ?_
          refine J_getR (ci := 10) (kf := 0) (C := RX10) (T := TX10) (N := 14) (pc' := 87) ok (dOf dX10_go 41 rfl) rfl (by decide) rfl (by decide) win_10 wfl_X10_10 (fun a17 => ?_)
          refine J_bipush (v := 8) (pc' := 89) ok (dOf dX10_go 42 rfl) rfl (by decide) ?_
          refine J_callVv (k2 := kHist_keep) (ci := 5) (T := TX5) (N := 4) (as := [.ref a17, .int 8]) (pc' := 92) ok (dOf dX10_go 43 rfl) rfl (cw_Hist_keep (by decide) (by decide)) wml_X10_109 winst_X5_keep wsel_X5_keep rfl ⟨Nat.le_refl 0, Nat.le_refl 0⟩ (Nat.le_of_ble_eq_true rfl) rfl (fun _ _ hf => t_Hist_keep hf) (fun _ h18 => ?_)
          refine J_aload_n (pc' := 93) ok (dOf dX10_go 44 rfl) rfl rfl rfl ?_
          refine J_getR (ci := 10) (kf := 2) (C := RX10) (T := TX10) (N := 14) (pc' := 96) ok (dOf dX10_go 45 rfl) rfl (by decide) rfl (by decide) win_10 wfl_X10_23 (fun a19 => ?_)
          refine J_aload_n (pc' := 97) ok (dOf dX10_go 46 rfl) rfl rfl rfl ?_
          refine J_getR (ci := 10) (kf := 0) (C := RX10) (T := TX10) (N := 14) (pc' := 100) ok (dOf dX10_go 47 rfl) rfl (by decide) rfl (by decide) win_10 wfl_X10_10 (fun a20 => ?_)
          refine J_getR (ci := 8) (kf := 0) (C := RX8) (T := TX8) (N := 3) (pc' := 103) ok (dOf dX10_go 48 rfl) rfl (by decide) rfl (by decide) win_8 wfl_X10_113 (fun a21 => ?_)
          refine J_aload_n (pc' := 104) ok (dOf dX10_go 49 rfl) rfl rfl rfl ?_
          refine J_getR (ci := 10) (kf := 0) (C := RX10) (T := TX10) (N := 14) (pc' := 107) ok (dOf dX10_go 50 rfl) rfl (by decide) rfl (by decide) win_10 wfl_X10_10 (fun a22 => ?_)
          refine J_getR (ci := 8) (kf := 1) (C := RX8) (T := TX8) (N := 3) (pc' := 110) ok (dOf dX10_go 51 rfl) rfl (by decide) rfl (by decide) win_8 wfl_X10_120 (fun a23 => ?_)
          refine J_aload_n (pc' := 111) ok (dOf dX10_go 52 rfl) rfl rfl rfl ?_
          refine J_getR (ci := 10) (kf := 0) (C := RX10) (T := TX10) (N := 14) (pc' := 114) ok (dOf dX10_go 53 rfl) rfl (by decide) rfl (by decide) win_10 wfl_X10_10 (fun a24 => ?_)
          refine J_getR (ci := 8) (kf := 2) (C := RX8) (T := TX8) (N := 3) (pc' := 117) ok (dOf dX10_go 54 rfl) rfl (by decide) rfl (by decide) win_8 wfl_X10_187 (fun a25 => ?_)
          refine J_aload_n (pc' := 118) ok (dOf dX10_go 55 rfl) rfl rfl rfl ?_
          refine J_getR (ci := 10) (kf := 1) (C := RX10) (T := TX10) (N := 14) (pc' := 121) ok (dOf dX10_go 56 rfl) rfl (by decide) rfl (by decide) win_10 wfl_X10_16 (fun a26 => ?_)
          refine J_iconst (v := 1) (pc' := 122) ok (dOf dX10_go 57 rfl) rfl (by decide) ?_
          refine J_iald (pc' := 123) ok (dOf dX10_go 58 rfl) rfl (fun x27 => ?_)
          refine J_callVi (k2 := kEng_apply) (ci := 3) (T := TX3) (N := 12) (as := [.ref a21, .ref a23, .ref a25, .int x27]) (pc' := 126) ok (dOf dX10_go 59 rfl) rfl (cw_Eng_apply (by decide) (by decide)) wml_X10_197 winst_X3_apply wsel_X3_apply rfl ⟨Nat.le_refl 0, Nat.le_refl 0⟩ (Nat.le_of_ble_eq_true rfl) rfl (fun _ _ hf => t_Eng_apply hf) (fun x29 h28 => ?_)
          refine J_pop (pc' := 127) ok (dOf dX10_go 60 rfl) rfl rfl ?_
          refine J_aload_n (pc' := 128) ok (dOf dX10_go 61 rfl) rfl rfl rfl ?_
          refine J_getR (ci := 10) (kf := 2) (C := RX10) (T := TX10) (N := 14) (pc' := 131) ok (dOf dX10_go 62 rfl) rfl (by decide) rfl (by decide) win_10 wfl_X10_23 (fun a30 => ?_)
          refine J_aload_n (pc' := 132) ok (dOf dX10_go 63 rfl) rfl rfl rfl ?_
          refine J_getR (ci := 10) (kf := 0) (C := RX10) (T := TX10) (N := 14) (pc' := 135) ok (dOf dX10_go 64 rfl) rfl (by decide) rfl (by decide) win_10 wfl_X10_10 (fun a31 => ?_)
          refine J_getR (ci := 8) (kf := 0) (C := RX8) (T := TX8) (N := 3) (pc' := 138) ok (dOf dX10_go 65 rfl) rfl (by decide) rfl (by decide) win_8 wfl_X10_113 (fun a32 => ?_)
          refine J_aload_n (pc' := 139) ok (dOf dX10_go 66 rfl) rfl rfl rfl ?_
          refine J_getR (ci := 10) (kf := 0) (C := RX10) (T := TX10) (N := 14) (pc' := 142) ok (dOf dX10_go 67 rfl) rfl (by decide) rfl (by decide) win_10 wfl_X10_10 (fun a33 => ?_)
          refine J_getR (ci := 8) (kf := 1) (C := RX8) (T := TX8) (N := 3) (pc' := 145) ok (dOf dX10_go 68 rfl) rfl (by decide) rfl (by decide) win_8 wfl_X10_120 (fun a34 => ?_)
          refine J_aload_n (pc' := 146) ok (dOf dX10_go 69 rfl) rfl rfl rfl ?_
          refine J_getR (ci := 10) (kf := 0) (C := RX10) (T := TX10) (N := 14) (pc' := 149) ok (dOf dX10_go 70 rfl) rfl (by decide) rfl (by decide) win_10 wfl_X10_10 (fun a35 => ?_)
          refine J_getR (ci := 8) (kf := 2) (C := RX8) (T := TX8) (N := 3) (pc' := 152) ok (dOf dX10_go 71 rfl) rfl (by decide) rfl (by decide) win_8 wfl_X10_187 (fun a36 => ?_)
          refine J_aload_n (pc' := 153) ok (dOf dX10_go 72 rfl) rfl rfl rfl ?_
          refine J_getR (ci := 10) (kf := 1) (C := RX10) (T := TX10) (N := 14) (pc' := 156) ok (dOf dX10_go 73 rfl) rfl (by decide) rfl (by decide) win_10 wfl_X10_16 (fun a37 => ?_)
          refine J_iload_n (pc' := 157) ok (dOf dX10_go 74 rfl) rfl rfl rfl ?_
          refine J_iconst (v := 1) (pc' := 158) ok (dOf dX10_go 75 rfl) rfl (by decide) ?_
          refine J_isub (pc' := 159) ok (dOf dX10_go 76 rfl) rfl ?_
          refine J_callVi (k2 := kEng_run) (ci := 3) (T := TX3) (N := 12) (as := [.ref a32, .ref a34, .ref a36, .ref a37, .int (v1 - 1)]) (pc' := 162) ok (dOf dX10_go 77 rfl) rfl (cw_Eng_run (by decide) (by decide)) wml_X10_201 winst_X3_run wsel_X3_run rfl ⟨Nat.le_refl 0, Nat.le_refl 0⟩ (Nat.le_of_ble_eq_true rfl) rfl (fun _ _ hf => t_Eng_run hf) (fun x39 h38 => ?_)
          refine J_istore_n (ls' := [some (.ref v0), some (.int v1), some (.int x39)]) (pc' := 163) ok (dOf dX10_go 78 rfl) rfl rfl (Nat.le_of_ble_eq_true rfl) rfl rfl ?_
          refine J_aload_n (pc' := 164) ok (dOf dX10_go 79 rfl) rfl rfl rfl ?_
          refine J_iconst (v := 1) (pc' := 165) ok (dOf dX10_go 80 rfl) rfl (by decide) ?_
          refine J_iload_n (pc' := 166) ok (dOf dX10_go 81 rfl) rfl rfl rfl ?_
          refine J_iadd (pc' := 167) ok (dOf dX10_go 82 rfl) rfl ?_
          refine J_callVi (k2 := kSp_accept) (ci := 10) (T := TX10) (N := 14) (as := [.int (1 + x39)]) (pc' := 170) ok (dOf dX10_go 83 rfl) rfl (cw_Sp_accept (by decide) (by decide)) wml_X10_91 winst_X10_accept wsel_X10_accept rfl ⟨Nat.le_refl 0, Nat.le_refl 0⟩ (Nat.le_of_ble_eq_true rfl) rfl (fun _ _ hf => t_Sp_accept hf) (fun x41 h40 => ?_)
          exact J_ireturn ok (dOf dX10_go 84 rfl) rfl (Nat.le_refl 0) (Nat.le_refl 0)
        · refine J_aload_n (pc' := 73) ok (dOf dX10_go 34 rfl) rfl rfl rfl ?_
          refine J_bipush (v := (-5)) (pc' := 75) ok (dOf dX10_go 35 rfl) rfl (by decide) ?_
          refine J_callVi (k2 := kSp_refuse) (ci := 10) (T := TX10) (N := 14) (as := [.int (-5)]) (pc' := 78) ok (dOf dX10_go 36 rfl) rfl (cw_Sp_refuse (by decide) (by decide)) wml_X10_81 winst_X10_refuse wsel_X10_refuse rfl ⟨Nat.le_refl 0, Nat.le_refl 0⟩ (Nat.le_of_ble_eq_true rfl) rfl (fun _ _ hf => t_Sp_refuse hf) (fun x43 h42 => ?_)
          exact J_ireturn ok (dOf dX10_go 37 rfl) rfl (Nat.le_refl 0) (Nat.le_refl 0)
      · refine J_aload_n (pc' := 31) ok (dOf dX10_go 15 rfl) rfl rfl rfl ?_
        refine J_bipush (v := (-3)) (pc' := 33) ok (dOf dX10_go 16 rfl) rfl (by decide) ?_
        refine J_callVi (k2 := kSp_refuse) (ci := 10) (T := TX10) (N := 14) (as := [.int (-3)]) (pc' := 36) ok (dOf dX10_go 17 rfl) rfl (cw_Sp_refuse (by decide) (by decide)) wml_X10_81 winst_X10_refuse wsel_X10_refuse rfl ⟨Nat.le_refl 0, Nat.le_refl 0⟩ (Nat.le_of_ble_eq_true rfl) rfl (fun _ _ hf => t_Sp_refuse hf) (fun x45 h44 => ?_)
        exact J_ireturn ok (dOf dX10_go 18 rfl) rfl (Nat.le_refl 0) (Nat.le_refl 0)
    · exact Sp_go_j11_J ok v0 v1 h
-- X10_round
abbrev kSp_round : Cd := (yX10_round, cX10_round, 1, (some .int), 6, 151)
theorem dX10_round : dcheck cX10_round [(0, .aload_n 0, 1), (1, .getfield 10, 3), (4, .getfield 187, 3), (7, .getfield 190, 3), (10, .ifCond .eq 10, 3), (13, .aload_n 0, 1), (14, .bipush (-3), 2), (16, .invokevirtual 81, 3), (19, .ireturn, 1), (20, .aload_n 0, 1), (21, .getfield 23, 3), (24, .aload_n 0, 1), (25, .getfield 10, 3), (28, .getfield 113, 3), (31, .aload_n 0, 1), (32, .getfield 10, 3), (35, .getfield 120, 3), (38, .aload_n 0, 1), (39, .getfield 10, 3), (42, .getfield 187, 3), (45, .aload_n 0, 1), (46, .getfield 16, 3), (49, .invokevirtual 193, 3), (52, .ifCond .ne 10, 3), (55, .aload_n 0, 1), (56, .bipush (-5), 2), (58, .invokevirtual 81, 3), (61, .ireturn, 1), (62, .aload_n 0, 1), (63, .getfield 44, 3), (66, .aload_n 0, 1), (67, .getfield 10, 3), (70, .bipush 7, 2), (72, .invokevirtual 109, 3), (75, .aload_n 0, 1), (76, .aload_n 0, 1), (77, .getfield 23, 3), (80, .aload_n 0, 1), (81, .getfield 10, 3), (84, .getfield 113, 3), (87, .aload_n 0, 1), (88, .getfield 10, 3), (91, .getfield 120, 3), (94, .aload_n 0, 1), (95, .getfield 10, 3), (98, .getfield 187, 3), (101, .aload_n 0, 1), (102, .getfield 16, 3), (105, .iconst 1, 1), (106, .iaload, 1), (107, .invokevirtual 197, 3), (110, .invokevirtual 91, 3), (113, .ireturn, 1)] = true := by decide +kernel
theorem cw_Sp_round {k : Cd} (h1 : kSp_round.2.2.2.2.1 + 1 ≤ k.2.2.2.2.1) (h2 : 8 + (kSp_round.2.2.1 + 11) + kSp_round.2.2.2.2.2 ≤ k.2.2.2.2.2) : Cw k kSp_round 0 := ⟨wcode_X10_round, wini_SplitProgram, ⟨by decide, by decide, by decide +kernel⟩, h1, h2⟩
def Sp_round (v0 : Nat) (h : AHeap) : Option (Int32 × AHeap) :=
  (gfR h v0 10 0).bind fun a1 => (gfR h a1 8 2).bind fun a2 => (gfI h a2 7 0).bind fun x3 => (if x3 = 0 then (gfR h v0 10 2).bind fun a4 => (gfR h v0 10 0).bind fun a5 => (gfR h a5 8 0).bind fun a6 => (gfR h v0 10 0).bind fun a7 => (gfR h a7 8 1).bind fun a8 => (gfR h v0 10 0).bind fun a9 => (gfR h a9 8 2).bind fun a10 => (gfR h v0 10 1).bind fun a11 => (chk h a4 3).bind fun _ => bnd2 (Eng_decide a4 a6 a8 a10 a11 h) fun x13 h12 => (if ¬ x13 = 0 then (gfR h12 v0 10 5).bind fun a14 => (gfR h12 v0 10 0).bind fun a15 => (chk h12 a14 5).bind fun _ => bnd2 (Hist_keep a14 a15 7 h12) fun _ h16 => (gfR h16 v0 10 2).bind fun a17 => (gfR h16 v0 10 0).bind fun a18 => (gfR h16 a18 8 0).bind fun a19 => (gfR h16 v0 10 0).bind fun a20 => (gfR h16 a20 8 1).bind fun a21 => (gfR h16 v0 10 0).bind fun a22 => (gfR h16 a22 8 2).bind fun a23 => (gfR h16 v0 10 1).bind fun a24 => (ald 0 h16 a24 1).bind fun x25 => (chk h16 a17 3).bind fun _ => bnd2 (Eng_apply a17 a19 a21 a23 x25 h16) fun x27 h26 => (chk h26 v0 10).bind fun _ => bnd2 (Sp_accept v0 x27 h26) fun x29 h28 => some (x29, h28) else (chk h12 v0 10).bind fun _ => bnd2 (Sp_refuse v0 (-5) h12) fun x31 h30 => some (x31, h30)) else (chk h v0 10).bind fun _ => bnd2 (Sp_refuse v0 (-3) h) fun x33 h32 => some (x33, h32))
theorem t_Sp_round {l : Launch} {G : GX} {v0 : Nat} {h : AHeap} {v : Int32} {h1 : AHeap} (hf : Sp_round v0 h = some (v, h1)) : CT l G kSp_round 0 0 [.ref v0] h (some (.int v)) h1 := by
  refine CT_of (ls := [some (.ref v0)]) (Z := fun z => z = (v, h1)) (by decide +kernel) (Nat.le_of_ble_eq_true rfl) hf rfl ⟨rfl, trivial⟩ (fun E ok => ?_)
  unfold Sp_round
  refine J_aload_n (pc' := 1) ok (dOf dX10_round 0 rfl) rfl rfl rfl ?_
  refine J_getR (ci := 10) (kf := 0) (C := RX10) (T := TX10) (N := 14) (pc' := 4) ok (dOf dX10_round 1 rfl) rfl (by decide) rfl (by decide) win_10 wfl_X10_10 (fun a1 => ?_)
  refine J_getR (ci := 8) (kf := 2) (C := RX8) (T := TX8) (N := 3) (pc' := 7) ok (dOf dX10_round 2 rfl) rfl (by decide) rfl (by decide) win_8 wfl_X10_187 (fun a2 => ?_)
  refine J_getI (ci := 7) (kf := 0) (C := RX7) (T := TX7) (N := 7) (pc' := 10) ok (dOf dX10_round 3 rfl) rfl (by decide) rfl (by decide) win_7 wfl_X10_190 (fun x3 => ?_)
  refine J_if_eq (tgt := 20) (pc' := 13) ok (dOf dX10_round 4 rfl) rfl (by decide) ?_ ?_
  · refine J_aload_n (pc' := 21) ok (dOf dX10_round 9 rfl) rfl rfl rfl ?_
    refine J_getR (ci := 10) (kf := 2) (C := RX10) (T := TX10) (N := 14) (pc' := 24) ok (dOf dX10_round 10 rfl) rfl (by decide) rfl (by decide) win_10 wfl_X10_23 (fun a4 => ?_)
    refine J_aload_n (pc' := 25) ok (dOf dX10_round 11 rfl) rfl rfl rfl ?_
    refine J_getR (ci := 10) (kf := 0) (C := RX10) (T := TX10) (N := 14) (pc' := 28) ok (dOf dX10_round 12 rfl) rfl (by decide) rfl (by decide) win_10 wfl_X10_10 (fun a5 => ?_)
    refine J_getR (ci := 8) (kf := 0) (C := RX8) (T := TX8) (N := 3) (pc' := 31) ok (dOf dX10_round 13 rfl) rfl (by decide) rfl (by decide) win_8 wfl_X10_113 (fun a6 => ?_)
    refine J_aload_n (pc' := 32) ok (dOf dX10_round 14 rfl) rfl rfl rfl ?_
    refine J_getR (ci := 10) (kf := 0) (C := RX10) (T := TX10) (N := 14) (pc' := 35) ok (dOf dX10_round 15 rfl) rfl (by decide) rfl (by decide) win_10 wfl_X10_10 (fun a7 => ?_)
    refine J_getR (ci := 8) (kf := 1) (C := RX8) (T := TX8) (N := 3) (pc' := 38) ok (dOf dX10_round 16 rfl) rfl (by decide) rfl (by decide) win_8 wfl_X10_120 (fun a8 => ?_)
    refine J_aload_n (pc' := 39) ok (dOf dX10_round 17 rfl) rfl rfl rfl ?_
    refine J_getR (ci := 10) (kf := 0) (C := RX10) (T := TX10) (N := 14) (pc' := 42) ok (dOf dX10_round 18 rfl) rfl (by decide) rfl (by decide) win_10 wfl_X10_10 (fun a9 => ?_)
    refine J_getR (ci := 8) (kf := 2) (C := RX8) (T := TX8) (N := 3) (pc' := 45) ok (dOf dX10_round 19 rfl) rfl (by decide) rfl (by decide) win_8 wfl_X10_187 (fun a10 => ?_)
    refine J_aload_n (pc' := 46) ok (dOf dX10_round 20 rfl) rfl rfl rfl ?_
    refine J_getR (ci := 10) (kf := 1) (C := RX10) (T := TX10) (N := 14) (pc' := 49) ok (dOf dX10_round 21 rfl) rfl (by decide) rfl (by decide) win_10 wfl_X10_16 (fun a11 => ?_)
    refine J_callVi (k2 := kEng_decide) (ci := 3) (T := TX3) (N := 12) (as := [.ref a6, .ref a8, .ref a10, .ref a11]) (pc' := 52) ok (dOf dX10_round 22 rfl) rfl (cw_Eng_decide (by decide) (by decide)) wml_X10_193 winst_X3_decide wsel_X3_decide rfl ⟨Nat.le_refl 0, Nat.le_refl 0⟩ (Nat.le_of_ble_eq_true rfl) rfl (fun _ _ hf => t_Eng_decide hf) (fun x13 h12 => ?_)
    refine J_if_ne (tgt := 62) (pc' := 55) ok (dOf dX10_round 23 rfl) rfl (by decide) ?_ ?_
    · refine J_aload_n (pc' := 63) ok (dOf dX10_round 28 rfl) rfl rfl rfl ?_
      refine J_getR (ci := 10) (kf := 5) (C := RX10) (T := TX10) (N := 14) (pc' := 66) ok (dOf dX10_round 29 rfl) rfl (by decide) rfl (by decide) win_10 wfl_X10_44 (fun a14 => ?_)
      refine J_aload_n (pc' := 67) ok (dOf dX10_round 30 rfl) rfl rfl rfl ?_
      refine J_getR (ci := 10) (kf := 0) (C := RX10) (T := TX10) (N := 14) (pc' := 70) ok (dOf dX10_round 31 rfl) rfl (by decide) rfl (by decide) win_10 wfl_X10_10 (fun a15 => ?_)
      refine J_bipush (v := 7) (pc' := 72) ok (dOf dX10_round 32 rfl) rfl (by decide) ?_
      refine J_callVv (k2 := kHist_keep) (ci := 5) (T := TX5) (N := 4) (as := [.ref a15, .int 7]) (pc' := 75) ok (dOf dX10_round 33 rfl) rfl (cw_Hist_keep (by decide) (by decide)) wml_X10_109 winst_X5_keep wsel_X5_keep rfl ⟨Nat.le_refl 0, Nat.le_refl 0⟩ (Nat.le_of_ble_eq_true rfl) rfl (fun _ _ hf => t_Hist_keep hf) (fun _ h16 => ?_)
      refine J_aload_n (pc' := 76) ok (dOf dX10_round 34 rfl) rfl rfl rfl ?_
      refine J_aload_n (pc' := 77) ok (dOf dX10_round 35 rfl) rfl rfl rfl ?_
      refine J_getR (ci := 10) (kf := 2) (C := RX10) (T := TX10) (N := 14) (pc' := 80) ok (dOf dX10_round 36 rfl) rfl (by decide) rfl (by decide) win_10 wfl_X10_23 (fun a17 => ?_)
      refine J_aload_n (pc' := 81) ok (dOf dX10_round 37 rfl) rfl rfl rfl ?_
      refine J_getR (ci := 10) (kf := 0) (C := RX10) (T := TX10) (N := 14) (pc' := 84) ok (dOf dX10_round 38 rfl) rfl (by decide) rfl (by decide) win_10 wfl_X10_10 (fun a18 => ?_)
      refine J_getR (ci := 8) (kf := 0) (C := RX8) (T := TX8) (N := 3) (pc' := 87) ok (dOf dX10_round 39 rfl) rfl (by decide) rfl (by decide) win_8 wfl_X10_113 (fun a19 => ?_)
      refine J_aload_n (pc' := 88) ok (dOf dX10_round 40 rfl) rfl rfl rfl ?_
      refine J_getR (ci := 10) (kf := 0) (C := RX10) (T := TX10) (N := 14) (pc' := 91) ok (dOf dX10_round 41 rfl) rfl (by decide) rfl (by decide) win_10 wfl_X10_10 (fun a20 => ?_)
      refine J_getR (ci := 8) (kf := 1) (C := RX8) (T := TX8) (N := 3) (pc' := 94) ok (dOf dX10_round 42 rfl) rfl (by decide) rfl (by decide) win_8 wfl_X10_120 (fun a21 => ?_)
      refine J_aload_n (pc' := 95) ok (dOf dX10_round 43 rfl) rfl rfl rfl ?_
      refine J_getR (ci := 10) (kf := 0) (C := RX10) (T := TX10) (N := 14) (pc' := 98) ok (dOf dX10_round 44 rfl) rfl (by decide) rfl (by decide) win_10 wfl_X10_10 (fun a22 => ?_)
      refine J_getR (ci := 8) (kf := 2) (C := RX8) (T := TX8) (N := 3) (pc' := 101) ok (dOf dX10_round 45 rfl) rfl (by decide) rfl (by decide) win_8 wfl_X10_187 (fun a23 => ?_)
      refine J_aload_n (pc' := 102) ok (dOf dX10_round 46 rfl) rfl rfl rfl ?_
      refine J_getR (ci := 10) (kf := 1) (C := RX10) (T := TX10) (N := 14) (pc' := 105) ok (dOf dX10_round 47 rfl) rfl (by decide) rfl (by decide) win_10 wfl_X10_16 (fun a24 => ?_)
      refine J_iconst (v := 1) (pc' := 106) ok (dOf dX10_round 48 rfl) rfl (by decide) ?_
      refine J_iald (pc' := 107) ok (dOf dX10_round 49 rfl) rfl (fun x25 => ?_)
      refine J_callVi (k2 := kEng_apply) (ci := 3) (T := TX3) (N := 12) (as := [.ref a19, .ref a21, .ref a23, .int x25]) (pc' := 110) ok (dOf dX10_round 50 rfl) rfl (cw_Eng_apply (by decide) (by decide)) wml_X10_197 winst_X3_apply wsel_X3_apply rfl ⟨Nat.le_refl 0, Nat.le_refl 0⟩ (Nat.le_of_ble_eq_true rfl) rfl (fun _ _ hf => t_Eng_apply hf) (fun x27 h26 => ?_)
      refine J_callVi (k2 := kSp_accept) (ci := 10) (T := TX10) (N := 14) (as := [.int x27]) (pc' := 113) ok (dOf dX10_round 51 rfl) rfl (cw_Sp_accept (by decide) (by decide)) wml_X10_91 winst_X10_accept wsel_X10_accept rfl ⟨Nat.le_refl 0, Nat.le_refl 0⟩ (Nat.le_of_ble_eq_true rfl) rfl (fun _ _ hf => t_Sp_accept hf) (fun x29 h28 => ?_)
      exact J_ireturn ok (dOf dX10_round 52 rfl) rfl (Nat.le_refl 0) (Nat.le_refl 0)
    · refine J_aload_n (pc' := 56) ok (dOf dX10_round 24 rfl) rfl rfl rfl ?_
      refine J_bipush (v := (-5)) (pc' := 58) ok (dOf dX10_round 25 rfl) rfl (by decide) ?_
      refine J_callVi (k2 := kSp_refuse) (ci := 10) (T := TX10) (N := 14) (as := [.int (-5)]) (pc' := 61) ok (dOf dX10_round 26 rfl) rfl (cw_Sp_refuse (by decide) (by decide)) wml_X10_81 winst_X10_refuse wsel_X10_refuse rfl ⟨Nat.le_refl 0, Nat.le_refl 0⟩ (Nat.le_of_ble_eq_true rfl) rfl (fun _ _ hf => t_Sp_refuse hf) (fun x31 h30 => ?_)
      exact J_ireturn ok (dOf dX10_round 27 rfl) rfl (Nat.le_refl 0) (Nat.le_refl 0)
  · refine J_aload_n (pc' := 14) ok (dOf dX10_round 5 rfl) rfl rfl rfl ?_
    refine J_bipush (v := (-3)) (pc' := 16) ok (dOf dX10_round 6 rfl) rfl (by decide) ?_
    refine J_callVi (k2 := kSp_refuse) (ci := 10) (T := TX10) (N := 14) (as := [.int (-3)]) (pc' := 19) ok (dOf dX10_round 7 rfl) rfl (cw_Sp_refuse (by decide) (by decide)) wml_X10_81 winst_X10_refuse wsel_X10_refuse rfl ⟨Nat.le_refl 0, Nat.le_refl 0⟩ (Nat.le_of_ble_eq_true rfl) rfl (fun _ _ hf => t_Sp_refuse hf) (fun x33 h32 => ?_)
    exact J_ireturn ok (dOf dX10_round 8 rfl) rfl (Nat.le_refl 0) (Nat.le_refl 0)
