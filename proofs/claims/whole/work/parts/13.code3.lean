-- X6_plantsOf
abbrev kProg_plantsOf : Cd := (yX6_plantsOf, cX6_plantsOf, 4, (some .int), 0, 0)
theorem dX6_plantsOf : dcheck cX6_plantsOf [(0, .iconst 0, 1), (1, .istore_n 2, 1), (2, .iconst 0, 1), (3, .istore_n 3, 1), (4, .iload_n 3, 1), (5, .aload_n 0, 1), (6, .getfield 36, 3), (9, .if_icmp .ge 30, 3), (12, .aload_n 0, 1), (13, .getfield 21, 3), (16, .iload_n 3, 1), (17, .bipush 6, 2), (19, .imul, 1), (20, .iload_n 1, 1), (21, .iadd, 1), (22, .iaload, 1), (23, .iconst (-1), 1), (24, .if_icmp .eq 9, 3), (27, .iload_n 2, 1), (28, .iconst 1, 1), (29, .iload_n 3, 1), (30, .ishl, 1), (31, .ior, 1), (32, .istore_n 2, 1), (33, .iinc 3 1, 3), (36, .goto (-32), 3), (39, .iload_n 2, 1), (40, .ireturn, 1)] = true := by decide +kernel
theorem cw_Prog_plantsOf {k : Cd} (h1 : kProg_plantsOf.2.2.2.2.1 + 1 ≤ k.2.2.2.2.1) (h2 : 8 + (kProg_plantsOf.2.2.1 + 11) + kProg_plantsOf.2.2.2.2.2 ≤ k.2.2.2.2.2) : Cw k kProg_plantsOf 1 := ⟨wcode_X6_plantsOf, wini_SplitProgram_Program, ⟨by decide, by decide, by decide +kernel⟩, h1, h2⟩
def Prog_plantsOf_j33 (v0 : Nat) (v1 : Int32) (v2 : Int32) (v3 : Int32) (h : AHeap) : Option ((Int32 × Int32) ⊕ ((Int32 × Int32))) :=
  some (Sum.inl (v2, v3 + 1))
theorem Prog_plantsOf_j33_J {E : JE} {l : Launch} {G : GX} {r : Option Value} {h' : AHeap} (ok : JOK E l G kProg_plantsOf 0 0 r h') (v0 : Nat) (v1 : Int32) (v2 : Int32) (v3 : Int32) (h : AHeap) {Y : (Int32 × Int32) ⊕ ((Int32 × Int32)) → Prop} (k1 : ∀ s' : Int32 × Int32, Y (.inl s') → JW E kProg_plantsOf 4 [some (.ref v0), some (.int v1), some (.int s'.1), some (.int s'.2)] [] h 0 0) (kx39 : ∀ q : Int32 × Int32, Y (.inr q) → JW E kProg_plantsOf 39 [some (.ref v0), some (.int v1), some (.int q.1), some (.int q.2)] [] h 0 0) : J E kProg_plantsOf (Prog_plantsOf_j33 v0 v1 v2 v3 h) Y 33 [some (.ref v0), some (.int v1), some (.int v2), some (.int v3)] [] h 0 0 := by
  unfold Prog_plantsOf_j33
  refine J_iinc (v := v3 + 1) (ls' := [some (.ref v0), some (.int v1), some (.int v2), some (.int (v3 + 1))]) (pc' := 36) ok (dOf dX6_plantsOf 24 rfl) rfl rfl (by rfl) (Nat.le_of_ble_eq_true rfl) rfl rfl ?_
  refine J_goto (tgt := 4) ok (dOf dX6_plantsOf 25 rfl) (by decide) ?_
  exact J_fin (k1 (v2, v3 + 1))
def Prog_plantsOf_b4 (v0 : Nat) (v1 : Int32) (h : AHeap) (s : Int32 × Int32) : Option ((Int32 × Int32) ⊕ ((Int32 × Int32))) :=
  (gfI h v0 6 0).bind fun x1 => (if x1 ≤ s.2 then some (Sum.inr (s.1, s.2)) else (gfR h v0 6 6).bind fun a2 => (ald 0 h a2 ((s.2 * 6) + v1)).bind fun x3 => (if x3 = (-1) then Prog_plantsOf_j33 v0 v1 s.1 s.2 h else Prog_plantsOf_j33 v0 v1 (s.1 ||| ((1 : Int32) <<< (s.2 &&& 31))) s.2 h))
theorem Prog_plantsOf_b4_J {E : JE} {l : Launch} {G : GX} {r : Option Value} {h' : AHeap} (ok : JOK E l G kProg_plantsOf 0 0 r h') (v0 : Nat) (v1 : Int32) (h : AHeap) {Y : (Int32 × Int32) ⊕ ((Int32 × Int32)) → Prop} (k1 : ∀ s' : Int32 × Int32, Y (.inl s') → JW E kProg_plantsOf 4 [some (.ref v0), some (.int v1), some (.int s'.1), some (.int s'.2)] [] h 0 0) (kx39 : ∀ q : Int32 × Int32, Y (.inr q) → JW E kProg_plantsOf 39 [some (.ref v0), some (.int v1), some (.int q.1), some (.int q.2)] [] h 0 0) (s : Int32 × Int32) : J E kProg_plantsOf (Prog_plantsOf_b4 v0 v1 h s) Y 4 [some (.ref v0), some (.int v1), some (.int s.1), some (.int s.2)] [] h 0 0 := by
  unfold Prog_plantsOf_b4
  refine J_iload_n (pc' := 5) ok (dOf dX6_plantsOf 4 rfl) rfl rfl rfl ?_
  refine J_aload_n (pc' := 6) ok (dOf dX6_plantsOf 5 rfl) rfl rfl rfl ?_
  refine J_getI (ci := 6) (kf := 0) (C := RX6) (T := TX6) (N := 9) (pc' := 9) ok (dOf dX6_plantsOf 6 rfl) rfl (by decide) rfl (by decide) win_6 wfl_X6_36 (fun x1 => ?_)
  refine J_icmp_ge (tgt := 39) (pc' := 12) ok (dOf dX6_plantsOf 7 rfl) rfl (by decide) ?_ ?_
  · exact J_fin (kx39 (s.1, s.2))
  · refine J_aload_n (pc' := 13) ok (dOf dX6_plantsOf 8 rfl) rfl rfl rfl ?_
    refine J_getR (ci := 6) (kf := 6) (C := RX6) (T := TX6) (N := 9) (pc' := 16) ok (dOf dX6_plantsOf 9 rfl) rfl (by decide) rfl (by decide) win_6 wfl_X6_21 (fun a2 => ?_)
    refine J_iload_n (pc' := 17) ok (dOf dX6_plantsOf 10 rfl) rfl rfl rfl ?_
    refine J_bipush (v := 6) (pc' := 19) ok (dOf dX6_plantsOf 11 rfl) rfl (by decide) ?_
    refine J_imul (pc' := 20) ok (dOf dX6_plantsOf 12 rfl) rfl ?_
    refine J_iload_n (pc' := 21) ok (dOf dX6_plantsOf 13 rfl) rfl rfl rfl ?_
    refine J_iadd (pc' := 22) ok (dOf dX6_plantsOf 14 rfl) rfl ?_
    refine J_iald (pc' := 23) ok (dOf dX6_plantsOf 15 rfl) rfl (fun x3 => ?_)
    refine J_iconst (v := (-1)) (pc' := 24) ok (dOf dX6_plantsOf 16 rfl) rfl (by decide) ?_
    refine J_icmp_eq (tgt := 33) (pc' := 27) ok (dOf dX6_plantsOf 17 rfl) rfl (by decide) ?_ ?_
    · exact Prog_plantsOf_j33_J ok v0 v1 s.1 s.2 h k1 kx39
    · refine J_iload_n (pc' := 28) ok (dOf dX6_plantsOf 18 rfl) rfl rfl rfl ?_
      refine J_iconst (v := 1) (pc' := 29) ok (dOf dX6_plantsOf 19 rfl) rfl (by decide) ?_
      refine J_iload_n (pc' := 30) ok (dOf dX6_plantsOf 20 rfl) rfl rfl rfl ?_
      refine J_ishl (pc' := 31) ok (dOf dX6_plantsOf 21 rfl) rfl ?_
      refine J_ior (pc' := 32) ok (dOf dX6_plantsOf 22 rfl) rfl ?_
      refine J_istore_n (ls' := [some (.ref v0), some (.int v1), some (.int (s.1 ||| ((1 : Int32) <<< (s.2 &&& 31)))), some (.int s.2)]) (pc' := 33) ok (dOf dX6_plantsOf 23 rfl) rfl rfl (Nat.le_of_ble_eq_true rfl) rfl rfl ?_
      exact Prog_plantsOf_j33_J ok v0 v1 (s.1 ||| ((1 : Int32) <<< (s.2 &&& 31))) s.2 h k1 kx39
def Prog_plantsOf_j39 (v0 : Nat) (v1 : Int32) (v2 : Int32) (v3 : Int32) (h : AHeap) : Option (Int32 × AHeap) :=
  some (v2, h)
theorem Prog_plantsOf_j39_J {E : JE} {l : Launch} {G : GX} {v : Int32} {h' : AHeap} (ok : JOK E l G kProg_plantsOf 0 0 (some (.int v)) h') (v0 : Nat) (v1 : Int32) (v2 : Int32) (v3 : Int32) (h : AHeap) : J E kProg_plantsOf (Prog_plantsOf_j39 v0 v1 v2 v3 h) (fun z => z = (v, h')) 39 [some (.ref v0), some (.int v1), some (.int v2), some (.int v3)] [] h 0 0 := by
  unfold Prog_plantsOf_j39
  refine J_iload_n (pc' := 40) ok (dOf dX6_plantsOf 26 rfl) rfl rfl rfl ?_
  exact J_ireturn ok (dOf dX6_plantsOf 27 rfl) rfl (Eq.refl 0) (Nat.le_refl 0)
def Prog_plantsOf (v0 : Nat) (v1 : Int32) (h : AHeap) : Option (Int32 × AHeap) :=
  (iter (Prog_plantsOf_b4 v0 v1 h) Lmax (0, 0)).bind (fun (q4 : Int32 × Int32) => Prog_plantsOf_j39 v0 v1 q4.1 q4.2 h)
theorem t_Prog_plantsOf {l : Launch} {G : GX} {v0 : Nat} {v1 : Int32} {h : AHeap} {v : Int32} {h1 : AHeap} (hf : Prog_plantsOf v0 v1 h = some (v, h1)) : CT l G kProg_plantsOf 0 0 [.ref v0, .int v1] h (some (.int v)) h1 := by
  refine CT_of (ls := [some (.ref v0), some (.int v1), none, none]) (Z := fun z => z = (v, h1)) (by decide +kernel) (Nat.le_of_ble_eq_true rfl) hf rfl ⟨rfl, rfl, trivial⟩ (fun E ok => ?_)
  unfold Prog_plantsOf
  refine J_iconst (v := 0) (pc' := 1) ok (dOf dX6_plantsOf 0 rfl) rfl (by decide) ?_
  refine J_istore_n (ls' := [some (.ref v0), some (.int v1), some (.int 0), none]) (pc' := 2) ok (dOf dX6_plantsOf 1 rfl) rfl rfl (Nat.le_of_ble_eq_true rfl) rfl rfl ?_
  refine J_iconst (v := 0) (pc' := 3) ok (dOf dX6_plantsOf 2 rfl) rfl (by decide) ?_
  refine J_istore_n (ls' := [some (.ref v0), some (.int v1), some (.int 0), some (.int 0)]) (pc' := 4) ok (dOf dX6_plantsOf 3 rfl) rfl rfl (Nat.le_of_ble_eq_true rfl) rfl rfl ?_
  refine J_iter (lf := fun z4 => [some (.ref v0), some (.int v1), some (.int z4.1), some (.int z4.2)]) (sf := fun _ => []) (hf := fun z4 => h) (px := (fun (q4 : Int32 × Int32) => 39)) (lx := (fun (q4 : Int32 × Int32) => [some (.ref v0), some (.int v1), some (.int q4.1), some (.int q4.2)])) (sx := (fun (q4 : Int32 × Int32) => [])) (hx := (fun (q4 : Int32 × Int32) => h)) (fun Y2 z4 m1 m2 => Prog_plantsOf_b4_J ok v0 v1 h m1 m2 z4) (fun q4 => ?_) Lmax _
  exact Prog_plantsOf_j39_J ok v0 v1 q4.1 q4.2 h
-- X4_findLoads
abbrev kFrt_findLoads : Cd := (yX4_findLoads, cX4_findLoads, 7, none, 1, 23)
theorem dX4_findLoads : dcheck cX4_findLoads [(0, .iconst 0, 1), (1, .istore_n 3, 1), (2, .iload_n 3, 1), (3, .bipush 16, 2), (5, .if_icmp .ge 21, 3), (8, .aload_n 0, 1), (9, .getfield 18, 3), (12, .iload_n 2, 1), (13, .bipush 16, 2), (15, .imul, 1), (16, .iload_n 3, 1), (17, .iadd, 1), (18, .iconst 0, 1), (19, .iastore, 1), (20, .iinc 3 1, 3), (23, .goto (-21), 3), (26, .iconst 0, 1), (27, .istore_n 3, 1), (28, .iload_n 3, 1), (29, .aload_n 1, 1), (30, .getfield 49, 3), (33, .if_icmp .ge 72, 3), (36, .aload_n 1, 1), (37, .iload_n 3, 1), (38, .invokevirtual 55, 3), (41, .istore 4, 2), (43, .aload_n 1, 1), (44, .getfield 59, 3), (47, .iload_n 2, 1), (48, .bipush 6, 2), (50, .imul, 1), (51, .iload_n 3, 1), (52, .iadd, 1), (53, .iaload, 1), (54, .istore 5, 2), (56, .iconst 0, 1), (57, .istore 6, 2), (59, .iload 6, 2), (61, .bipush 16, 2), (63, .if_icmp .ge 36, 3), (66, .iload 4, 2), (68, .iload 6, 2), (70, .iconst (-1), 1), (71, .ixor, 1), (72, .iand, 1), (73, .ifCond .ne 20, 3), (76, .aload_n 0, 1), (77, .getfield 18, 3), (80, .iload_n 2, 1), (81, .bipush 16, 2), (83, .imul, 1), (84, .iload 6, 2), (86, .iadd, 1), (87, .dup2, 1), (88, .iaload, 1), (89, .iload 5, 2), (91, .iadd, 1), (92, .iastore, 1), (93, .iinc 6 1, 3), (96, .goto (-37), 3), (99, .iinc 3 1, 3), (102, .goto (-74), 3), (105, .aload_n 0, 1), (106, .getfield 21, 3), (109, .iload_n 2, 1), (110, .iconst 1, 1), (111, .bastore, 1), (112, .return_, 1)] = true := by decide +kernel
theorem cw_Frt_findLoads {k : Cd} (h1 : kFrt_findLoads.2.2.2.2.1 + 1 ≤ k.2.2.2.2.1) (h2 : 8 + (kFrt_findLoads.2.2.1 + 11) + kFrt_findLoads.2.2.2.2.2 ≤ k.2.2.2.2.2) : Cw k kFrt_findLoads 2 := ⟨wcode_X4_findLoads, wini_SplitProgram_Freight, ⟨by decide, by decide, by decide +kernel⟩, h1, h2⟩
def Frt_findLoads_b2 (v0 : Nat) (v1 : Nat) (v2 : Int32) (s : Int32 × AHeap) : Option ((Int32 × AHeap) ⊕ ((Int32 × AHeap))) :=
  (if 16 ≤ s.1 then some (Sum.inr (s.1, s.2)) else (gfR s.2 v0 4 2).bind fun a1 => (ast 0 s.2 a1 ((v2 * 16) + s.1) 0).bind fun h2 => some (Sum.inl (s.1 + 1, h2)))
theorem Frt_findLoads_b2_J {E : JE} {l : Launch} {G : GX} {r : Option Value} {h' : AHeap} (ok : JOK E l G kFrt_findLoads 0 0 r h') (v0 : Nat) (v1 : Nat) (v2 : Int32) {Y : (Int32 × AHeap) ⊕ ((Int32 × AHeap)) → Prop} (k1 : ∀ s' : Int32 × AHeap, Y (.inl s') → JW E kFrt_findLoads 2 [some (.ref v0), some (.ref v1), some (.int v2), some (.int s'.1), none, none, none] [] s'.2 0 0) (kx26 : ∀ q : Int32 × AHeap, Y (.inr q) → JW E kFrt_findLoads 26 [some (.ref v0), some (.ref v1), some (.int v2), some (.int q.1), none, none, none] [] q.2 0 0) (s : Int32 × AHeap) : J E kFrt_findLoads (Frt_findLoads_b2 v0 v1 v2 s) Y 2 [some (.ref v0), some (.ref v1), some (.int v2), some (.int s.1), none, none, none] [] s.2 0 0 := by
  unfold Frt_findLoads_b2
  refine J_iload_n (pc' := 3) ok (dOf dX4_findLoads 2 rfl) rfl rfl rfl ?_
  refine J_bipush (v := 16) (pc' := 5) ok (dOf dX4_findLoads 3 rfl) rfl (by decide) ?_
  refine J_icmp_ge (tgt := 26) (pc' := 8) ok (dOf dX4_findLoads 4 rfl) rfl (by decide) ?_ ?_
  · exact J_fin (kx26 (s.1, s.2))
  · refine J_aload_n (pc' := 9) ok (dOf dX4_findLoads 5 rfl) rfl rfl rfl ?_
    refine J_getR (ci := 4) (kf := 2) (C := RX4) (T := TX4) (N := 12) (pc' := 12) ok (dOf dX4_findLoads 6 rfl) rfl (by decide) rfl (by decide) win_4 wfl_X4_18 (fun a1 => ?_)
    refine J_iload_n (pc' := 13) ok (dOf dX4_findLoads 7 rfl) rfl rfl rfl ?_
    refine J_bipush (v := 16) (pc' := 15) ok (dOf dX4_findLoads 8 rfl) rfl (by decide) ?_
    refine J_imul (pc' := 16) ok (dOf dX4_findLoads 9 rfl) rfl ?_
    refine J_iload_n (pc' := 17) ok (dOf dX4_findLoads 10 rfl) rfl rfl rfl ?_
    refine J_iadd (pc' := 18) ok (dOf dX4_findLoads 11 rfl) rfl ?_
    refine J_iconst (v := 0) (pc' := 19) ok (dOf dX4_findLoads 12 rfl) rfl (by decide) ?_
    refine J_iast (pc' := 20) ok (dOf dX4_findLoads 13 rfl) rfl (fun h2 _ => ?_)
    refine J_iinc (v := s.1 + 1) (ls' := [some (.ref v0), some (.ref v1), some (.int v2), some (.int (s.1 + 1)), none, none, none]) (pc' := 23) ok (dOf dX4_findLoads 14 rfl) rfl rfl (by rfl) (Nat.le_of_ble_eq_true rfl) rfl rfl ?_
    refine J_goto (tgt := 2) ok (dOf dX4_findLoads 15 rfl) (by decide) ?_
    exact J_fin (k1 (s.1 + 1, h2))
def Frt_findLoads_j93 (v0 : Nat) (v1 : Nat) (v2 : Int32) (v3 : Int32) (v4 : Int32) (v5 : Int32) (v6 : Int32) (h : AHeap) : Option ((Int32 × AHeap) ⊕ ((Int32 × AHeap))) :=
  some (Sum.inl (v6 + 1, h))
theorem Frt_findLoads_j93_J {E : JE} {l : Launch} {G : GX} {r : Option Value} {h' : AHeap} (ok : JOK E l G kFrt_findLoads 0 0 r h') (v0 : Nat) (v1 : Nat) (v2 : Int32) (v3 : Int32) (v4 : Int32) (v5 : Int32) (v6 : Int32) (h : AHeap) {Y : (Int32 × AHeap) ⊕ ((Int32 × AHeap)) → Prop} (k1 : ∀ s' : Int32 × AHeap, Y (.inl s') → JW E kFrt_findLoads 59 [some (.ref v0), some (.ref v1), some (.int v2), some (.int v3), some (.int v4), some (.int v5), some (.int s'.1)] [] s'.2 0 0) (kx99 : ∀ q : Int32 × AHeap, Y (.inr q) → JW E kFrt_findLoads 99 [some (.ref v0), some (.ref v1), some (.int v2), some (.int v3), some (.int v4), some (.int v5), some (.int q.1)] [] q.2 0 0) : J E kFrt_findLoads (Frt_findLoads_j93 v0 v1 v2 v3 v4 v5 v6 h) Y 93 [some (.ref v0), some (.ref v1), some (.int v2), some (.int v3), some (.int v4), some (.int v5), some (.int v6)] [] h 0 0 := by
  unfold Frt_findLoads_j93
  refine J_iinc (v := v6 + 1) (ls' := [some (.ref v0), some (.ref v1), some (.int v2), some (.int v3), some (.int v4), some (.int v5), some (.int (v6 + 1))]) (pc' := 96) ok (dOf dX4_findLoads 58 rfl) rfl rfl (by rfl) (Nat.le_of_ble_eq_true rfl) rfl rfl ?_
  refine J_goto (tgt := 59) ok (dOf dX4_findLoads 59 rfl) (by decide) ?_
  exact J_fin (k1 (v6 + 1, h))
def Frt_findLoads_b59 (v0 : Nat) (v1 : Nat) (v2 : Int32) (v3 : Int32) (v4 : Int32) (v5 : Int32) (s : Int32 × AHeap) : Option ((Int32 × AHeap) ⊕ ((Int32 × AHeap))) :=
  (if 16 ≤ s.1 then some (Sum.inr (s.1, s.2)) else (if ¬ (v4 &&& (s.1 ^^^ (-1))) = 0 then Frt_findLoads_j93 v0 v1 v2 v3 v4 v5 s.1 s.2 else (gfR s.2 v0 4 2).bind fun a8 => (ald 0 s.2 a8 ((v2 * 16) + s.1)).bind fun x9 => (ast 0 s.2 a8 ((v2 * 16) + s.1) (x9 + v5)).bind fun h10 => Frt_findLoads_j93 v0 v1 v2 v3 v4 v5 s.1 h10))
theorem Frt_findLoads_b59_J {E : JE} {l : Launch} {G : GX} {r : Option Value} {h' : AHeap} (ok : JOK E l G kFrt_findLoads 0 0 r h') (v0 : Nat) (v1 : Nat) (v2 : Int32) (v3 : Int32) (v4 : Int32) (v5 : Int32) {Y : (Int32 × AHeap) ⊕ ((Int32 × AHeap)) → Prop} (k1 : ∀ s' : Int32 × AHeap, Y (.inl s') → JW E kFrt_findLoads 59 [some (.ref v0), some (.ref v1), some (.int v2), some (.int v3), some (.int v4), some (.int v5), some (.int s'.1)] [] s'.2 0 0) (kx99 : ∀ q : Int32 × AHeap, Y (.inr q) → JW E kFrt_findLoads 99 [some (.ref v0), some (.ref v1), some (.int v2), some (.int v3), some (.int v4), some (.int v5), some (.int q.1)] [] q.2 0 0) (s : Int32 × AHeap) : J E kFrt_findLoads (Frt_findLoads_b59 v0 v1 v2 v3 v4 v5 s) Y 59 [some (.ref v0), some (.ref v1), some (.int v2), some (.int v3), some (.int v4), some (.int v5), some (.int s.1)] [] s.2 0 0 := by
  unfold Frt_findLoads_b59
  refine J_iload (pc' := 61) ok (dOf dX4_findLoads 37 rfl) rfl rfl ?_
  refine J_bipush (v := 16) (pc' := 63) ok (dOf dX4_findLoads 38 rfl) rfl (by decide) ?_
  refine J_icmp_ge (tgt := 99) (pc' := 66) ok (dOf dX4_findLoads 39 rfl) rfl (by decide) ?_ ?_
  · exact J_fin (kx99 (s.1, s.2))
  · refine J_iload (pc' := 68) ok (dOf dX4_findLoads 40 rfl) rfl rfl ?_
    refine J_iload (pc' := 70) ok (dOf dX4_findLoads 41 rfl) rfl rfl ?_
    refine J_iconst (v := (-1)) (pc' := 71) ok (dOf dX4_findLoads 42 rfl) rfl (by decide) ?_
    refine J_ixor (pc' := 72) ok (dOf dX4_findLoads 43 rfl) rfl ?_
    refine J_iand (pc' := 73) ok (dOf dX4_findLoads 44 rfl) rfl ?_
    refine J_if_ne (tgt := 93) (pc' := 76) ok (dOf dX4_findLoads 45 rfl) rfl (by decide) ?_ ?_
    · exact Frt_findLoads_j93_J ok v0 v1 v2 v3 v4 v5 s.1 s.2 k1 kx99
    · refine J_aload_n (pc' := 77) ok (dOf dX4_findLoads 46 rfl) rfl rfl rfl ?_
      refine J_getR (ci := 4) (kf := 2) (C := RX4) (T := TX4) (N := 12) (pc' := 80) ok (dOf dX4_findLoads 47 rfl) rfl (by decide) rfl (by decide) win_4 wfl_X4_18 (fun a8 => ?_)
      refine J_iload_n (pc' := 81) ok (dOf dX4_findLoads 48 rfl) rfl rfl rfl ?_
      refine J_bipush (v := 16) (pc' := 83) ok (dOf dX4_findLoads 49 rfl) rfl (by decide) ?_
      refine J_imul (pc' := 84) ok (dOf dX4_findLoads 50 rfl) rfl ?_
      refine J_iload (pc' := 86) ok (dOf dX4_findLoads 51 rfl) rfl rfl ?_
      refine J_iadd (pc' := 87) ok (dOf dX4_findLoads 52 rfl) rfl ?_
      refine J_dup2 (pc' := 88) ok (dOf dX4_findLoads 53 rfl) rfl rfl rfl ?_
      refine J_iald (pc' := 89) ok (dOf dX4_findLoads 54 rfl) rfl (fun x9 => ?_)
      refine J_iload (pc' := 91) ok (dOf dX4_findLoads 55 rfl) rfl rfl ?_
      refine J_iadd (pc' := 92) ok (dOf dX4_findLoads 56 rfl) rfl ?_
      refine J_iast (pc' := 93) ok (dOf dX4_findLoads 57 rfl) rfl (fun h10 _ => ?_)
      exact Frt_findLoads_j93_J ok v0 v1 v2 v3 v4 v5 s.1 h10 k1 kx99
def Frt_findLoads_j99 (v0 : Nat) (v1 : Nat) (v2 : Int32) (v3 : Int32) (v4 : Int32) (v5 : Int32) (v6 : Int32) (h : AHeap) : Option ((Int32 × AHeap) ⊕ ((Int32 × AHeap))) :=
  some (Sum.inl (v3 + 1, h))
theorem Frt_findLoads_j99_J {E : JE} {l : Launch} {G : GX} {r : Option Value} {h' : AHeap} (ok : JOK E l G kFrt_findLoads 0 0 r h') (v0 : Nat) (v1 : Nat) (v2 : Int32) (v3 : Int32) (v4 : Int32) (v5 : Int32) (v6 : Int32) (h : AHeap) {Y : (Int32 × AHeap) ⊕ ((Int32 × AHeap)) → Prop} (k1 : ∀ s' : Int32 × AHeap, Y (.inl s') → JW E kFrt_findLoads 28 [some (.ref v0), some (.ref v1), some (.int v2), some (.int s'.1), none, none, none] [] s'.2 0 0) (kx105 : ∀ q : Int32 × AHeap, Y (.inr q) → JW E kFrt_findLoads 105 [some (.ref v0), some (.ref v1), some (.int v2), some (.int q.1), none, none, none] [] q.2 0 0) : J E kFrt_findLoads (Frt_findLoads_j99 v0 v1 v2 v3 v4 v5 v6 h) Y 99 [some (.ref v0), some (.ref v1), some (.int v2), some (.int v3), some (.int v4), some (.int v5), some (.int v6)] [] h 0 0 := by
  unfold Frt_findLoads_j99
  refine J_iinc (v := v3 + 1) (ls' := [some (.ref v0), some (.ref v1), some (.int v2), some (.int (v3 + 1)), some (.int v4), some (.int v5), some (.int v6)]) (pc' := 102) ok (dOf dX4_findLoads 60 rfl) rfl rfl (by rfl) (Nat.le_of_ble_eq_true rfl) rfl rfl ?_
  refine J_goto (tgt := 28) ok (dOf dX4_findLoads 61 rfl) (by decide) ?_
  refine J_weak (ls' := [some (.ref v0), some (.ref v1), some (.int v2), some (.int (v3 + 1)), none, none, none]) ⟨rfl, rfl, rfl, rfl, trivial⟩ ?_
  exact J_fin (k1 (v3 + 1, h))
def Frt_findLoads_b28 (v0 : Nat) (v1 : Nat) (v2 : Int32) (s : Int32 × AHeap) : Option ((Int32 × AHeap) ⊕ ((Int32 × AHeap))) :=
  (gfI s.2 v1 6 1).bind fun x3 => (if x3 ≤ s.1 then some (Sum.inr (s.1, s.2)) else (chk s.2 v1 6).bind fun _ => bnd2 (Prog_plantsOf v1 s.1 s.2) fun x5 h4 => (gfR h4 v1 6 8).bind fun a6 => (ald 0 h4 a6 ((v2 * 6) + s.1)).bind fun x7 => (iter (Frt_findLoads_b59 v0 v1 v2 s.1 x5 x7) Lmax (0, h4)).bind (fun (q59 : Int32 × AHeap) => Frt_findLoads_j99 v0 v1 v2 s.1 x5 x7 q59.1 q59.2))
theorem Frt_findLoads_b28_J {E : JE} {l : Launch} {G : GX} {r : Option Value} {h' : AHeap} (ok : JOK E l G kFrt_findLoads 0 0 r h') (v0 : Nat) (v1 : Nat) (v2 : Int32) {Y : (Int32 × AHeap) ⊕ ((Int32 × AHeap)) → Prop} (k1 : ∀ s' : Int32 × AHeap, Y (.inl s') → JW E kFrt_findLoads 28 [some (.ref v0), some (.ref v1), some (.int v2), some (.int s'.1), none, none, none] [] s'.2 0 0) (kx105 : ∀ q : Int32 × AHeap, Y (.inr q) → JW E kFrt_findLoads 105 [some (.ref v0), some (.ref v1), some (.int v2), some (.int q.1), none, none, none] [] q.2 0 0) (s : Int32 × AHeap) : J E kFrt_findLoads (Frt_findLoads_b28 v0 v1 v2 s) Y 28 [some (.ref v0), some (.ref v1), some (.int v2), some (.int s.1), none, none, none] [] s.2 0 0 := by
  unfold Frt_findLoads_b28
  refine J_iload_n (pc' := 29) ok (dOf dX4_findLoads 18 rfl) rfl rfl rfl ?_
  refine J_aload_n (pc' := 30) ok (dOf dX4_findLoads 19 rfl) rfl rfl rfl ?_
  refine J_getI (ci := 6) (kf := 1) (C := RX6) (T := TX6) (N := 9) (pc' := 33) ok (dOf dX4_findLoads 20 rfl) rfl (by decide) rfl (by decide) win_6 wfl_X4_49 (fun x3 => ?_)
  refine J_icmp_ge (tgt := 105) (pc' := 36) ok (dOf dX4_findLoads 21 rfl) rfl (by decide) ?_ ?_
  · exact J_fin (kx105 (s.1, s.2))
  · refine J_aload_n (pc' := 37) ok (dOf dX4_findLoads 22 rfl) rfl rfl rfl ?_
    refine J_iload_n (pc' := 38) ok (dOf dX4_findLoads 23 rfl) rfl rfl rfl ?_
    refine J_callVi (k2 := kProg_plantsOf) (ci := 6) (T := TX6) (N := 9) (as := [.int s.1]) (pc' := 41) ok (dOf dX4_findLoads 24 rfl) rfl (cw_Prog_plantsOf (by decide) (by decide)) wml_X4_55 winst_X6_plantsOf wsel_X6_plantsOf rfl ⟨Nat.le_refl 0, Nat.le_refl 0⟩ (Nat.le_of_ble_eq_true rfl) rfl (fun _ _ hf => t_Prog_plantsOf hf) (fun x5 h4 => ?_)
    refine J_istore (ls' := [some (.ref v0), some (.ref v1), some (.int v2), some (.int s.1), some (.int x5), none, none]) (pc' := 43) ok (dOf dX4_findLoads 25 rfl) rfl (Nat.le_of_ble_eq_true rfl) rfl rfl ?_
    refine J_aload_n (pc' := 44) ok (dOf dX4_findLoads 26 rfl) rfl rfl rfl ?_
    refine J_getR (ci := 6) (kf := 8) (C := RX6) (T := TX6) (N := 9) (pc' := 47) ok (dOf dX4_findLoads 27 rfl) rfl (by decide) rfl (by decide) win_6 wfl_X4_59 (fun a6 => ?_)
    refine J_iload_n (pc' := 48) ok (dOf dX4_findLoads 28 rfl) rfl rfl rfl ?_
    refine J_bipush (v := 6) (pc' := 50) ok (dOf dX4_findLoads 29 rfl) rfl (by decide) ?_
    refine J_imul (pc' := 51) ok (dOf dX4_findLoads 30 rfl) rfl ?_
    refine J_iload_n (pc' := 52) ok (dOf dX4_findLoads 31 rfl) rfl rfl rfl ?_
    refine J_iadd (pc' := 53) ok (dOf dX4_findLoads 32 rfl) rfl ?_
    refine J_iald (pc' := 54) ok (dOf dX4_findLoads 33 rfl) rfl (fun x7 => ?_)
    refine J_istore (ls' := [some (.ref v0), some (.ref v1), some (.int v2), some (.int s.1), some (.int x5), some (.int x7), none]) (pc' := 56) ok (dOf dX4_findLoads 34 rfl) rfl (Nat.le_of_ble_eq_true rfl) rfl rfl ?_
    refine J_iconst (v := 0) (pc' := 57) ok (dOf dX4_findLoads 35 rfl) rfl (by decide) ?_
    refine J_istore (ls' := [some (.ref v0), some (.ref v1), some (.int v2), some (.int s.1), some (.int x5), some (.int x7), some (.int 0)]) (pc' := 59) ok (dOf dX4_findLoads 36 rfl) rfl (Nat.le_of_ble_eq_true rfl) rfl rfl ?_
    refine J_iter (lf := fun z59 => [some (.ref v0), some (.ref v1), some (.int v2), some (.int s.1), some (.int x5), some (.int x7), some (.int z59.1)]) (sf := fun _ => []) (hf := fun z59 => z59.2) (px := (fun (q59 : Int32 × AHeap) => 99)) (lx := (fun (q59 : Int32 × AHeap) => [some (.ref v0), some (.ref v1), some (.int v2), some (.int s.1), some (.int x5), some (.int x7), some (.int q59.1)])) (sx := (fun (q59 : Int32 × AHeap) => [])) (hx := (fun (q59 : Int32 × AHeap) => q59.2)) (fun Y2 z59 m1 m2 => Frt_findLoads_b59_J ok v0 v1 v2 s.1 x5 x7 m1 m2 z59) (fun q59 => ?_) Lmax _
    exact Frt_findLoads_j99_J ok v0 v1 v2 s.1 x5 x7 q59.1 q59.2 k1 kx105
def Frt_findLoads_j105 (v0 : Nat) (v1 : Nat) (v2 : Int32) (v3 : Int32) (h : AHeap) : Option (Unit × AHeap) :=
  (gfR h v0 4 3).bind fun a11 => (ast 1 h a11 v2 1).bind fun h12 => some ((), h12)
theorem Frt_findLoads_j105_J {E : JE} {l : Launch} {G : GX} {h' : AHeap} (ok : JOK E l G kFrt_findLoads 0 0 none h') (v0 : Nat) (v1 : Nat) (v2 : Int32) (v3 : Int32) (h : AHeap) : J E kFrt_findLoads (Frt_findLoads_j105 v0 v1 v2 v3 h) (fun z => z = ((), h')) 105 [some (.ref v0), some (.ref v1), some (.int v2), some (.int v3), none, none, none] [] h 0 0 := by
  unfold Frt_findLoads_j105
  refine J_aload_n (pc' := 106) ok (dOf dX4_findLoads 62 rfl) rfl rfl rfl ?_
  refine J_getR (ci := 4) (kf := 3) (C := RX4) (T := TX4) (N := 12) (pc' := 109) ok (dOf dX4_findLoads 63 rfl) rfl (by decide) rfl (by decide) win_4 wfl_X4_21 (fun a11 => ?_)
  refine J_iload_n (pc' := 110) ok (dOf dX4_findLoads 64 rfl) rfl rfl rfl ?_
  refine J_iconst (v := 1) (pc' := 111) ok (dOf dX4_findLoads 65 rfl) rfl (by decide) ?_
  refine J_zast (pc' := 112) ok (dOf dX4_findLoads 66 rfl) rfl (fun h12 _ => ?_)
  exact J_vreturn ok (dOf dX4_findLoads 67 rfl) rfl (Eq.refl 0) (Nat.le_refl 0)
def Frt_findLoads_j26 (v0 : Nat) (v1 : Nat) (v2 : Int32) (v3 : Int32) (h : AHeap) : Option (Unit × AHeap) :=
  (iter (Frt_findLoads_b28 v0 v1 v2) Lmax (0, h)).bind (fun (q28 : Int32 × AHeap) => Frt_findLoads_j105 v0 v1 v2 q28.1 q28.2)
theorem Frt_findLoads_j26_J {E : JE} {l : Launch} {G : GX} {h' : AHeap} (ok : JOK E l G kFrt_findLoads 0 0 none h') (v0 : Nat) (v1 : Nat) (v2 : Int32) (v3 : Int32) (h : AHeap) : J E kFrt_findLoads (Frt_findLoads_j26 v0 v1 v2 v3 h) (fun z => z = ((), h')) 26 [some (.ref v0), some (.ref v1), some (.int v2), some (.int v3), none, none, none] [] h 0 0 := by
  unfold Frt_findLoads_j26
  refine J_iconst (v := 0) (pc' := 27) ok (dOf dX4_findLoads 16 rfl) rfl (by decide) ?_
  refine J_istore_n (ls' := [some (.ref v0), some (.ref v1), some (.int v2), some (.int 0), none, none, none]) (pc' := 28) ok (dOf dX4_findLoads 17 rfl) rfl rfl (Nat.le_of_ble_eq_true rfl) rfl rfl ?_
  refine J_iter (lf := fun z28 => [some (.ref v0), some (.ref v1), some (.int v2), some (.int z28.1), none, none, none]) (sf := fun _ => []) (hf := fun z28 => z28.2) (px := (fun (q28 : Int32 × AHeap) => 105)) (lx := (fun (q28 : Int32 × AHeap) => [some (.ref v0), some (.ref v1), some (.int v2), some (.int q28.1), none, none, none])) (sx := (fun (q28 : Int32 × AHeap) => [])) (hx := (fun (q28 : Int32 × AHeap) => q28.2)) (fun Y2 z28 m1 m2 => Frt_findLoads_b28_J ok v0 v1 v2 m1 m2 z28) (fun q28 => ?_) Lmax _
  exact Frt_findLoads_j105_J ok v0 v1 v2 q28.1 q28.2
def Frt_findLoads (v0 : Nat) (v1 : Nat) (v2 : Int32) (h : AHeap) : Option (Unit × AHeap) :=
  (iter (Frt_findLoads_b2 v0 v1 v2) Lmax (0, h)).bind (fun (q2 : Int32 × AHeap) => Frt_findLoads_j26 v0 v1 v2 q2.1 q2.2)
theorem t_Frt_findLoads {l : Launch} {G : GX} {v0 : Nat} {v1 : Nat} {v2 : Int32} {h : AHeap} {h1 : AHeap} (hf : Frt_findLoads v0 v1 v2 h = some ((), h1)) : CT l G kFrt_findLoads 0 0 [.ref v0, .ref v1, .int v2] h none h1 := by
  refine CT_of (ls := [some (.ref v0), some (.ref v1), some (.int v2), none, none, none, none]) (Z := fun z => z = ((), h1)) (by decide +kernel) (Nat.le_of_ble_eq_true rfl) hf rfl ⟨rfl, rfl, rfl, trivial⟩ (fun E ok => ?_)
  unfold Frt_findLoads
  refine J_iconst (v := 0) (pc' := 1) ok (dOf dX4_findLoads 0 rfl) rfl (by decide) ?_
  refine J_istore_n (ls' := [some (.ref v0), some (.ref v1), some (.int v2), some (.int 0), none, none, none]) (pc' := 2) ok (dOf dX4_findLoads 1 rfl) rfl rfl (Nat.le_of_ble_eq_true rfl) rfl rfl ?_
  refine J_iter (lf := fun z2 => [some (.ref v0), some (.ref v1), some (.int v2), some (.int z2.1), none, none, none]) (sf := fun _ => []) (hf := fun z2 => z2.2) (px := (fun (q2 : Int32 × AHeap) => 26)) (lx := (fun (q2 : Int32 × AHeap) => [some (.ref v0), some (.ref v1), some (.int v2), some (.int q2.1), none, none, none])) (sx := (fun (q2 : Int32 × AHeap) => [])) (hx := (fun (q2 : Int32 × AHeap) => q2.2)) (fun Y2 z2 m1 m2 => Frt_findLoads_b2_J ok v0 v1 v2 m1 m2 z2) (fun q2 => ?_) Lmax _
  exact Frt_findLoads_j26_J ok v0 v1 v2 q2.1 q2.2
-- X4_findStocks
abbrev kFrt_findStocks : Cd := (yX4_findStocks, cX4_findStocks, 6, none, 1, 21)
theorem dX4_findStocks : dcheck cX4_findStocks [(0, .aload_n 0, 1), (1, .getfield 15, 3), (4, .iconst 0, 1), (5, .iconst 0, 1), (6, .iastore, 1), (7, .iconst 0, 1), (8, .istore_n 3, 1), (9, .iload_n 3, 1), (10, .iconst 4, 1), (11, .if_icmp .ge 72, 3), (14, .aload_n 0, 1), (15, .getfield 9, 3), (18, .iload_n 3, 1), (19, .iload_n 2, 1), (20, .iload_n 3, 1), (21, .invokestatic 62, 3), (24, .aload_n 1, 1), (25, .getfield 66, 3), (28, .iload_n 3, 1), (29, .iaload, 1), (30, .imul, 1), (31, .iastore, 1), (32, .iconst 1, 1), (33, .iload_n 3, 1), (34, .ishl, 1), (35, .istore 4, 2), (37, .iconst 0, 1), (38, .istore 5, 2), (40, .iload 5, 2), (42, .iload 4, 2), (44, .if_icmp .ge 33, 3), (47, .aload_n 0, 1), (48, .getfield 15, 3), (51, .iload 4, 2), (53, .iload 5, 2), (55, .iadd, 1), (56, .aload_n 0, 1), (57, .getfield 15, 3), (60, .iload 5, 2), (62, .iaload, 1), (63, .aload_n 0, 1), (64, .getfield 9, 3), (67, .iload_n 3, 1), (68, .iaload, 1), (69, .iadd, 1), (70, .iastore, 1), (71, .iinc 5 1, 3), (74, .goto (-34), 3), (77, .iinc 3 1, 3), (80, .goto (-71), 3), (83, .return_, 1)] = true := by decide +kernel
theorem cw_Frt_findStocks {k : Cd} (h1 : kFrt_findStocks.2.2.2.2.1 + 1 ≤ k.2.2.2.2.1) (h2 : 8 + (kFrt_findStocks.2.2.1 + 11) + kFrt_findStocks.2.2.2.2.2 ≤ k.2.2.2.2.2) : Cw k kFrt_findStocks 2 := ⟨wcode_X4_findStocks, wini_SplitProgram_Freight, ⟨by decide, by decide, by decide +kernel⟩, h1, h2⟩
def Frt_findStocks_b40 (v0 : Nat) (v1 : Nat) (v2 : Int32) (v3 : Int32) (v4 : Int32) (s : Int32 × AHeap) : Option ((Int32 × AHeap) ⊕ ((Int32 × AHeap))) :=
  (if v4 ≤ s.1 then some (Sum.inr (s.1, s.2)) else (gfR s.2 v0 4 1).bind fun a9 => (gfR s.2 v0 4 1).bind fun a10 => (ald 0 s.2 a10 s.1).bind fun x11 => (gfR s.2 v0 4 0).bind fun a12 => (ald 0 s.2 a12 v3).bind fun x13 => (ast 0 s.2 a9 (v4 + s.1) (x11 + x13)).bind fun h14 => some (Sum.inl (s.1 + 1, h14)))
theorem Frt_findStocks_b40_J {E : JE} {l : Launch} {G : GX} {r : Option Value} {h' : AHeap} (ok : JOK E l G kFrt_findStocks 0 0 r h') (v0 : Nat) (v1 : Nat) (v2 : Int32) (v3 : Int32) (v4 : Int32) {Y : (Int32 × AHeap) ⊕ ((Int32 × AHeap)) → Prop} (k1 : ∀ s' : Int32 × AHeap, Y (.inl s') → JW E kFrt_findStocks 40 [some (.ref v0), some (.ref v1), some (.int v2), some (.int v3), some (.int v4), some (.int s'.1)] [] s'.2 0 0) (kx77 : ∀ q : Int32 × AHeap, Y (.inr q) → JW E kFrt_findStocks 77 [some (.ref v0), some (.ref v1), some (.int v2), some (.int v3), some (.int v4), some (.int q.1)] [] q.2 0 0) (s : Int32 × AHeap) : J E kFrt_findStocks (Frt_findStocks_b40 v0 v1 v2 v3 v4 s) Y 40 [some (.ref v0), some (.ref v1), some (.int v2), some (.int v3), some (.int v4), some (.int s.1)] [] s.2 0 0 := by
  unfold Frt_findStocks_b40
  refine J_iload (pc' := 42) ok (dOf dX4_findStocks 28 rfl) rfl rfl ?_
  refine J_iload (pc' := 44) ok (dOf dX4_findStocks 29 rfl) rfl rfl ?_
  refine J_icmp_ge (tgt := 77) (pc' := 47) ok (dOf dX4_findStocks 30 rfl) rfl (by decide) ?_ ?_
  · exact J_fin (kx77 (s.1, s.2))
  · refine J_aload_n (pc' := 48) ok (dOf dX4_findStocks 31 rfl) rfl rfl rfl ?_
    refine J_getR (ci := 4) (kf := 1) (C := RX4) (T := TX4) (N := 12) (pc' := 51) ok (dOf dX4_findStocks 32 rfl) rfl (by decide) rfl (by decide) win_4 wfl_X4_15 (fun a9 => ?_)
    refine J_iload (pc' := 53) ok (dOf dX4_findStocks 33 rfl) rfl rfl ?_
    refine J_iload (pc' := 55) ok (dOf dX4_findStocks 34 rfl) rfl rfl ?_
    refine J_iadd (pc' := 56) ok (dOf dX4_findStocks 35 rfl) rfl ?_
    refine J_aload_n (pc' := 57) ok (dOf dX4_findStocks 36 rfl) rfl rfl rfl ?_
    refine J_getR (ci := 4) (kf := 1) (C := RX4) (T := TX4) (N := 12) (pc' := 60) ok (dOf dX4_findStocks 37 rfl) rfl (by decide) rfl (by decide) win_4 wfl_X4_15 (fun a10 => ?_)
    refine J_iload (pc' := 62) ok (dOf dX4_findStocks 38 rfl) rfl rfl ?_
    refine J_iald (pc' := 63) ok (dOf dX4_findStocks 39 rfl) rfl (fun x11 => ?_)
    refine J_aload_n (pc' := 64) ok (dOf dX4_findStocks 40 rfl) rfl rfl rfl ?_
    refine J_getR (ci := 4) (kf := 0) (C := RX4) (T := TX4) (N := 12) (pc' := 67) ok (dOf dX4_findStocks 41 rfl) rfl (by decide) rfl (by decide) win_4 wfl_X4_9 (fun a12 => ?_)
    refine J_iload_n (pc' := 68) ok (dOf dX4_findStocks 42 rfl) rfl rfl rfl ?_
    refine J_iald (pc' := 69) ok (dOf dX4_findStocks 43 rfl) rfl (fun x13 => ?_)
    refine J_iadd (pc' := 70) ok (dOf dX4_findStocks 44 rfl) rfl ?_
    refine J_iast (pc' := 71) ok (dOf dX4_findStocks 45 rfl) rfl (fun h14 _ => ?_)
    refine J_iinc (v := s.1 + 1) (ls' := [some (.ref v0), some (.ref v1), some (.int v2), some (.int v3), some (.int v4), some (.int (s.1 + 1))]) (pc' := 74) ok (dOf dX4_findStocks 46 rfl) rfl rfl (by rfl) (Nat.le_of_ble_eq_true rfl) rfl rfl ?_
    refine J_goto (tgt := 40) ok (dOf dX4_findStocks 47 rfl) (by decide) ?_
    exact J_fin (k1 (s.1 + 1, h14))
def Frt_findStocks_j77 (v0 : Nat) (v1 : Nat) (v2 : Int32) (v3 : Int32) (v4 : Int32) (v5 : Int32) (h : AHeap) : Option ((Int32 × AHeap) ⊕ ((Int32 × AHeap))) :=
  some (Sum.inl (v3 + 1, h))
theorem Frt_findStocks_j77_J {E : JE} {l : Launch} {G : GX} {r : Option Value} {h' : AHeap} (ok : JOK E l G kFrt_findStocks 0 0 r h') (v0 : Nat) (v1 : Nat) (v2 : Int32) (v3 : Int32) (v4 : Int32) (v5 : Int32) (h : AHeap) {Y : (Int32 × AHeap) ⊕ ((Int32 × AHeap)) → Prop} (k1 : ∀ s' : Int32 × AHeap, Y (.inl s') → JW E kFrt_findStocks 9 [some (.ref v0), some (.ref v1), some (.int v2), some (.int s'.1), none, none] [] s'.2 0 0) (kx83 : ∀ q : Int32 × AHeap, Y (.inr q) → JW E kFrt_findStocks 83 [some (.ref v0), some (.ref v1), some (.int v2), some (.int q.1), none, none] [] q.2 0 0) : J E kFrt_findStocks (Frt_findStocks_j77 v0 v1 v2 v3 v4 v5 h) Y 77 [some (.ref v0), some (.ref v1), some (.int v2), some (.int v3), some (.int v4), some (.int v5)] [] h 0 0 := by
  unfold Frt_findStocks_j77
  refine J_iinc (v := v3 + 1) (ls' := [some (.ref v0), some (.ref v1), some (.int v2), some (.int (v3 + 1)), some (.int v4), some (.int v5)]) (pc' := 80) ok (dOf dX4_findStocks 48 rfl) rfl rfl (by rfl) (Nat.le_of_ble_eq_true rfl) rfl rfl ?_
  refine J_goto (tgt := 9) ok (dOf dX4_findStocks 49 rfl) (by decide) ?_
  refine J_weak (ls' := [some (.ref v0), some (.ref v1), some (.int v2), some (.int (v3 + 1)), none, none]) ⟨rfl, rfl, rfl, rfl, trivial⟩ ?_
  exact J_fin (k1 (v3 + 1, h))
def Frt_findStocks_b9 (v0 : Nat) (v1 : Nat) (v2 : Int32) (s : Int32 × AHeap) : Option ((Int32 × AHeap) ⊕ ((Int32 × AHeap))) :=
  (if 4 ≤ s.1 then some (Sum.inr (s.1, s.2)) else (gfR s.2 v0 4 0).bind fun a3 => bnd2 (Sp_unitsIn v2 s.1 s.2) fun x5 h4 => (gfR h4 v1 6 4).bind fun a6 => (ald 0 h4 a6 s.1).bind fun x7 => (ast 0 h4 a3 s.1 (x5 * x7)).bind fun h8 => (iter (Frt_findStocks_b40 v0 v1 v2 s.1 ((1 : Int32) <<< (s.1 &&& 31))) Lmax (0, h8)).bind (fun (q40 : Int32 × AHeap) => Frt_findStocks_j77 v0 v1 v2 s.1 ((1 : Int32) <<< (s.1 &&& 31)) q40.1 q40.2))
theorem Frt_findStocks_b9_J {E : JE} {l : Launch} {G : GX} {r : Option Value} {h' : AHeap} (ok : JOK E l G kFrt_findStocks 0 0 r h') (v0 : Nat) (v1 : Nat) (v2 : Int32) {Y : (Int32 × AHeap) ⊕ ((Int32 × AHeap)) → Prop} (k1 : ∀ s' : Int32 × AHeap, Y (.inl s') → JW E kFrt_findStocks 9 [some (.ref v0), some (.ref v1), some (.int v2), some (.int s'.1), none, none] [] s'.2 0 0) (kx83 : ∀ q : Int32 × AHeap, Y (.inr q) → JW E kFrt_findStocks 83 [some (.ref v0), some (.ref v1), some (.int v2), some (.int q.1), none, none] [] q.2 0 0) (s : Int32 × AHeap) : J E kFrt_findStocks (Frt_findStocks_b9 v0 v1 v2 s) Y 9 [some (.ref v0), some (.ref v1), some (.int v2), some (.int s.1), none, none] [] s.2 0 0 := by
  unfold Frt_findStocks_b9
  refine J_iload_n (pc' := 10) ok (dOf dX4_findStocks 7 rfl) rfl rfl rfl ?_
  refine J_iconst (v := 4) (pc' := 11) ok (dOf dX4_findStocks 8 rfl) rfl (by decide) ?_
  refine J_icmp_ge (tgt := 83) (pc' := 14) ok (dOf dX4_findStocks 9 rfl) rfl (by decide) ?_ ?_
  · exact J_fin (kx83 (s.1, s.2))
  · refine J_aload_n (pc' := 15) ok (dOf dX4_findStocks 10 rfl) rfl rfl rfl ?_
    refine J_getR (ci := 4) (kf := 0) (C := RX4) (T := TX4) (N := 12) (pc' := 18) ok (dOf dX4_findStocks 11 rfl) rfl (by decide) rfl (by decide) win_4 wfl_X4_9 (fun a3 => ?_)
    refine J_iload_n (pc' := 19) ok (dOf dX4_findStocks 12 rfl) rfl rfl rfl ?_
    refine J_iload_n (pc' := 20) ok (dOf dX4_findStocks 13 rfl) rfl rfl rfl ?_
    refine J_iload_n (pc' := 21) ok (dOf dX4_findStocks 14 rfl) rfl rfl rfl ?_
    refine J_callSNi (k2 := kSp_unitsIn) (as := [.int v2, .int s.1]) (pc' := 24) ok (dOf dX4_findStocks 15 rfl) rfl (cw_Sp_unitsIn (by decide) (by decide)) wmn_X4_62 wstat_X10_unitsIn ⟨Nat.le_refl 0, Nat.le_refl 0⟩ (Nat.le_of_ble_eq_true rfl) rfl (fun _ _ hf => t_Sp_unitsIn hf) (fun x5 h4 => ?_)
    refine J_aload_n (pc' := 25) ok (dOf dX4_findStocks 16 rfl) rfl rfl rfl ?_
    refine J_getR (ci := 6) (kf := 4) (C := RX6) (T := TX6) (N := 9) (pc' := 28) ok (dOf dX4_findStocks 17 rfl) rfl (by decide) rfl (by decide) win_6 wfl_X4_66 (fun a6 => ?_)
    refine J_iload_n (pc' := 29) ok (dOf dX4_findStocks 18 rfl) rfl rfl rfl ?_
    refine J_iald (pc' := 30) ok (dOf dX4_findStocks 19 rfl) rfl (fun x7 => ?_)
    refine J_imul (pc' := 31) ok (dOf dX4_findStocks 20 rfl) rfl ?_
    refine J_iast (pc' := 32) ok (dOf dX4_findStocks 21 rfl) rfl (fun h8 _ => ?_)
    refine J_iconst (v := 1) (pc' := 33) ok (dOf dX4_findStocks 22 rfl) rfl (by decide) ?_
    refine J_iload_n (pc' := 34) ok (dOf dX4_findStocks 23 rfl) rfl rfl rfl ?_
    refine J_ishl (pc' := 35) ok (dOf dX4_findStocks 24 rfl) rfl ?_
    refine J_istore (ls' := [some (.ref v0), some (.ref v1), some (.int v2), some (.int s.1), some (.int ((1 : Int32) <<< (s.1 &&& 31))), none]) (pc' := 37) ok (dOf dX4_findStocks 25 rfl) rfl (Nat.le_of_ble_eq_true rfl) rfl rfl ?_
    refine J_iconst (v := 0) (pc' := 38) ok (dOf dX4_findStocks 26 rfl) rfl (by decide) ?_
    refine J_istore (ls' := [some (.ref v0), some (.ref v1), some (.int v2), some (.int s.1), some (.int ((1 : Int32) <<< (s.1 &&& 31))), some (.int 0)]) (pc' := 40) ok (dOf dX4_findStocks 27 rfl) rfl (Nat.le_of_ble_eq_true rfl) rfl rfl ?_
    refine J_iter (lf := fun z40 => [some (.ref v0), some (.ref v1), some (.int v2), some (.int s.1), some (.int ((1 : Int32) <<< (s.1 &&& 31))), some (.int z40.1)]) (sf := fun _ => []) (hf := fun z40 => z40.2) (px := (fun (q40 : Int32 × AHeap) => 77)) (lx := (fun (q40 : Int32 × AHeap) => [some (.ref v0), some (.ref v1), some (.int v2), some (.int s.1), some (.int ((1 : Int32) <<< (s.1 &&& 31))), some (.int q40.1)])) (sx := (fun (q40 : Int32 × AHeap) => [])) (hx := (fun (q40 : Int32 × AHeap) => q40.2)) (fun Y2 z40 m1 m2 => Frt_findStocks_b40_J ok v0 v1 v2 s.1 ((1 : Int32) <<< (s.1 &&& 31)) m1 m2 z40) (fun q40 => ?_) Lmax _
    exact Frt_findStocks_j77_J ok v0 v1 v2 s.1 ((1 : Int32) <<< (s.1 &&& 31)) q40.1 q40.2 k1 kx83
def Frt_findStocks_j83 (v0 : Nat) (v1 : Nat) (v2 : Int32) (v3 : Int32) (h : AHeap) : Option (Unit × AHeap) :=
  some ((), h)
theorem Frt_findStocks_j83_J {E : JE} {l : Launch} {G : GX} {h' : AHeap} (ok : JOK E l G kFrt_findStocks 0 0 none h') (v0 : Nat) (v1 : Nat) (v2 : Int32) (v3 : Int32) (h : AHeap) : J E kFrt_findStocks (Frt_findStocks_j83 v0 v1 v2 v3 h) (fun z => z = ((), h')) 83 [some (.ref v0), some (.ref v1), some (.int v2), some (.int v3), none, none] [] h 0 0 := by
  unfold Frt_findStocks_j83
  exact J_vreturn ok (dOf dX4_findStocks 50 rfl) rfl (Eq.refl 0) (Nat.le_refl 0)
def Frt_findStocks (v0 : Nat) (v1 : Nat) (v2 : Int32) (h : AHeap) : Option (Unit × AHeap) :=
  (gfR h v0 4 1).bind fun a1 => (ast 0 h a1 0 0).bind fun h2 => (iter (Frt_findStocks_b9 v0 v1 v2) Lmax (0, h2)).bind (fun (q9 : Int32 × AHeap) => Frt_findStocks_j83 v0 v1 v2 q9.1 q9.2)
theorem t_Frt_findStocks {l : Launch} {G : GX} {v0 : Nat} {v1 : Nat} {v2 : Int32} {h : AHeap} {h1 : AHeap} (hf : Frt_findStocks v0 v1 v2 h = some ((), h1)) : CT l G kFrt_findStocks 0 0 [.ref v0, .ref v1, .int v2] h none h1 := by
  refine CT_of (ls := [some (.ref v0), some (.ref v1), some (.int v2), none, none, none]) (Z := fun z => z = ((), h1)) (by decide +kernel) (Nat.le_of_ble_eq_true rfl) hf rfl ⟨rfl, rfl, rfl, trivial⟩ (fun E ok => ?_)
  unfold Frt_findStocks
  refine J_aload_n (pc' := 1) ok (dOf dX4_findStocks 0 rfl) rfl rfl rfl ?_
  refine J_getR (ci := 4) (kf := 1) (C := RX4) (T := TX4) (N := 12) (pc' := 4) ok (dOf dX4_findStocks 1 rfl) rfl (by decide) rfl (by decide) win_4 wfl_X4_15 (fun a1 => ?_)
  refine J_iconst (v := 0) (pc' := 5) ok (dOf dX4_findStocks 2 rfl) rfl (by decide) ?_
  refine J_iconst (v := 0) (pc' := 6) ok (dOf dX4_findStocks 3 rfl) rfl (by decide) ?_
  refine J_iast (pc' := 7) ok (dOf dX4_findStocks 4 rfl) rfl (fun h2 _ => ?_)
  refine J_iconst (v := 0) (pc' := 8) ok (dOf dX4_findStocks 5 rfl) rfl (by decide) ?_
  refine J_istore_n (ls' := [some (.ref v0), some (.ref v1), some (.int v2), some (.int 0), none, none]) (pc' := 9) ok (dOf dX4_findStocks 6 rfl) rfl rfl (Nat.le_of_ble_eq_true rfl) rfl rfl ?_
  refine J_iter (lf := fun z9 => [some (.ref v0), some (.ref v1), some (.int v2), some (.int z9.1), none, none]) (sf := fun _ => []) (hf := fun z9 => z9.2) (px := (fun (q9 : Int32 × AHeap) => 83)) (lx := (fun (q9 : Int32 × AHeap) => [some (.ref v0), some (.ref v1), some (.int v2), some (.int q9.1), none, none])) (sx := (fun (q9 : Int32 × AHeap) => [])) (hx := (fun (q9 : Int32 × AHeap) => q9.2)) (fun Y2 z9 m1 m2 => Frt_findStocks_b9_J ok v0 v1 v2 m1 m2 z9) (fun q9 => ?_) Lmax _
  exact Frt_findStocks_j83_J ok v0 v1 v2 q9.1 q9.2
-- X4_lackAt
abbrev kFrt_lackAt : Cd := (yX4_lackAt, cX4_lackAt, 6, (some .int), 2, 49)
theorem dX4_lackAt : dcheck cX4_lackAt [(0, .aload_n 0, 1), (1, .getfield 21, 3), (4, .iload_n 2, 1), (5, .baload, 1), (6, .ifCond .ne 9, 3), (9, .aload_n 0, 1), (10, .aload_n 1, 1), (11, .iload_n 2, 1), (12, .invokevirtual 69, 3), (15, .aload_n 0, 1), (16, .aload_n 1, 1), (17, .iload_n 3, 1), (18, .invokevirtual 73, 3), (21, .iconst 0, 1), (22, .istore 4, 2), (24, .iconst 0, 1), (25, .istore 5, 2), (27, .iload 5, 2), (29, .bipush 16, 2), (31, .if_icmp .ge 36, 3), (34, .iload 4, 2), (36, .aload_n 0, 1), (37, .getfield 18, 3), (40, .iload_n 2, 1), (41, .bipush 16, 2), (43, .imul, 1), (44, .iload 5, 2), (46, .iadd, 1), (47, .iaload, 1), (48, .aload_n 0, 1), (49, .getfield 15, 3), (52, .iload 5, 2), (54, .iaload, 1), (55, .isub, 1), (56, .invokestatic 76, 3), (59, .istore 4, 2), (61, .iinc 5 1, 3), (64, .goto (-37), 3), (67, .iload 4, 2), (69, .ireturn, 1)] = true := by decide +kernel
theorem cw_Frt_lackAt {k : Cd} (h1 : kFrt_lackAt.2.2.2.2.1 + 1 ≤ k.2.2.2.2.1) (h2 : 8 + (kFrt_lackAt.2.2.1 + 11) + kFrt_lackAt.2.2.2.2.2 ≤ k.2.2.2.2.2) : Cw k kFrt_lackAt 3 := ⟨wcode_X4_lackAt, wini_SplitProgram_Freight, ⟨by decide, by decide, by decide +kernel⟩, h1, h2⟩
def Frt_lackAt_b27 (v0 : Nat) (v1 : Nat) (v2 : Int32) (v3 : Int32) (h : AHeap) (s : Int32 × Int32) : Option ((Int32 × Int32) ⊕ ((Int32 × Int32))) :=
  (if 16 ≤ s.2 then some (Sum.inr (s.1, s.2)) else (gfR h v0 4 2).bind fun a4 => (ald 0 h a4 ((v2 * 16) + s.2)).bind fun x5 => (gfR h v0 4 1).bind fun a6 => (ald 0 h a6 s.2).bind fun x7 => some (Sum.inl ((if s.1 < (x5 - x7) then (x5 - x7) else s.1), s.2 + 1)))
theorem Frt_lackAt_b27_J {E : JE} {l : Launch} {G : GX} {r : Option Value} {h' : AHeap} (ok : JOK E l G kFrt_lackAt 0 0 r h') (v0 : Nat) (v1 : Nat) (v2 : Int32) (v3 : Int32) (h : AHeap) {Y : (Int32 × Int32) ⊕ ((Int32 × Int32)) → Prop} (k1 : ∀ s' : Int32 × Int32, Y (.inl s') → JW E kFrt_lackAt 27 [some (.ref v0), some (.ref v1), some (.int v2), some (.int v3), some (.int s'.1), some (.int s'.2)] [] h 0 0) (kx67 : ∀ q : Int32 × Int32, Y (.inr q) → JW E kFrt_lackAt 67 [some (.ref v0), some (.ref v1), some (.int v2), some (.int v3), some (.int q.1), some (.int q.2)] [] h 0 0) (s : Int32 × Int32) : J E kFrt_lackAt (Frt_lackAt_b27 v0 v1 v2 v3 h s) Y 27 [some (.ref v0), some (.ref v1), some (.int v2), some (.int v3), some (.int s.1), some (.int s.2)] [] h 0 0 := by
  unfold Frt_lackAt_b27
  refine J_iload (pc' := 29) ok (dOf dX4_lackAt 17 rfl) rfl rfl ?_
  refine J_bipush (v := 16) (pc' := 31) ok (dOf dX4_lackAt 18 rfl) rfl (by decide) ?_
  refine J_icmp_ge (tgt := 67) (pc' := 34) ok (dOf dX4_lackAt 19 rfl) rfl (by decide) ?_ ?_
  · exact J_fin (kx67 (s.1, s.2))
  · refine J_iload (pc' := 36) ok (dOf dX4_lackAt 20 rfl) rfl rfl ?_
    refine J_aload_n (pc' := 37) ok (dOf dX4_lackAt 21 rfl) rfl rfl rfl ?_
    refine J_getR (ci := 4) (kf := 2) (C := RX4) (T := TX4) (N := 12) (pc' := 40) ok (dOf dX4_lackAt 22 rfl) rfl (by decide) rfl (by decide) win_4 wfl_X4_18 (fun a4 => ?_)
    refine J_iload_n (pc' := 41) ok (dOf dX4_lackAt 23 rfl) rfl rfl rfl ?_
    refine J_bipush (v := 16) (pc' := 43) ok (dOf dX4_lackAt 24 rfl) rfl (by decide) ?_
    refine J_imul (pc' := 44) ok (dOf dX4_lackAt 25 rfl) rfl ?_
    refine J_iload (pc' := 46) ok (dOf dX4_lackAt 26 rfl) rfl rfl ?_
    refine J_iadd (pc' := 47) ok (dOf dX4_lackAt 27 rfl) rfl ?_
    refine J_iald (pc' := 48) ok (dOf dX4_lackAt 28 rfl) rfl (fun x5 => ?_)
    refine J_aload_n (pc' := 49) ok (dOf dX4_lackAt 29 rfl) rfl rfl rfl ?_
    refine J_getR (ci := 4) (kf := 1) (C := RX4) (T := TX4) (N := 12) (pc' := 52) ok (dOf dX4_lackAt 30 rfl) rfl (by decide) rfl (by decide) win_4 wfl_X4_15 (fun a6 => ?_)
    refine J_iload (pc' := 54) ok (dOf dX4_lackAt 31 rfl) rfl rfl ?_
    refine J_iald (pc' := 55) ok (dOf dX4_lackAt 32 rfl) rfl (fun x7 => ?_)
    refine J_isub (pc' := 56) ok (dOf dX4_lackAt 33 rfl) rfl ?_
    refine J_mmax (pc' := 59) ok (dOf dX4_lackAt 34 rfl) rfl wml_X4_76 wstat_J9_max_7cf53 wini_java_lang_Math wcode_J9_max_7cf53 (Nat.le_of_ble_eq_true rfl) (Nat.le_of_ble_eq_true rfl) (Nat.le_refl 0) (Nat.le_refl 0) ?_
    refine J_istore (ls' := [some (.ref v0), some (.ref v1), some (.int v2), some (.int v3), some (.int (if s.1 < (x5 - x7) then (x5 - x7) else s.1)), some (.int s.2)]) (pc' := 61) ok (dOf dX4_lackAt 35 rfl) rfl (Nat.le_of_ble_eq_true rfl) rfl rfl ?_
    refine J_iinc (v := s.2 + 1) (ls' := [some (.ref v0), some (.ref v1), some (.int v2), some (.int v3), some (.int (if s.1 < (x5 - x7) then (x5 - x7) else s.1)), some (.int (s.2 + 1))]) (pc' := 64) ok (dOf dX4_lackAt 36 rfl) rfl rfl (by rfl) (Nat.le_of_ble_eq_true rfl) rfl rfl ?_
    refine J_goto (tgt := 27) ok (dOf dX4_lackAt 37 rfl) (by decide) ?_
    exact J_fin (k1 ((if s.1 < (x5 - x7) then (x5 - x7) else s.1), s.2 + 1))
def Frt_lackAt_j67 (v0 : Nat) (v1 : Nat) (v2 : Int32) (v3 : Int32) (v4 : Int32) (v5 : Int32) (h : AHeap) : Option (Int32 × AHeap) :=
  some (v4, h)
theorem Frt_lackAt_j67_J {E : JE} {l : Launch} {G : GX} {v : Int32} {h' : AHeap} (ok : JOK E l G kFrt_lackAt 0 0 (some (.int v)) h') (v0 : Nat) (v1 : Nat) (v2 : Int32) (v3 : Int32) (v4 : Int32) (v5 : Int32) (h : AHeap) : J E kFrt_lackAt (Frt_lackAt_j67 v0 v1 v2 v3 v4 v5 h) (fun z => z = (v, h')) 67 [some (.ref v0), some (.ref v1), some (.int v2), some (.int v3), some (.int v4), some (.int v5)] [] h 0 0 := by
  unfold Frt_lackAt_j67
  refine J_iload (pc' := 69) ok (dOf dX4_lackAt 38 rfl) rfl rfl ?_
  exact J_ireturn ok (dOf dX4_lackAt 39 rfl) rfl (Eq.refl 0) (Nat.le_refl 0)
def Frt_lackAt_j15 (v0 : Nat) (v1 : Nat) (v2 : Int32) (v3 : Int32) (h : AHeap) : Option (Int32 × AHeap) :=
  (chk h v0 4).bind fun _ => bnd2 (Frt_findStocks v0 v1 v3 h) fun _ h3 => (iter (Frt_lackAt_b27 v0 v1 v2 v3 h3) Lmax (0, 0)).bind (fun (q27 : Int32 × Int32) => Frt_lackAt_j67 v0 v1 v2 v3 q27.1 q27.2 h3)
theorem Frt_lackAt_j15_J {E : JE} {l : Launch} {G : GX} {v : Int32} {h' : AHeap} (ok : JOK E l G kFrt_lackAt 0 0 (some (.int v)) h') (v0 : Nat) (v1 : Nat) (v2 : Int32) (v3 : Int32) (h : AHeap) : J E kFrt_lackAt (Frt_lackAt_j15 v0 v1 v2 v3 h) (fun z => z = (v, h')) 15 [some (.ref v0), some (.ref v1), some (.int v2), some (.int v3), none, none] [] h 0 0 := by
  unfold Frt_lackAt_j15
  refine J_aload_n (pc' := 16) ok (dOf dX4_lackAt 9 rfl) rfl rfl rfl ?_
  refine J_aload_n (pc' := 17) ok (dOf dX4_lackAt 10 rfl) rfl rfl rfl ?_
  refine J_iload_n (pc' := 18) ok (dOf dX4_lackAt 11 rfl) rfl rfl rfl ?_
  refine J_callVv (k2 := kFrt_findStocks) (ci := 4) (T := TX4) (N := 12) (as := [.ref v1, .int v3]) (pc' := 21) ok (dOf dX4_lackAt 12 rfl) rfl (cw_Frt_findStocks (by decide) (by decide)) wml_X4_73 winst_X4_findStocks wsel_X4_findStocks rfl ⟨Nat.le_refl 0, Nat.le_refl 0⟩ (Nat.le_of_ble_eq_true rfl) rfl (fun _ _ hf => t_Frt_findStocks hf) (fun _ h3 => ?_)
  refine J_iconst (v := 0) (pc' := 22) ok (dOf dX4_lackAt 13 rfl) rfl (by decide) ?_
  refine J_istore (ls' := [some (.ref v0), some (.ref v1), some (.int v2), some (.int v3), some (.int 0), none]) (pc' := 24) ok (dOf dX4_lackAt 14 rfl) rfl (Nat.le_of_ble_eq_true rfl) rfl rfl ?_
  refine J_iconst (v := 0) (pc' := 25) ok (dOf dX4_lackAt 15 rfl) rfl (by decide) ?_
  refine J_istore (ls' := [some (.ref v0), some (.ref v1), some (.int v2), some (.int v3), some (.int 0), some (.int 0)]) (pc' := 27) ok (dOf dX4_lackAt 16 rfl) rfl (Nat.le_of_ble_eq_true rfl) rfl rfl ?_
  refine J_iter (lf := fun z27 => [some (.ref v0), some (.ref v1), some (.int v2), some (.int v3), some (.int z27.1), some (.int z27.2)]) (sf := fun _ => []) (hf := fun z27 => h3) (px := (fun (q27 : Int32 × Int32) => 67)) (lx := (fun (q27 : Int32 × Int32) => [some (.ref v0), some (.ref v1), some (.int v2), some (.int v3), some (.int q27.1), some (.int q27.2)])) (sx := (fun (q27 : Int32 × Int32) => [])) (hx := (fun (q27 : Int32 × Int32) => h3)) (fun Y2 z27 m1 m2 => Frt_lackAt_b27_J ok v0 v1 v2 v3 h3 m1 m2 z27) (fun q27 => ?_) Lmax _
  exact Frt_lackAt_j67_J ok v0 v1 v2 v3 q27.1 q27.2 h3
def Frt_lackAt (v0 : Nat) (v1 : Nat) (v2 : Int32) (v3 : Int32) (h : AHeap) : Option (Int32 × AHeap) :=
  (gfR h v0 4 3).bind fun a1 => (ald 1 h a1 v2).bind fun x2 => (if ¬ x2 = 0 then Frt_lackAt_j15 v0 v1 v2 v3 h else (chk h v0 4).bind fun _ => bnd2 (Frt_findLoads v0 v1 v2 h) fun _ h8 => Frt_lackAt_j15 v0 v1 v2 v3 h8)
theorem t_Frt_lackAt {l : Launch} {G : GX} {v0 : Nat} {v1 : Nat} {v2 : Int32} {v3 : Int32} {h : AHeap} {v : Int32} {h1 : AHeap} (hf : Frt_lackAt v0 v1 v2 v3 h = some (v, h1)) : CT l G kFrt_lackAt 0 0 [.ref v0, .ref v1, .int v2, .int v3] h (some (.int v)) h1 := by
  refine CT_of (ls := [some (.ref v0), some (.ref v1), some (.int v2), some (.int v3), none, none]) (Z := fun z => z = (v, h1)) (by decide +kernel) (Nat.le_of_ble_eq_true rfl) hf rfl ⟨rfl, rfl, rfl, rfl, trivial⟩ (fun E ok => ?_)
  unfold Frt_lackAt
  refine J_aload_n (pc' := 1) ok (dOf dX4_lackAt 0 rfl) rfl rfl rfl ?_
  refine J_getR (ci := 4) (kf := 3) (C := RX4) (T := TX4) (N := 12) (pc' := 4) ok (dOf dX4_lackAt 1 rfl) rfl (by decide) rfl (by decide) win_4 wfl_X4_21 (fun a1 => ?_)
  refine J_iload_n (pc' := 5) ok (dOf dX4_lackAt 2 rfl) rfl rfl rfl ?_
  refine J_zald (pc' := 6) ok (dOf dX4_lackAt 3 rfl) rfl (fun x2 => ?_)
  refine J_if_ne (tgt := 15) (pc' := 9) ok (dOf dX4_lackAt 4 rfl) rfl (by decide) ?_ ?_
  · exact Frt_lackAt_j15_J ok v0 v1 v2 v3 h
  · refine J_aload_n (pc' := 10) ok (dOf dX4_lackAt 5 rfl) rfl rfl rfl ?_
    refine J_aload_n (pc' := 11) ok (dOf dX4_lackAt 6 rfl) rfl rfl rfl ?_
    refine J_iload_n (pc' := 12) ok (dOf dX4_lackAt 7 rfl) rfl rfl rfl ?_
    refine J_callVv (k2 := kFrt_findLoads) (ci := 4) (T := TX4) (N := 12) (as := [.ref v1, .int v2]) (pc' := 15) ok (dOf dX4_lackAt 8 rfl) rfl (cw_Frt_findLoads (by decide) (by decide)) wml_X4_69 winst_X4_findLoads wsel_X4_findLoads rfl ⟨Nat.le_refl 0, Nat.le_refl 0⟩ (Nat.le_of_ble_eq_true rfl) rfl (fun _ _ hf => t_Frt_findLoads hf) (fun _ h8 => ?_)
    exact Frt_lackAt_j15_J ok v0 v1 v2 v3 h8
-- X4_cheapestFor
abbrev kFrt_cheapestFor : Cd := (yX4_cheapestFor, cX4_cheapestFor, 7, (some .int), 0, 0)
theorem dX4_cheapestFor : dcheck cX4_cheapestFor [(0, .iconst (-1), 1), (1, .istore_n 3, 1), (2, .ldc 114, 2), (4, .istore 4, 2), (6, .iconst 0, 1), (7, .istore 5, 2), (9, .iload 5, 2), (11, .aload_n 1, 1), (12, .getfield 115, 3), (15, .if_icmp .ge 59, 3), (18, .aload_n 1, 1), (19, .getfield 101, 3), (22, .iload 5, 2), (24, .bipush 6, 2), (26, .imul, 1), (27, .iload_n 2, 1), (28, .iadd, 1), (29, .iaload, 1), (30, .istore 6, 2), (32, .iload 6, 2), (34, .iconst (-1), 1), (35, .if_icmp .eq 33, 3), (38, .aload_n 0, 1), (39, .getfield 37, 3), (42, .iload 5, 2), (44, .iaload, 1), (45, .iload 6, 2), (47, .iadd, 1), (48, .iload 4, 2), (50, .if_icmp .ge 18, 3), (53, .aload_n 0, 1), (54, .getfield 37, 3), (57, .iload 5, 2), (59, .iaload, 1), (60, .iload 6, 2), (62, .iadd, 1), (63, .istore 4, 2), (65, .iload 5, 2), (67, .istore_n 3, 1), (68, .iinc 5 1, 3), (71, .goto (-62), 3), (74, .iload_n 3, 1), (75, .ireturn, 1)] = true := by decide +kernel
theorem cw_Frt_cheapestFor {k : Cd} (h1 : kFrt_cheapestFor.2.2.2.2.1 + 1 ≤ k.2.2.2.2.1) (h2 : 8 + (kFrt_cheapestFor.2.2.1 + 11) + kFrt_cheapestFor.2.2.2.2.2 ≤ k.2.2.2.2.2) : Cw k kFrt_cheapestFor 2 := ⟨wcode_X4_cheapestFor, wini_SplitProgram_Freight, ⟨by decide, by decide, by decide +kernel⟩, h1, h2⟩
def Frt_cheapestFor_j68 (v0 : Nat) (v1 : Nat) (v2 : Int32) (v3 : Int32) (v4 : Int32) (v5 : Int32) (v6 : Int32) (h : AHeap) : Option ((Int32 × Int32 × Int32) ⊕ ((Int32 × Int32 × Int32))) :=
  some (Sum.inl (v3, v4, v5 + 1))
theorem Frt_cheapestFor_j68_J {E : JE} {l : Launch} {G : GX} {r : Option Value} {h' : AHeap} (ok : JOK E l G kFrt_cheapestFor 0 0 r h') (v0 : Nat) (v1 : Nat) (v2 : Int32) (v3 : Int32) (v4 : Int32) (v5 : Int32) (v6 : Int32) (h : AHeap) {Y : (Int32 × Int32 × Int32) ⊕ ((Int32 × Int32 × Int32)) → Prop} (k1 : ∀ s' : Int32 × Int32 × Int32, Y (.inl s') → JW E kFrt_cheapestFor 9 [some (.ref v0), some (.ref v1), some (.int v2), some (.int s'.1), some (.int s'.2.1), some (.int s'.2.2), none] [] h 0 0) (kx74 : ∀ q : Int32 × Int32 × Int32, Y (.inr q) → JW E kFrt_cheapestFor 74 [some (.ref v0), some (.ref v1), some (.int v2), some (.int q.1), some (.int q.2.1), some (.int q.2.2), none] [] h 0 0) : J E kFrt_cheapestFor (Frt_cheapestFor_j68 v0 v1 v2 v3 v4 v5 v6 h) Y 68 [some (.ref v0), some (.ref v1), some (.int v2), some (.int v3), some (.int v4), some (.int v5), some (.int v6)] [] h 0 0 := by
  unfold Frt_cheapestFor_j68
  refine J_iinc (v := v5 + 1) (ls' := [some (.ref v0), some (.ref v1), some (.int v2), some (.int v3), some (.int v4), some (.int (v5 + 1)), some (.int v6)]) (pc' := 71) ok (dOf dX4_cheapestFor 39 rfl) rfl rfl (by rfl) (Nat.le_of_ble_eq_true rfl) rfl rfl ?_
  refine J_goto (tgt := 9) ok (dOf dX4_cheapestFor 40 rfl) (by decide) ?_
  refine J_weak (ls' := [some (.ref v0), some (.ref v1), some (.int v2), some (.int v3), some (.int v4), some (.int (v5 + 1)), none]) ⟨rfl, rfl, rfl, rfl, rfl, rfl, trivial⟩ ?_
  exact J_fin (k1 (v3, v4, v5 + 1))
def Frt_cheapestFor_b9 (v0 : Nat) (v1 : Nat) (v2 : Int32) (h : AHeap) (s : Int32 × Int32 × Int32) : Option ((Int32 × Int32 × Int32) ⊕ ((Int32 × Int32 × Int32))) :=
  (gfI h v1 6 0).bind fun x1 => (if x1 ≤ s.2.2 then some (Sum.inr (s.1, s.2.1, s.2.2)) else (gfR h v1 6 6).bind fun a2 => (ald 0 h a2 ((s.2.2 * 6) + v2)).bind fun x3 => (if x3 = (-1) then Frt_cheapestFor_j68 v0 v1 v2 s.1 s.2.1 s.2.2 x3 h else (gfR h v0 4 8).bind fun a4 => (ald 0 h a4 s.2.2).bind fun x5 => (if s.2.1 ≤ (x5 + x3) then Frt_cheapestFor_j68 v0 v1 v2 s.1 s.2.1 s.2.2 x3 h else (gfR h v0 4 8).bind fun a6 => (ald 0 h a6 s.2.2).bind fun x7 => Frt_cheapestFor_j68 v0 v1 v2 s.2.2 (x7 + x3) s.2.2 x3 h)))
theorem Frt_cheapestFor_b9_J {E : JE} {l : Launch} {G : GX} {r : Option Value} {h' : AHeap} (ok : JOK E l G kFrt_cheapestFor 0 0 r h') (v0 : Nat) (v1 : Nat) (v2 : Int32) (h : AHeap) {Y : (Int32 × Int32 × Int32) ⊕ ((Int32 × Int32 × Int32)) → Prop} (k1 : ∀ s' : Int32 × Int32 × Int32, Y (.inl s') → JW E kFrt_cheapestFor 9 [some (.ref v0), some (.ref v1), some (.int v2), some (.int s'.1), some (.int s'.2.1), some (.int s'.2.2), none] [] h 0 0) (kx74 : ∀ q : Int32 × Int32 × Int32, Y (.inr q) → JW E kFrt_cheapestFor 74 [some (.ref v0), some (.ref v1), some (.int v2), some (.int q.1), some (.int q.2.1), some (.int q.2.2), none] [] h 0 0) (s : Int32 × Int32 × Int32) : J E kFrt_cheapestFor (Frt_cheapestFor_b9 v0 v1 v2 h s) Y 9 [some (.ref v0), some (.ref v1), some (.int v2), some (.int s.1), some (.int s.2.1), some (.int s.2.2), none] [] h 0 0 := by
  unfold Frt_cheapestFor_b9
  refine J_iload (pc' := 11) ok (dOf dX4_cheapestFor 6 rfl) rfl rfl ?_
  refine J_aload_n (pc' := 12) ok (dOf dX4_cheapestFor 7 rfl) rfl rfl rfl ?_
  refine J_getI (ci := 6) (kf := 0) (C := RX6) (T := TX6) (N := 9) (pc' := 15) ok (dOf dX4_cheapestFor 8 rfl) rfl (by decide) rfl (by decide) win_6 wfl_X4_115 (fun x1 => ?_)
  refine J_icmp_ge (tgt := 74) (pc' := 18) ok (dOf dX4_cheapestFor 9 rfl) rfl (by decide) ?_ ?_
  · exact J_fin (kx74 (s.1, s.2.1, s.2.2))
  · refine J_aload_n (pc' := 19) ok (dOf dX4_cheapestFor 10 rfl) rfl rfl rfl ?_
    refine J_getR (ci := 6) (kf := 6) (C := RX6) (T := TX6) (N := 9) (pc' := 22) ok (dOf dX4_cheapestFor 11 rfl) rfl (by decide) rfl (by decide) win_6 wfl_X4_101 (fun a2 => ?_)
    refine J_iload (pc' := 24) ok (dOf dX4_cheapestFor 12 rfl) rfl rfl ?_
    refine J_bipush (v := 6) (pc' := 26) ok (dOf dX4_cheapestFor 13 rfl) rfl (by decide) ?_
    refine J_imul (pc' := 27) ok (dOf dX4_cheapestFor 14 rfl) rfl ?_
    refine J_iload_n (pc' := 28) ok (dOf dX4_cheapestFor 15 rfl) rfl rfl rfl ?_
    refine J_iadd (pc' := 29) ok (dOf dX4_cheapestFor 16 rfl) rfl ?_
    refine J_iald (pc' := 30) ok (dOf dX4_cheapestFor 17 rfl) rfl (fun x3 => ?_)
    refine J_istore (ls' := [some (.ref v0), some (.ref v1), some (.int v2), some (.int s.1), some (.int s.2.1), some (.int s.2.2), some (.int x3)]) (pc' := 32) ok (dOf dX4_cheapestFor 18 rfl) rfl (Nat.le_of_ble_eq_true rfl) rfl rfl ?_
    refine J_iload (pc' := 34) ok (dOf dX4_cheapestFor 19 rfl) rfl rfl ?_
    refine J_iconst (v := (-1)) (pc' := 35) ok (dOf dX4_cheapestFor 20 rfl) rfl (by decide) ?_
    refine J_icmp_eq (tgt := 68) (pc' := 38) ok (dOf dX4_cheapestFor 21 rfl) rfl (by decide) ?_ ?_
    · exact Frt_cheapestFor_j68_J ok v0 v1 v2 s.1 s.2.1 s.2.2 x3 h k1 kx74
    · refine J_aload_n (pc' := 39) ok (dOf dX4_cheapestFor 22 rfl) rfl rfl rfl ?_
      refine J_getR (ci := 4) (kf := 8) (C := RX4) (T := TX4) (N := 12) (pc' := 42) ok (dOf dX4_cheapestFor 23 rfl) rfl (by decide) rfl (by decide) win_4 wfl_X4_37 (fun a4 => ?_)
      refine J_iload (pc' := 44) ok (dOf dX4_cheapestFor 24 rfl) rfl rfl ?_
      refine J_iald (pc' := 45) ok (dOf dX4_cheapestFor 25 rfl) rfl (fun x5 => ?_)
      refine J_iload (pc' := 47) ok (dOf dX4_cheapestFor 26 rfl) rfl rfl ?_
      refine J_iadd (pc' := 48) ok (dOf dX4_cheapestFor 27 rfl) rfl ?_
      refine J_iload (pc' := 50) ok (dOf dX4_cheapestFor 28 rfl) rfl rfl ?_
      refine J_icmp_ge (tgt := 68) (pc' := 53) ok (dOf dX4_cheapestFor 29 rfl) rfl (by decide) ?_ ?_
      · exact Frt_cheapestFor_j68_J ok v0 v1 v2 s.1 s.2.1 s.2.2 x3 h k1 kx74
      · refine J_aload_n (pc' := 54) ok (dOf dX4_cheapestFor 30 rfl) rfl rfl rfl ?_
        refine J_getR (ci := 4) (kf := 8) (C := RX4) (T := TX4) (N := 12) (pc' := 57) ok (dOf dX4_cheapestFor 31 rfl) rfl (by decide) rfl (by decide) win_4 wfl_X4_37 (fun a6 => ?_)
        refine J_iload (pc' := 59) ok (dOf dX4_cheapestFor 32 rfl) rfl rfl ?_
        refine J_iald (pc' := 60) ok (dOf dX4_cheapestFor 33 rfl) rfl (fun x7 => ?_)
        refine J_iload (pc' := 62) ok (dOf dX4_cheapestFor 34 rfl) rfl rfl ?_
        refine J_iadd (pc' := 63) ok (dOf dX4_cheapestFor 35 rfl) rfl ?_
        refine J_istore (ls' := [some (.ref v0), some (.ref v1), some (.int v2), some (.int s.1), some (.int (x7 + x3)), some (.int s.2.2), some (.int x3)]) (pc' := 65) ok (dOf dX4_cheapestFor 36 rfl) rfl (Nat.le_of_ble_eq_true rfl) rfl rfl ?_
        refine J_iload (pc' := 67) ok (dOf dX4_cheapestFor 37 rfl) rfl rfl ?_
        refine J_istore_n (ls' := [some (.ref v0), some (.ref v1), some (.int v2), some (.int s.2.2), some (.int (x7 + x3)), some (.int s.2.2), some (.int x3)]) (pc' := 68) ok (dOf dX4_cheapestFor 38 rfl) rfl rfl (Nat.le_of_ble_eq_true rfl) rfl rfl ?_
        exact Frt_cheapestFor_j68_J ok v0 v1 v2 s.2.2 (x7 + x3) s.2.2 x3 h k1 kx74
def Frt_cheapestFor_j74 (v0 : Nat) (v1 : Nat) (v2 : Int32) (v3 : Int32) (v4 : Int32) (v5 : Int32) (h : AHeap) : Option (Int32 × AHeap) :=
  some (v3, h)
theorem Frt_cheapestFor_j74_J {E : JE} {l : Launch} {G : GX} {v : Int32} {h' : AHeap} (ok : JOK E l G kFrt_cheapestFor 0 0 (some (.int v)) h') (v0 : Nat) (v1 : Nat) (v2 : Int32) (v3 : Int32) (v4 : Int32) (v5 : Int32) (h : AHeap) : J E kFrt_cheapestFor (Frt_cheapestFor_j74 v0 v1 v2 v3 v4 v5 h) (fun z => z = (v, h')) 74 [some (.ref v0), some (.ref v1), some (.int v2), some (.int v3), some (.int v4), some (.int v5), none] [] h 0 0 := by
  unfold Frt_cheapestFor_j74
  refine J_iload_n (pc' := 75) ok (dOf dX4_cheapestFor 41 rfl) rfl rfl rfl ?_
  exact J_ireturn ok (dOf dX4_cheapestFor 42 rfl) rfl (Eq.refl 0) (Nat.le_refl 0)
def Frt_cheapestFor (v0 : Nat) (v1 : Nat) (v2 : Int32) (h : AHeap) : Option (Int32 × AHeap) :=
  (iter (Frt_cheapestFor_b9 v0 v1 v2 h) Lmax ((-1), 1000000, 0)).bind (fun (q9 : Int32 × Int32 × Int32) => Frt_cheapestFor_j74 v0 v1 v2 q9.1 q9.2.1 q9.2.2 h)
theorem t_Frt_cheapestFor {l : Launch} {G : GX} {v0 : Nat} {v1 : Nat} {v2 : Int32} {h : AHeap} {v : Int32} {h1 : AHeap} (hf : Frt_cheapestFor v0 v1 v2 h = some (v, h1)) : CT l G kFrt_cheapestFor 0 0 [.ref v0, .ref v1, .int v2] h (some (.int v)) h1 := by
  refine CT_of (ls := [some (.ref v0), some (.ref v1), some (.int v2), none, none, none, none]) (Z := fun z => z = (v, h1)) (by decide +kernel) (Nat.le_of_ble_eq_true rfl) hf rfl ⟨rfl, rfl, rfl, trivial⟩ (fun E ok => ?_)
  unfold Frt_cheapestFor
  refine J_iconst (v := (-1)) (pc' := 1) ok (dOf dX4_cheapestFor 0 rfl) rfl (by decide) ?_
  refine J_istore_n (ls' := [some (.ref v0), some (.ref v1), some (.int v2), some (.int (-1)), none, none, none]) (pc' := 2) ok (dOf dX4_cheapestFor 1 rfl) rfl rfl (Nat.le_of_ble_eq_true rfl) rfl rfl ?_
  refine J_ldc (v := 1000000) (pc' := 4) ok (dOf dX4_cheapestFor 2 rfl) rfl wcon_X4_114 ?_
  refine J_istore (ls' := [some (.ref v0), some (.ref v1), some (.int v2), some (.int (-1)), some (.int 1000000), none, none]) (pc' := 6) ok (dOf dX4_cheapestFor 3 rfl) rfl (Nat.le_of_ble_eq_true rfl) rfl rfl ?_
  refine J_iconst (v := 0) (pc' := 7) ok (dOf dX4_cheapestFor 4 rfl) rfl (by decide) ?_
  refine J_istore (ls' := [some (.ref v0), some (.ref v1), some (.int v2), some (.int (-1)), some (.int 1000000), some (.int 0), none]) (pc' := 9) ok (dOf dX4_cheapestFor 5 rfl) rfl (Nat.le_of_ble_eq_true rfl) rfl rfl ?_
  refine J_iter (lf := fun z9 => [some (.ref v0), some (.ref v1), some (.int v2), some (.int z9.1), some (.int z9.2.1), some (.int z9.2.2), none]) (sf := fun _ => []) (hf := fun z9 => h) (px := (fun (q9 : Int32 × Int32 × Int32) => 74)) (lx := (fun (q9 : Int32 × Int32 × Int32) => [some (.ref v0), some (.ref v1), some (.int v2), some (.int q9.1), some (.int q9.2.1), some (.int q9.2.2), none])) (sx := (fun (q9 : Int32 × Int32 × Int32) => [])) (hx := (fun (q9 : Int32 × Int32 × Int32) => h)) (fun Y2 z9 m1 m2 => Frt_cheapestFor_b9_J ok v0 v1 v2 h m1 m2 z9) (fun q9 => ?_) Lmax _
  exact Frt_cheapestFor_j74_J ok v0 v1 v2 q9.1 q9.2.1 q9.2.2 h
-- X4_findSwaps
abbrev kFrt_findSwaps : Cd := (yX4_findSwaps, cX4_findSwaps, 8, none, 1, 23)
theorem dX4_findSwaps : dcheck cX4_findSwaps [(0, .aload_n 0, 1), (1, .getfield 31, 3), (4, .ldc 114, 2), (6, .invokestatic 87, 3), (9, .iconst 0, 1), (10, .istore_n 2, 1), (11, .iload_n 2, 1), (12, .aload_n 1, 1), (13, .getfield 115, 3), (16, .if_icmp .ge 139, 3), (19, .iconst 0, 1), (20, .istore_n 3, 1), (21, .iload_n 3, 1), (22, .aload_n 1, 1), (23, .getfield 49, 3), (26, .if_icmp .ge 123, 3), (29, .aload_n 1, 1), (30, .getfield 101, 3), (33, .iload_n 2, 1), (34, .bipush 6, 2), (36, .imul, 1), (37, .iload_n 3, 1), (38, .iadd, 1), (39, .iaload, 1), (40, .istore 4, 2), (42, .iconst 0, 1), (43, .istore 5, 2), (45, .iload 5, 2), (47, .aload_n 1, 1), (48, .getfield 115, 3), (51, .if_icmp .ge 92, 3), (54, .aload_n 0, 1), (55, .getfield 28, 3), (58, .iload_n 2, 1), (59, .bipush 6, 2), (61, .imul, 1), (62, .iload_n 3, 1), (63, .iadd, 1), (64, .iaload, 1), (65, .ifCond .le 78, 3), (68, .aload_n 1, 1), (69, .getfield 101, 3), (72, .iload 5, 2), (74, .bipush 6, 2), (76, .imul, 1), (77, .iload_n 3, 1), (78, .iadd, 1), (79, .iaload, 1), (80, .istore 6, 2), (82, .iload 5, 2), (84, .iconst 4, 1), (85, .imul, 1), (86, .iload_n 2, 1), (87, .iadd, 1), (88, .istore 7, 2), (90, .iload 5, 2), (92, .iload_n 2, 1), (93, .if_icmp .eq 44, 3), (96, .iload 6, 2), (98, .iconst (-1), 1), (99, .if_icmp .eq 38, 3), (102, .iload 6, 2), (104, .iload 4, 2), (106, .isub, 1), (107, .aload_n 0, 1), (108, .getfield 31, 3), (111, .iload 7, 2), (113, .iaload, 1), (114, .if_icmp .ge 23, 3), (117, .aload_n 0, 1), (118, .getfield 31, 3), (121, .iload 7, 2), (123, .iload 6, 2), (125, .iload 4, 2), (127, .isub, 1), (128, .iastore, 1), (129, .aload_n 0, 1), (130, .getfield 34, 3), (133, .iload 7, 2), (135, .iload_n 3, 1), (136, .iastore, 1), (137, .iinc 5 1, 3), (140, .goto (-95), 3), (143, .iinc 3 1, 3), (146, .goto (-125), 3), (149, .iinc 2 1, 3), (152, .goto (-141), 3), (155, .return_, 1)] = true := by decide +kernel
theorem cw_Frt_findSwaps {k : Cd} (h1 : kFrt_findSwaps.2.2.2.2.1 + 1 ≤ k.2.2.2.2.1) (h2 : 8 + (kFrt_findSwaps.2.2.1 + 11) + kFrt_findSwaps.2.2.2.2.2 ≤ k.2.2.2.2.2) : Cw k kFrt_findSwaps 1 := ⟨wcode_X4_findSwaps, wini_SplitProgram_Freight, ⟨by decide, by decide, by decide +kernel⟩, h1, h2⟩
def Frt_findSwaps_j137 (v0 : Nat) (v1 : Nat) (v2 : Int32) (v3 : Int32) (v4 : Int32) (v5 : Int32) (v6 : Int32) (v7 : Int32) (h : AHeap) : Option ((Int32 × AHeap) ⊕ ((Int32 × AHeap))) :=
  some (Sum.inl (v5 + 1, h))
theorem Frt_findSwaps_j137_J {E : JE} {l : Launch} {G : GX} {r : Option Value} {h' : AHeap} (ok : JOK E l G kFrt_findSwaps 0 0 r h') (v0 : Nat) (v1 : Nat) (v2 : Int32) (v3 : Int32) (v4 : Int32) (v5 : Int32) (v6 : Int32) (v7 : Int32) (h : AHeap) {Y : (Int32 × AHeap) ⊕ ((Int32 × AHeap)) → Prop} (k1 : ∀ s' : Int32 × AHeap, Y (.inl s') → JW E kFrt_findSwaps 45 [some (.ref v0), some (.ref v1), some (.int v2), some (.int v3), some (.int v4), some (.int s'.1), none, none] [] s'.2 0 0) (kx143 : ∀ q : Int32 × AHeap, Y (.inr q) → JW E kFrt_findSwaps 143 [some (.ref v0), some (.ref v1), some (.int v2), some (.int v3), some (.int v4), some (.int q.1), none, none] [] q.2 0 0) : J E kFrt_findSwaps (Frt_findSwaps_j137 v0 v1 v2 v3 v4 v5 v6 v7 h) Y 137 [some (.ref v0), some (.ref v1), some (.int v2), some (.int v3), some (.int v4), some (.int v5), some (.int v6), some (.int v7)] [] h 0 0 := by
  unfold Frt_findSwaps_j137
  refine J_iinc (v := v5 + 1) (ls' := [some (.ref v0), some (.ref v1), some (.int v2), some (.int v3), some (.int v4), some (.int (v5 + 1)), some (.int v6), some (.int v7)]) (pc' := 140) ok (dOf dX4_findSwaps 81 rfl) rfl rfl (by rfl) (Nat.le_of_ble_eq_true rfl) rfl rfl ?_
  refine J_goto (tgt := 45) ok (dOf dX4_findSwaps 82 rfl) (by decide) ?_
  refine J_weak (ls' := [some (.ref v0), some (.ref v1), some (.int v2), some (.int v3), some (.int v4), some (.int (v5 + 1)), none, none]) ⟨rfl, rfl, rfl, rfl, rfl, rfl, trivial⟩ ?_
  exact J_fin (k1 (v5 + 1, h))
def Frt_findSwaps_b45 (v0 : Nat) (v1 : Nat) (v2 : Int32) (v3 : Int32) (v4 : Int32) (s : Int32 × AHeap) : Option ((Int32 × AHeap) ⊕ ((Int32 × AHeap))) :=
  (gfI s.2 v1 6 0).bind fun x7 => (if x7 ≤ s.1 then some (Sum.inr (s.1, s.2)) else (gfR s.2 v0 4 5).bind fun a8 => (ald 0 s.2 a8 ((v2 * 6) + v3)).bind fun x9 => (if x9 ≤ 0 then some (Sum.inr (s.1, s.2)) else (gfR s.2 v1 6 6).bind fun a10 => (ald 0 s.2 a10 ((s.1 * 6) + v3)).bind fun x11 => (if s.1 = v2 then Frt_findSwaps_j137 v0 v1 v2 v3 v4 s.1 x11 ((s.1 * 4) + v2) s.2 else (if x11 = (-1) then Frt_findSwaps_j137 v0 v1 v2 v3 v4 s.1 x11 ((s.1 * 4) + v2) s.2 else (gfR s.2 v0 4 6).bind fun a12 => (ald 0 s.2 a12 ((s.1 * 4) + v2)).bind fun x13 => (if x13 ≤ (x11 - v4) then Frt_findSwaps_j137 v0 v1 v2 v3 v4 s.1 x11 ((s.1 * 4) + v2) s.2 else (gfR s.2 v0 4 6).bind fun a14 => (ast 0 s.2 a14 ((s.1 * 4) + v2) (x11 - v4)).bind fun h15 => (gfR h15 v0 4 7).bind fun a16 => (ast 0 h15 a16 ((s.1 * 4) + v2) v3).bind fun h17 => Frt_findSwaps_j137 v0 v1 v2 v3 v4 s.1 x11 ((s.1 * 4) + v2) h17)))))
theorem Frt_findSwaps_b45_J {E : JE} {l : Launch} {G : GX} {r : Option Value} {h' : AHeap} (ok : JOK E l G kFrt_findSwaps 0 0 r h') (v0 : Nat) (v1 : Nat) (v2 : Int32) (v3 : Int32) (v4 : Int32) {Y : (Int32 × AHeap) ⊕ ((Int32 × AHeap)) → Prop} (k1 : ∀ s' : Int32 × AHeap, Y (.inl s') → JW E kFrt_findSwaps 45 [some (.ref v0), some (.ref v1), some (.int v2), some (.int v3), some (.int v4), some (.int s'.1), none, none] [] s'.2 0 0) (kx143 : ∀ q : Int32 × AHeap, Y (.inr q) → JW E kFrt_findSwaps 143 [some (.ref v0), some (.ref v1), some (.int v2), some (.int v3), some (.int v4), some (.int q.1), none, none] [] q.2 0 0) (s : Int32 × AHeap) : J E kFrt_findSwaps (Frt_findSwaps_b45 v0 v1 v2 v3 v4 s) Y 45 [some (.ref v0), some (.ref v1), some (.int v2), some (.int v3), some (.int v4), some (.int s.1), none, none] [] s.2 0 0 := by
  unfold Frt_findSwaps_b45
  refine J_iload (pc' := 47) ok (dOf dX4_findSwaps 27 rfl) rfl rfl ?_
  refine J_aload_n (pc' := 48) ok (dOf dX4_findSwaps 28 rfl) rfl rfl rfl ?_
  refine J_getI (ci := 6) (kf := 0) (C := RX6) (T := TX6) (N := 9) (pc' := 51) ok (dOf dX4_findSwaps 29 rfl) rfl (by decide) rfl (by decide) win_6 wfl_X4_115 (fun x7 => ?_)
  refine J_icmp_ge (tgt := 143) (pc' := 54) ok (dOf dX4_findSwaps 30 rfl) rfl (by decide) ?_ ?_
  · exact J_fin (kx143 (s.1, s.2))
  · refine J_aload_n (pc' := 55) ok (dOf dX4_findSwaps 31 rfl) rfl rfl rfl ?_
    refine J_getR (ci := 4) (kf := 5) (C := RX4) (T := TX4) (N := 12) (pc' := 58) ok (dOf dX4_findSwaps 32 rfl) rfl (by decide) rfl (by decide) win_4 wfl_X4_28 (fun a8 => ?_)
    refine J_iload_n (pc' := 59) ok (dOf dX4_findSwaps 33 rfl) rfl rfl rfl ?_
    refine J_bipush (v := 6) (pc' := 61) ok (dOf dX4_findSwaps 34 rfl) rfl (by decide) ?_
    refine J_imul (pc' := 62) ok (dOf dX4_findSwaps 35 rfl) rfl ?_
    refine J_iload_n (pc' := 63) ok (dOf dX4_findSwaps 36 rfl) rfl rfl rfl ?_
    refine J_iadd (pc' := 64) ok (dOf dX4_findSwaps 37 rfl) rfl ?_
    refine J_iald (pc' := 65) ok (dOf dX4_findSwaps 38 rfl) rfl (fun x9 => ?_)
    refine J_if_le (tgt := 143) (pc' := 68) ok (dOf dX4_findSwaps 39 rfl) rfl (by decide) ?_ ?_
    · exact J_fin (kx143 (s.1, s.2))
    · refine J_aload_n (pc' := 69) ok (dOf dX4_findSwaps 40 rfl) rfl rfl rfl ?_
      refine J_getR (ci := 6) (kf := 6) (C := RX6) (T := TX6) (N := 9) (pc' := 72) ok (dOf dX4_findSwaps 41 rfl) rfl (by decide) rfl (by decide) win_6 wfl_X4_101 (fun a10 => ?_)
      refine J_iload (pc' := 74) ok (dOf dX4_findSwaps 42 rfl) rfl rfl ?_
      refine J_bipush (v := 6) (pc' := 76) ok (dOf dX4_findSwaps 43 rfl) rfl (by decide) ?_
      refine J_imul (pc' := 77) ok (dOf dX4_findSwaps 44 rfl) rfl ?_
      refine J_iload_n (pc' := 78) ok (dOf dX4_findSwaps 45 rfl) rfl rfl rfl ?_
      refine J_iadd (pc' := 79) ok (dOf dX4_findSwaps 46 rfl) rfl ?_
      refine J_iald (pc' := 80) ok (dOf dX4_findSwaps 47 rfl) rfl (fun x11 => ?_)
      refine J_istore (ls' := [some (.ref v0), some (.ref v1), some (.int v2), some (.int v3), some (.int v4), some (.int s.1), some (.int x11), none]) (pc' := 82) ok (dOf dX4_findSwaps 48 rfl) rfl (Nat.le_of_ble_eq_true rfl) rfl rfl ?_
      refine J_iload (pc' := 84) ok (dOf dX4_findSwaps 49 rfl) rfl rfl ?_
      refine J_iconst (v := 4) (pc' := 85) ok (dOf dX4_findSwaps 50 rfl) rfl (by decide) ?_
      refine J_imul (pc' := 86) ok (dOf dX4_findSwaps 51 rfl) rfl ?_
      refine J_iload_n (pc' := 87) ok (dOf dX4_findSwaps 52 rfl) rfl rfl rfl ?_
      refine J_iadd (pc' := 88) ok (dOf dX4_findSwaps 53 rfl) rfl ?_
      refine J_istore (ls' := [some (.ref v0), some (.ref v1), some (.int v2), some (.int v3), some (.int v4), some (.int s.1), some (.int x11), some (.int ((s.1 * 4) + v2))]) (pc' := 90) ok (dOf dX4_findSwaps 54 rfl) rfl (Nat.le_of_ble_eq_true rfl) rfl rfl ?_
      refine J_iload (pc' := 92) ok (dOf dX4_findSwaps 55 rfl) rfl rfl ?_
      refine J_iload_n (pc' := 93) ok (dOf dX4_findSwaps 56 rfl) rfl rfl rfl ?_
      refine J_icmp_eq (tgt := 137) (pc' := 96) ok (dOf dX4_findSwaps 57 rfl) rfl (by decide) ?_ ?_
      · exact Frt_findSwaps_j137_J ok v0 v1 v2 v3 v4 s.1 x11 ((s.1 * 4) + v2) s.2 k1 kx143
      · refine J_iload (pc' := 98) ok (dOf dX4_findSwaps 58 rfl) rfl rfl ?_
        refine J_iconst (v := (-1)) (pc' := 99) ok (dOf dX4_findSwaps 59 rfl) rfl (by decide) ?_
        refine J_icmp_eq (tgt := 137) (pc' := 102) ok (dOf dX4_findSwaps 60 rfl) rfl (by decide) ?_ ?_
        · exact Frt_findSwaps_j137_J ok v0 v1 v2 v3 v4 s.1 x11 ((s.1 * 4) + v2) s.2 k1 kx143
        · refine J_iload (pc' := 104) ok (dOf dX4_findSwaps 61 rfl) rfl rfl ?_
          refine J_iload (pc' := 106) ok (dOf dX4_findSwaps 62 rfl) rfl rfl ?_
          refine J_isub (pc' := 107) ok (dOf dX4_findSwaps 63 rfl) rfl ?_
          refine J_aload_n (pc' := 108) ok (dOf dX4_findSwaps 64 rfl) rfl rfl rfl ?_
          refine J_getR (ci := 4) (kf := 6) (C := RX4) (T := TX4) (N := 12) (pc' := 111) ok (dOf dX4_findSwaps 65 rfl) rfl (by decide) rfl (by decide) win_4 wfl_X4_31 (fun a12 => ?_)
          refine J_iload (pc' := 113) ok (dOf dX4_findSwaps 66 rfl) rfl rfl ?_
          refine J_iald (pc' := 114) ok (dOf dX4_findSwaps 67 rfl) rfl (fun x13 => ?_)
          refine J_icmp_ge (tgt := 137) (pc' := 117) ok (dOf dX4_findSwaps 68 rfl) rfl (by decide) ?_ ?_
          · exact Frt_findSwaps_j137_J ok v0 v1 v2 v3 v4 s.1 x11 ((s.1 * 4) + v2) s.2 k1 kx143
          · refine J_aload_n (pc' := 118) ok (dOf dX4_findSwaps 69 rfl) rfl rfl rfl ?_
            refine J_getR (ci := 4) (kf := 6) (C := RX4) (T := TX4) (N := 12) (pc' := 121) ok (dOf dX4_findSwaps 70 rfl) rfl (by decide) rfl (by decide) win_4 wfl_X4_31 (fun a14 => ?_)
            refine J_iload (pc' := 123) ok (dOf dX4_findSwaps 71 rfl) rfl rfl ?_
            refine J_iload (pc' := 125) ok (dOf dX4_findSwaps 72 rfl) rfl rfl ?_
            refine J_iload (pc' := 127) ok (dOf dX4_findSwaps 73 rfl) rfl rfl ?_
            refine J_isub (pc' := 128) ok (dOf dX4_findSwaps 74 rfl) rfl ?_
            refine J_iast (pc' := 129) ok (dOf dX4_findSwaps 75 rfl) rfl (fun h15 _ => ?_)
            refine J_aload_n (pc' := 130) ok (dOf dX4_findSwaps 76 rfl) rfl rfl rfl ?_
            refine J_getR (ci := 4) (kf := 7) (C := RX4) (T := TX4) (N := 12) (pc' := 133) ok (dOf dX4_findSwaps 77 rfl) rfl (by decide) rfl (by decide) win_4 wfl_X4_34 (fun a16 => ?_)
            refine J_iload (pc' := 135) ok (dOf dX4_findSwaps 78 rfl) rfl rfl ?_
            refine J_iload_n (pc' := 136) ok (dOf dX4_findSwaps 79 rfl) rfl rfl rfl ?_
            refine J_iast (pc' := 137) ok (dOf dX4_findSwaps 80 rfl) rfl (fun h17 _ => ?_)
            exact Frt_findSwaps_j137_J ok v0 v1 v2 v3 v4 s.1 x11 ((s.1 * 4) + v2) h17 k1 kx143
def Frt_findSwaps_j143 (v0 : Nat) (v1 : Nat) (v2 : Int32) (v3 : Int32) (v4 : Int32) (v5 : Int32) (h : AHeap) : Option ((Int32 × AHeap) ⊕ ((Int32 × AHeap))) :=
  some (Sum.inl (v3 + 1, h))
theorem Frt_findSwaps_j143_J {E : JE} {l : Launch} {G : GX} {r : Option Value} {h' : AHeap} (ok : JOK E l G kFrt_findSwaps 0 0 r h') (v0 : Nat) (v1 : Nat) (v2 : Int32) (v3 : Int32) (v4 : Int32) (v5 : Int32) (h : AHeap) {Y : (Int32 × AHeap) ⊕ ((Int32 × AHeap)) → Prop} (k1 : ∀ s' : Int32 × AHeap, Y (.inl s') → JW E kFrt_findSwaps 21 [some (.ref v0), some (.ref v1), some (.int v2), some (.int s'.1), none, none, none, none] [] s'.2 0 0) (kx149 : ∀ q : Int32 × AHeap, Y (.inr q) → JW E kFrt_findSwaps 149 [some (.ref v0), some (.ref v1), some (.int v2), some (.int q.1), none, none, none, none] [] q.2 0 0) : J E kFrt_findSwaps (Frt_findSwaps_j143 v0 v1 v2 v3 v4 v5 h) Y 143 [some (.ref v0), some (.ref v1), some (.int v2), some (.int v3), some (.int v4), some (.int v5), none, none] [] h 0 0 := by
  unfold Frt_findSwaps_j143
  refine J_iinc (v := v3 + 1) (ls' := [some (.ref v0), some (.ref v1), some (.int v2), some (.int (v3 + 1)), some (.int v4), some (.int v5), none, none]) (pc' := 146) ok (dOf dX4_findSwaps 83 rfl) rfl rfl (by rfl) (Nat.le_of_ble_eq_true rfl) rfl rfl ?_
  refine J_goto (tgt := 21) ok (dOf dX4_findSwaps 84 rfl) (by decide) ?_
  refine J_weak (ls' := [some (.ref v0), some (.ref v1), some (.int v2), some (.int (v3 + 1)), none, none, none, none]) ⟨rfl, rfl, rfl, rfl, trivial⟩ ?_
  exact J_fin (k1 (v3 + 1, h))
def Frt_findSwaps_b21 (v0 : Nat) (v1 : Nat) (v2 : Int32) (s : Int32 × AHeap) : Option ((Int32 × AHeap) ⊕ ((Int32 × AHeap))) :=
  (gfI s.2 v1 6 1).bind fun x4 => (if x4 ≤ s.1 then some (Sum.inr (s.1, s.2)) else (gfR s.2 v1 6 6).bind fun a5 => (ald 0 s.2 a5 ((v2 * 6) + s.1)).bind fun x6 => (iter (Frt_findSwaps_b45 v0 v1 v2 s.1 x6) Lmax (0, s.2)).bind (fun (q45 : Int32 × AHeap) => Frt_findSwaps_j143 v0 v1 v2 s.1 x6 q45.1 q45.2))
theorem Frt_findSwaps_b21_J {E : JE} {l : Launch} {G : GX} {r : Option Value} {h' : AHeap} (ok : JOK E l G kFrt_findSwaps 0 0 r h') (v0 : Nat) (v1 : Nat) (v2 : Int32) {Y : (Int32 × AHeap) ⊕ ((Int32 × AHeap)) → Prop} (k1 : ∀ s' : Int32 × AHeap, Y (.inl s') → JW E kFrt_findSwaps 21 [some (.ref v0), some (.ref v1), some (.int v2), some (.int s'.1), none, none, none, none] [] s'.2 0 0) (kx149 : ∀ q : Int32 × AHeap, Y (.inr q) → JW E kFrt_findSwaps 149 [some (.ref v0), some (.ref v1), some (.int v2), some (.int q.1), none, none, none, none] [] q.2 0 0) (s : Int32 × AHeap) : J E kFrt_findSwaps (Frt_findSwaps_b21 v0 v1 v2 s) Y 21 [some (.ref v0), some (.ref v1), some (.int v2), some (.int s.1), none, none, none, none] [] s.2 0 0 := by
  unfold Frt_findSwaps_b21
  refine J_iload_n (pc' := 22) ok (dOf dX4_findSwaps 12 rfl) rfl rfl rfl ?_
  refine J_aload_n (pc' := 23) ok (dOf dX4_findSwaps 13 rfl) rfl rfl rfl ?_
  refine J_getI (ci := 6) (kf := 1) (C := RX6) (T := TX6) (N := 9) (pc' := 26) ok (dOf dX4_findSwaps 14 rfl) rfl (by decide) rfl (by decide) win_6 wfl_X4_49 (fun x4 => ?_)
  refine J_icmp_ge (tgt := 149) (pc' := 29) ok (dOf dX4_findSwaps 15 rfl) rfl (by decide) ?_ ?_
  · exact J_fin (kx149 (s.1, s.2))
  · refine J_aload_n (pc' := 30) ok (dOf dX4_findSwaps 16 rfl) rfl rfl rfl ?_
    refine J_getR (ci := 6) (kf := 6) (C := RX6) (T := TX6) (N := 9) (pc' := 33) ok (dOf dX4_findSwaps 17 rfl) rfl (by decide) rfl (by decide) win_6 wfl_X4_101 (fun a5 => ?_)
    refine J_iload_n (pc' := 34) ok (dOf dX4_findSwaps 18 rfl) rfl rfl rfl ?_
    refine J_bipush (v := 6) (pc' := 36) ok (dOf dX4_findSwaps 19 rfl) rfl (by decide) ?_
    refine J_imul (pc' := 37) ok (dOf dX4_findSwaps 20 rfl) rfl ?_
    refine J_iload_n (pc' := 38) ok (dOf dX4_findSwaps 21 rfl) rfl rfl rfl ?_
    refine J_iadd (pc' := 39) ok (dOf dX4_findSwaps 22 rfl) rfl ?_
    refine J_iald (pc' := 40) ok (dOf dX4_findSwaps 23 rfl) rfl (fun x6 => ?_)
    refine J_istore (ls' := [some (.ref v0), some (.ref v1), some (.int v2), some (.int s.1), some (.int x6), none, none, none]) (pc' := 42) ok (dOf dX4_findSwaps 24 rfl) rfl (Nat.le_of_ble_eq_true rfl) rfl rfl ?_
    refine J_iconst (v := 0) (pc' := 43) ok (dOf dX4_findSwaps 25 rfl) rfl (by decide) ?_
    refine J_istore (ls' := [some (.ref v0), some (.ref v1), some (.int v2), some (.int s.1), some (.int x6), some (.int 0), none, none]) (pc' := 45) ok (dOf dX4_findSwaps 26 rfl) rfl (Nat.le_of_ble_eq_true rfl) rfl rfl ?_
    refine J_iter (lf := fun z45 => [some (.ref v0), some (.ref v1), some (.int v2), some (.int s.1), some (.int x6), some (.int z45.1), none, none]) (sf := fun _ => []) (hf := fun z45 => z45.2) (px := (fun (q45 : Int32 × AHeap) => 143)) (lx := (fun (q45 : Int32 × AHeap) => [some (.ref v0), some (.ref v1), some (.int v2), some (.int s.1), some (.int x6), some (.int q45.1), none, none])) (sx := (fun (q45 : Int32 × AHeap) => [])) (hx := (fun (q45 : Int32 × AHeap) => q45.2)) (fun Y2 z45 m1 m2 => Frt_findSwaps_b45_J ok v0 v1 v2 s.1 x6 m1 m2 z45) (fun q45 => ?_) Lmax _
    exact Frt_findSwaps_j143_J ok v0 v1 v2 s.1 x6 q45.1 q45.2 k1 kx149
def Frt_findSwaps_j149 (v0 : Nat) (v1 : Nat) (v2 : Int32) (v3 : Int32) (h : AHeap) : Option ((Int32 × AHeap) ⊕ ((Int32 × AHeap))) :=
  some (Sum.inl (v2 + 1, h))
theorem Frt_findSwaps_j149_J {E : JE} {l : Launch} {G : GX} {r : Option Value} {h' : AHeap} (ok : JOK E l G kFrt_findSwaps 0 0 r h') (v0 : Nat) (v1 : Nat) (v2 : Int32) (v3 : Int32) (h : AHeap) {Y : (Int32 × AHeap) ⊕ ((Int32 × AHeap)) → Prop} (k1 : ∀ s' : Int32 × AHeap, Y (.inl s') → JW E kFrt_findSwaps 11 [some (.ref v0), some (.ref v1), some (.int s'.1), none, none, none, none, none] [] s'.2 0 0) (kx155 : ∀ q : Int32 × AHeap, Y (.inr q) → JW E kFrt_findSwaps 155 [some (.ref v0), some (.ref v1), some (.int q.1), none, none, none, none, none] [] q.2 0 0) : J E kFrt_findSwaps (Frt_findSwaps_j149 v0 v1 v2 v3 h) Y 149 [some (.ref v0), some (.ref v1), some (.int v2), some (.int v3), none, none, none, none] [] h 0 0 := by
  unfold Frt_findSwaps_j149
  refine J_iinc (v := v2 + 1) (ls' := [some (.ref v0), some (.ref v1), some (.int (v2 + 1)), some (.int v3), none, none, none, none]) (pc' := 152) ok (dOf dX4_findSwaps 85 rfl) rfl rfl (by rfl) (Nat.le_of_ble_eq_true rfl) rfl rfl ?_
  refine J_goto (tgt := 11) ok (dOf dX4_findSwaps 86 rfl) (by decide) ?_
  refine J_weak (ls' := [some (.ref v0), some (.ref v1), some (.int (v2 + 1)), none, none, none, none, none]) ⟨rfl, rfl, rfl, trivial⟩ ?_
  exact J_fin (k1 (v2 + 1, h))
def Frt_findSwaps_b11 (v0 : Nat) (v1 : Nat) (s : Int32 × AHeap) : Option ((Int32 × AHeap) ⊕ ((Int32 × AHeap))) :=
  (gfI s.2 v1 6 0).bind fun x3 => (if x3 ≤ s.1 then some (Sum.inr (s.1, s.2)) else (iter (Frt_findSwaps_b21 v0 v1 s.1) Lmax (0, s.2)).bind (fun (q21 : Int32 × AHeap) => Frt_findSwaps_j149 v0 v1 s.1 q21.1 q21.2))
theorem Frt_findSwaps_b11_J {E : JE} {l : Launch} {G : GX} {r : Option Value} {h' : AHeap} (ok : JOK E l G kFrt_findSwaps 0 0 r h') (v0 : Nat) (v1 : Nat) {Y : (Int32 × AHeap) ⊕ ((Int32 × AHeap)) → Prop} (k1 : ∀ s' : Int32 × AHeap, Y (.inl s') → JW E kFrt_findSwaps 11 [some (.ref v0), some (.ref v1), some (.int s'.1), none, none, none, none, none] [] s'.2 0 0) (kx155 : ∀ q : Int32 × AHeap, Y (.inr q) → JW E kFrt_findSwaps 155 [some (.ref v0), some (.ref v1), some (.int q.1), none, none, none, none, none] [] q.2 0 0) (s : Int32 × AHeap) : J E kFrt_findSwaps (Frt_findSwaps_b11 v0 v1 s) Y 11 [some (.ref v0), some (.ref v1), some (.int s.1), none, none, none, none, none] [] s.2 0 0 := by
  unfold Frt_findSwaps_b11
  refine J_iload_n (pc' := 12) ok (dOf dX4_findSwaps 6 rfl) rfl rfl rfl ?_
  refine J_aload_n (pc' := 13) ok (dOf dX4_findSwaps 7 rfl) rfl rfl rfl ?_
  refine J_getI (ci := 6) (kf := 0) (C := RX6) (T := TX6) (N := 9) (pc' := 16) ok (dOf dX4_findSwaps 8 rfl) rfl (by decide) rfl (by decide) win_6 wfl_X4_115 (fun x3 => ?_)
  refine J_icmp_ge (tgt := 155) (pc' := 19) ok (dOf dX4_findSwaps 9 rfl) rfl (by decide) ?_ ?_
  · exact J_fin (kx155 (s.1, s.2))
  · refine J_iconst (v := 0) (pc' := 20) ok (dOf dX4_findSwaps 10 rfl) rfl (by decide) ?_
    refine J_istore_n (ls' := [some (.ref v0), some (.ref v1), some (.int s.1), some (.int 0), none, none, none, none]) (pc' := 21) ok (dOf dX4_findSwaps 11 rfl) rfl rfl (Nat.le_of_ble_eq_true rfl) rfl rfl ?_
    refine J_iter (lf := fun z21 => [some (.ref v0), some (.ref v1), some (.int s.1), some (.int z21.1), none, none, none, none]) (sf := fun _ => []) (hf := fun z21 => z21.2) (px := (fun (q21 : Int32 × AHeap) => 149)) (lx := (fun (q21 : Int32 × AHeap) => [some (.ref v0), some (.ref v1), some (.int s.1), some (.int q21.1), none, none, none, none])) (sx := (fun (q21 : Int32 × AHeap) => [])) (hx := (fun (q21 : Int32 × AHeap) => q21.2)) (fun Y2 z21 m1 m2 => Frt_findSwaps_b21_J ok v0 v1 s.1 m1 m2 z21) (fun q21 => ?_) Lmax _
    exact Frt_findSwaps_j149_J ok v0 v1 s.1 q21.1 q21.2 k1 kx155
def Frt_findSwaps_j155 (v0 : Nat) (v1 : Nat) (v2 : Int32) (h : AHeap) : Option (Unit × AHeap) :=
  some ((), h)
theorem Frt_findSwaps_j155_J {E : JE} {l : Launch} {G : GX} {h' : AHeap} (ok : JOK E l G kFrt_findSwaps 0 0 none h') (v0 : Nat) (v1 : Nat) (v2 : Int32) (h : AHeap) : J E kFrt_findSwaps (Frt_findSwaps_j155 v0 v1 v2 h) (fun z => z = ((), h')) 155 [some (.ref v0), some (.ref v1), some (.int v2), none, none, none, none, none] [] h 0 0 := by
  unfold Frt_findSwaps_j155
  exact J_vreturn ok (dOf dX4_findSwaps 87 rfl) rfl (Eq.refl 0) (Nat.le_refl 0)
def Frt_findSwaps (v0 : Nat) (v1 : Nat) (h : AHeap) : Option (Unit × AHeap) :=
  (gfR h v0 4 6).bind fun a1 => bnd2 (J7_fill a1 1000000 h) fun _ h2 => (iter (Frt_findSwaps_b11 v0 v1) Lmax (0, h2)).bind (fun (q11 : Int32 × AHeap) => Frt_findSwaps_j155 v0 v1 q11.1 q11.2)
theorem t_Frt_findSwaps {l : Launch} {G : GX} {v0 : Nat} {v1 : Nat} {h : AHeap} {h1 : AHeap} (hf : Frt_findSwaps v0 v1 h = some ((), h1)) : CT l G kFrt_findSwaps 0 0 [.ref v0, .ref v1] h none h1 := by
  refine CT_of (ls := [some (.ref v0), some (.ref v1), none, none, none, none, none, none]) (Z := fun z => z = ((), h1)) (by decide +kernel) (Nat.le_of_ble_eq_true rfl) hf rfl ⟨rfl, rfl, trivial⟩ (fun E ok => ?_)
  unfold Frt_findSwaps
  refine J_aload_n (pc' := 1) ok (dOf dX4_findSwaps 0 rfl) rfl rfl rfl ?_
  refine J_getR (ci := 4) (kf := 6) (C := RX4) (T := TX4) (N := 12) (pc' := 4) ok (dOf dX4_findSwaps 1 rfl) rfl (by decide) rfl (by decide) win_4 wfl_X4_31 (fun a1 => ?_)
  refine J_ldc (v := 1000000) (pc' := 6) ok (dOf dX4_findSwaps 2 rfl) rfl wcon_X4_114 ?_
  refine J_callSv (k2 := kJ7_fill) (as := [.ref a1, .int 1000000]) (pc' := 9) ok (dOf dX4_findSwaps 3 rfl) rfl (cw_J7_fill (by decide) (by decide)) wml_X4_87 wstat_J7_fill_53178 ⟨Nat.le_refl 0, Nat.le_refl 0⟩ (Nat.le_of_ble_eq_true rfl) rfl (fun _ _ hf => t_J7_fill hf) (fun _ h2 => ?_)
  refine J_iconst (v := 0) (pc' := 10) ok (dOf dX4_findSwaps 4 rfl) rfl (by decide) ?_
  refine J_istore_n (ls' := [some (.ref v0), some (.ref v1), some (.int 0), none, none, none, none, none]) (pc' := 11) ok (dOf dX4_findSwaps 5 rfl) rfl rfl (Nat.le_of_ble_eq_true rfl) rfl rfl ?_
  refine J_iter (lf := fun z11 => [some (.ref v0), some (.ref v1), some (.int z11.1), none, none, none, none, none]) (sf := fun _ => []) (hf := fun z11 => z11.2) (px := (fun (q11 : Int32 × AHeap) => 155)) (lx := (fun (q11 : Int32 × AHeap) => [some (.ref v0), some (.ref v1), some (.int q11.1), none, none, none, none, none])) (sx := (fun (q11 : Int32 × AHeap) => [])) (hx := (fun (q11 : Int32 × AHeap) => q11.2)) (fun Y2 z11 m1 m2 => Frt_findSwaps_b11_J ok v0 v1 m1 m2 z11) (fun q11 => ?_) Lmax _
  exact Frt_findSwaps_j155_J ok v0 v1 q11.1 q11.2
-- X4_findDear
abbrev kFrt_findDear : Cd := (yX4_findDear, cX4_findDear, 6, none, 0, 0)
theorem dX4_findDear : dcheck cX4_findDear [(0, .iconst 0, 1), (1, .istore_n 1, 1), (2, .iload_n 1, 1), (3, .iconst 4, 1), (4, .if_icmp .ge 30, 3), (7, .aload_n 0, 1), (8, .getfield 37, 3), (11, .iload_n 1, 1), (12, .aload_n 0, 1), (13, .getfield 25, 3), (16, .iload_n 1, 1), (17, .iaload, 1), (18, .ifCond .le 7, 3), (21, .iconst 0, 1), (22, .goto 5, 3), (25, .ldc 114, 2), (27, .iastore, 1), (28, .iinc 1 1, 3), (31, .goto (-29), 3), (34, .iconst 1, 1), (35, .istore_n 1, 1), (36, .iconst 0, 1), (37, .istore_n 2, 1), (38, .iload_n 2, 1), (39, .iconst 4, 1), (40, .if_icmp .ge 119, 3), (43, .iload_n 1, 1), (44, .ifCond .eq 115, 3), (47, .iconst 0, 1), (48, .istore_n 1, 1), (49, .iconst 0, 1), (50, .istore_n 3, 1), (51, .iload_n 3, 1), (52, .iconst 4, 1), (53, .if_icmp .ge 100, 3), (56, .iconst 0, 1), (57, .istore 4, 2), (59, .iload 4, 2), (61, .iconst 4, 1), (62, .if_icmp .ge 85, 3), (65, .aload_n 0, 1), (66, .getfield 31, 3), (69, .iload_n 3, 1), (70, .iconst 4, 1), (71, .imul, 1), (72, .iload 4, 2), (74, .iadd, 1), (75, .iaload, 1), (76, .istore 5, 2), (78, .aload_n 0, 1), (79, .getfield 37, 3), (82, .iload_n 3, 1), (83, .iaload, 1), (84, .ldc 114, 2), (86, .if_icmp .ge 55, 3), (89, .iload 5, 2), (91, .ldc 114, 2), (93, .if_icmp .ge 48, 3), (96, .aload_n 0, 1), (97, .getfield 37, 3), (100, .iload_n 3, 1), (101, .iaload, 1), (102, .iload 5, 2), (104, .iadd, 1), (105, .aload_n 0, 1), (106, .getfield 37, 3), (109, .iload 4, 2), (111, .iaload, 1), (112, .if_icmp .ge 29, 3), (115, .aload_n 0, 1), (116, .getfield 37, 3), (119, .iload 4, 2), (121, .aload_n 0, 1), (122, .getfield 37, 3), (125, .iload_n 3, 1), (126, .iaload, 1), (127, .iload 5, 2), (129, .iadd, 1), (130, .iastore, 1), (131, .aload_n 0, 1), (132, .getfield 40, 3), (135, .iload 4, 2), (137, .iload_n 3, 1), (138, .iastore, 1), (139, .iconst 1, 1), (140, .istore_n 1, 1), (141, .iinc 4 1, 3), (144, .goto (-85), 3), (147, .iinc 3 1, 3), (150, .goto (-99), 3), (153, .iinc 2 1, 3), (156, .goto (-118), 3), (159, .return_, 1)] = true := by decide +kernel
theorem cw_Frt_findDear {k : Cd} (h1 : kFrt_findDear.2.2.2.2.1 + 1 ≤ k.2.2.2.2.1) (h2 : 8 + (kFrt_findDear.2.2.1 + 11) + kFrt_findDear.2.2.2.2.2 ≤ k.2.2.2.2.2) : Cw k kFrt_findDear 0 := ⟨wcode_X4_findDear, wini_SplitProgram_Freight, ⟨by decide, by decide, by decide +kernel⟩, h1, h2⟩
def Frt_findDear_j27 (v0 : Nat) (v1 : Int32) (t0 : Nat) (t1 : Int32) (t2 : Int32) (h : AHeap) : Option ((Int32 × AHeap) ⊕ ((Int32 × AHeap))) :=
  (ast 0 h t0 t1 t2).bind fun h4 => some (Sum.inl (v1 + 1, h4))
theorem Frt_findDear_j27_J {E : JE} {l : Launch} {G : GX} {r : Option Value} {h' : AHeap} (ok : JOK E l G kFrt_findDear 0 0 r h') (v0 : Nat) (v1 : Int32) (t0 : Nat) (t1 : Int32) (t2 : Int32) (h : AHeap) {Y : (Int32 × AHeap) ⊕ ((Int32 × AHeap)) → Prop} (k1 : ∀ s' : Int32 × AHeap, Y (.inl s') → JW E kFrt_findDear 2 [some (.ref v0), some (.int s'.1), none, none, none, none] [] s'.2 0 0) (kx34 : ∀ q : Int32 × AHeap, Y (.inr q) → JW E kFrt_findDear 34 [some (.ref v0), some (.int q.1), none, none, none, none] [] q.2 0 0) : J E kFrt_findDear (Frt_findDear_j27 v0 v1 t0 t1 t2 h) Y 27 [some (.ref v0), some (.int v1), none, none, none, none] [.int t2, .int t1, .ref t0] h 0 0 := by
  unfold Frt_findDear_j27
  refine J_iast (pc' := 28) ok (dOf dX4_findDear 16 rfl) rfl (fun h4 _ => ?_)
  refine J_iinc (v := v1 + 1) (ls' := [some (.ref v0), some (.int (v1 + 1)), none, none, none, none]) (pc' := 31) ok (dOf dX4_findDear 17 rfl) rfl rfl (by rfl) (Nat.le_of_ble_eq_true rfl) rfl rfl ?_
  refine J_goto (tgt := 2) ok (dOf dX4_findDear 18 rfl) (by decide) ?_
  exact J_fin (k1 (v1 + 1, h4))
def Frt_findDear_b2 (v0 : Nat) (s : Int32 × AHeap) : Option ((Int32 × AHeap) ⊕ ((Int32 × AHeap))) :=
  (if 4 ≤ s.1 then some (Sum.inr (s.1, s.2)) else (gfR s.2 v0 4 8).bind fun a1 => (gfR s.2 v0 4 4).bind fun a2 => (ald 0 s.2 a2 s.1).bind fun x3 => (if x3 ≤ 0 then Frt_findDear_j27 v0 s.1 a1 s.1 1000000 s.2 else Frt_findDear_j27 v0 s.1 a1 s.1 0 s.2))
theorem Frt_findDear_b2_J {E : JE} {l : Launch} {G : GX} {r : Option Value} {h' : AHeap} (ok : JOK E l G kFrt_findDear 0 0 r h') (v0 : Nat) {Y : (Int32 × AHeap) ⊕ ((Int32 × AHeap)) → Prop} (k1 : ∀ s' : Int32 × AHeap, Y (.inl s') → JW E kFrt_findDear 2 [some (.ref v0), some (.int s'.1), none, none, none, none] [] s'.2 0 0) (kx34 : ∀ q : Int32 × AHeap, Y (.inr q) → JW E kFrt_findDear 34 [some (.ref v0), some (.int q.1), none, none, none, none] [] q.2 0 0) (s : Int32 × AHeap) : J E kFrt_findDear (Frt_findDear_b2 v0 s) Y 2 [some (.ref v0), some (.int s.1), none, none, none, none] [] s.2 0 0 := by
  unfold Frt_findDear_b2
  refine J_iload_n (pc' := 3) ok (dOf dX4_findDear 2 rfl) rfl rfl rfl ?_
  refine J_iconst (v := 4) (pc' := 4) ok (dOf dX4_findDear 3 rfl) rfl (by decide) ?_
  refine J_icmp_ge (tgt := 34) (pc' := 7) ok (dOf dX4_findDear 4 rfl) rfl (by decide) ?_ ?_
  · exact J_fin (kx34 (s.1, s.2))
  · refine J_aload_n (pc' := 8) ok (dOf dX4_findDear 5 rfl) rfl rfl rfl ?_
    refine J_getR (ci := 4) (kf := 8) (C := RX4) (T := TX4) (N := 12) (pc' := 11) ok (dOf dX4_findDear 6 rfl) rfl (by decide) rfl (by decide) win_4 wfl_X4_37 (fun a1 => ?_)
    refine J_iload_n (pc' := 12) ok (dOf dX4_findDear 7 rfl) rfl rfl rfl ?_
    refine J_aload_n (pc' := 13) ok (dOf dX4_findDear 8 rfl) rfl rfl rfl ?_
    refine J_getR (ci := 4) (kf := 4) (C := RX4) (T := TX4) (N := 12) (pc' := 16) ok (dOf dX4_findDear 9 rfl) rfl (by decide) rfl (by decide) win_4 wfl_X4_25 (fun a2 => ?_)
    refine J_iload_n (pc' := 17) ok (dOf dX4_findDear 10 rfl) rfl rfl rfl ?_
    refine J_iald (pc' := 18) ok (dOf dX4_findDear 11 rfl) rfl (fun x3 => ?_)
    refine J_if_le (tgt := 25) (pc' := 21) ok (dOf dX4_findDear 12 rfl) rfl (by decide) ?_ ?_
    · refine J_ldc (v := 1000000) (pc' := 27) ok (dOf dX4_findDear 15 rfl) rfl wcon_X4_114 ?_
      exact Frt_findDear_j27_J ok v0 s.1 a1 s.1 1000000 s.2 k1 kx34
    · refine J_iconst (v := 0) (pc' := 22) ok (dOf dX4_findDear 13 rfl) rfl (by decide) ?_
      refine J_goto (tgt := 27) ok (dOf dX4_findDear 14 rfl) (by decide) ?_
      exact Frt_findDear_j27_J ok v0 s.1 a1 s.1 0 s.2 k1 kx34
def Frt_findDear_j141 (v0 : Nat) (v1 : Int32) (v2 : Int32) (v3 : Int32) (v4 : Int32) (v5 : Int32) (h : AHeap) : Option ((Int32 × Int32 × AHeap) ⊕ ((Int32 × Int32 × AHeap))) :=
  some (Sum.inl (v1, v4 + 1, h))
theorem Frt_findDear_j141_J {E : JE} {l : Launch} {G : GX} {r : Option Value} {h' : AHeap} (ok : JOK E l G kFrt_findDear 0 0 r h') (v0 : Nat) (v1 : Int32) (v2 : Int32) (v3 : Int32) (v4 : Int32) (v5 : Int32) (h : AHeap) {Y : (Int32 × Int32 × AHeap) ⊕ ((Int32 × Int32 × AHeap)) → Prop} (k1 : ∀ s' : Int32 × Int32 × AHeap, Y (.inl s') → JW E kFrt_findDear 59 [some (.ref v0), some (.int s'.1), some (.int v2), some (.int v3), some (.int s'.2.1), none] [] s'.2.2 0 0) (kx147 : ∀ q : Int32 × Int32 × AHeap, Y (.inr q) → JW E kFrt_findDear 147 [some (.ref v0), some (.int q.1), some (.int v2), some (.int v3), some (.int q.2.1), none] [] q.2.2 0 0) : J E kFrt_findDear (Frt_findDear_j141 v0 v1 v2 v3 v4 v5 h) Y 141 [some (.ref v0), some (.int v1), some (.int v2), some (.int v3), some (.int v4), some (.int v5)] [] h 0 0 := by
  unfold Frt_findDear_j141
  refine J_iinc (v := v4 + 1) (ls' := [some (.ref v0), some (.int v1), some (.int v2), some (.int v3), some (.int (v4 + 1)), some (.int v5)]) (pc' := 144) ok (dOf dX4_findDear 86 rfl) rfl rfl (by rfl) (Nat.le_of_ble_eq_true rfl) rfl rfl ?_
  refine J_goto (tgt := 59) ok (dOf dX4_findDear 87 rfl) (by decide) ?_
  refine J_weak (ls' := [some (.ref v0), some (.int v1), some (.int v2), some (.int v3), some (.int (v4 + 1)), none]) ⟨rfl, rfl, rfl, rfl, rfl, trivial⟩ ?_
  exact J_fin (k1 (v1, v4 + 1, h))
def Frt_findDear_b59 (v0 : Nat) (v2 : Int32) (v3 : Int32) (s : Int32 × Int32 × AHeap) : Option ((Int32 × Int32 × AHeap) ⊕ ((Int32 × Int32 × AHeap))) :=
  (if 4 ≤ s.2.1 then some (Sum.inr (s.1, s.2.1, s.2.2)) else (gfR s.2.2 v0 4 6).bind fun a5 => (ald 0 s.2.2 a5 ((v3 * 4) + s.2.1)).bind fun x6 => (gfR s.2.2 v0 4 8).bind fun a7 => (ald 0 s.2.2 a7 v3).bind fun x8 => (if 1000000 ≤ x8 then Frt_findDear_j141 v0 s.1 v2 v3 s.2.1 x6 s.2.2 else (if 1000000 ≤ x6 then Frt_findDear_j141 v0 s.1 v2 v3 s.2.1 x6 s.2.2 else (gfR s.2.2 v0 4 8).bind fun a9 => (ald 0 s.2.2 a9 v3).bind fun x10 => (gfR s.2.2 v0 4 8).bind fun a11 => (ald 0 s.2.2 a11 s.2.1).bind fun x12 => (if x12 ≤ (x10 + x6) then Frt_findDear_j141 v0 s.1 v2 v3 s.2.1 x6 s.2.2 else (gfR s.2.2 v0 4 8).bind fun a13 => (gfR s.2.2 v0 4 8).bind fun a14 => (ald 0 s.2.2 a14 v3).bind fun x15 => (ast 0 s.2.2 a13 s.2.1 (x15 + x6)).bind fun h16 => (gfR h16 v0 4 9).bind fun a17 => (ast 0 h16 a17 s.2.1 v3).bind fun h18 => Frt_findDear_j141 v0 1 v2 v3 s.2.1 x6 h18))))
theorem Frt_findDear_b59_J {E : JE} {l : Launch} {G : GX} {r : Option Value} {h' : AHeap} (ok : JOK E l G kFrt_findDear 0 0 r h') (v0 : Nat) (v2 : Int32) (v3 : Int32) {Y : (Int32 × Int32 × AHeap) ⊕ ((Int32 × Int32 × AHeap)) → Prop} (k1 : ∀ s' : Int32 × Int32 × AHeap, Y (.inl s') → JW E kFrt_findDear 59 [some (.ref v0), some (.int s'.1), some (.int v2), some (.int v3), some (.int s'.2.1), none] [] s'.2.2 0 0) (kx147 : ∀ q : Int32 × Int32 × AHeap, Y (.inr q) → JW E kFrt_findDear 147 [some (.ref v0), some (.int q.1), some (.int v2), some (.int v3), some (.int q.2.1), none] [] q.2.2 0 0) (s : Int32 × Int32 × AHeap) : J E kFrt_findDear (Frt_findDear_b59 v0 v2 v3 s) Y 59 [some (.ref v0), some (.int s.1), some (.int v2), some (.int v3), some (.int s.2.1), none] [] s.2.2 0 0 := by
  unfold Frt_findDear_b59
  refine J_iload (pc' := 61) ok (dOf dX4_findDear 37 rfl) rfl rfl ?_
  refine J_iconst (v := 4) (pc' := 62) ok (dOf dX4_findDear 38 rfl) rfl (by decide) ?_
  refine J_icmp_ge (tgt := 147) (pc' := 65) ok (dOf dX4_findDear 39 rfl) rfl (by decide) ?_ ?_
  · exact J_fin (kx147 (s.1, s.2.1, s.2.2))
  · refine J_aload_n (pc' := 66) ok (dOf dX4_findDear 40 rfl) rfl rfl rfl ?_
    refine J_getR (ci := 4) (kf := 6) (C := RX4) (T := TX4) (N := 12) (pc' := 69) ok (dOf dX4_findDear 41 rfl) rfl (by decide) rfl (by decide) win_4 wfl_X4_31 (fun a5 => ?_)
    refine J_iload_n (pc' := 70) ok (dOf dX4_findDear 42 rfl) rfl rfl rfl ?_
    refine J_iconst (v := 4) (pc' := 71) ok (dOf dX4_findDear 43 rfl) rfl (by decide) ?_
    refine J_imul (pc' := 72) ok (dOf dX4_findDear 44 rfl) rfl ?_
    refine J_iload (pc' := 74) ok (dOf dX4_findDear 45 rfl) rfl rfl ?_
    refine J_iadd (pc' := 75) ok (dOf dX4_findDear 46 rfl) rfl ?_
    refine J_iald (pc' := 76) ok (dOf dX4_findDear 47 rfl) rfl (fun x6 => ?_)
    refine J_istore (ls' := [some (.ref v0), some (.int s.1), some (.int v2), some (.int v3), some (.int s.2.1), some (.int x6)]) (pc' := 78) ok (dOf dX4_findDear 48 rfl) rfl (Nat.le_of_ble_eq_true rfl) rfl rfl ?_
    refine J_aload_n (pc' := 79) ok (dOf dX4_findDear 49 rfl) rfl rfl rfl ?_
    refine J_getR (ci := 4) (kf := 8) (C := RX4) (T := TX4) (N := 12) (pc' := 82) ok (dOf dX4_findDear 50 rfl) rfl (by decide) rfl (by decide) win_4 wfl_X4_37 (fun a7 => ?_)
    refine J_iload_n (pc' := 83) ok (dOf dX4_findDear 51 rfl) rfl rfl rfl ?_
    refine J_iald (pc' := 84) ok (dOf dX4_findDear 52 rfl) rfl (fun x8 => ?_)
    refine J_ldc (v := 1000000) (pc' := 86) ok (dOf dX4_findDear 53 rfl) rfl wcon_X4_114 ?_
    refine J_icmp_ge (tgt := 141) (pc' := 89) ok (dOf dX4_findDear 54 rfl) rfl (by decide) ?_ ?_
    · exact Frt_findDear_j141_J ok v0 s.1 v2 v3 s.2.1 x6 s.2.2 k1 kx147
    · refine J_iload (pc' := 91) ok (dOf dX4_findDear 55 rfl) rfl rfl ?_
      refine J_ldc (v := 1000000) (pc' := 93) ok (dOf dX4_findDear 56 rfl) rfl wcon_X4_114 ?_
      refine J_icmp_ge (tgt := 141) (pc' := 96) ok (dOf dX4_findDear 57 rfl) rfl (by decide) ?_ ?_
      · exact Frt_findDear_j141_J ok v0 s.1 v2 v3 s.2.1 x6 s.2.2 k1 kx147
      · refine J_aload_n (pc' := 97) ok (dOf dX4_findDear 58 rfl) rfl rfl rfl ?_
        refine J_getR (ci := 4) (kf := 8) (C := RX4) (T := TX4) (N := 12) (pc' := 100) ok (dOf dX4_findDear 59 rfl) rfl (by decide) rfl (by decide) win_4 wfl_X4_37 (fun a9 => ?_)
        refine J_iload_n (pc' := 101) ok (dOf dX4_findDear 60 rfl) rfl rfl rfl ?_
        refine J_iald (pc' := 102) ok (dOf dX4_findDear 61 rfl) rfl (fun x10 => ?_)
        refine J_iload (pc' := 104) ok (dOf dX4_findDear 62 rfl) rfl rfl ?_
        refine J_iadd (pc' := 105) ok (dOf dX4_findDear 63 rfl) rfl ?_
        refine J_aload_n (pc' := 106) ok (dOf dX4_findDear 64 rfl) rfl rfl rfl ?_
        refine J_getR (ci := 4) (kf := 8) (C := RX4) (T := TX4) (N := 12) (pc' := 109) ok (dOf dX4_findDear 65 rfl) rfl (by decide) rfl (by decide) win_4 wfl_X4_37 (fun a11 => ?_)
        refine J_iload (pc' := 111) ok (dOf dX4_findDear 66 rfl) rfl rfl ?_
        refine J_iald (pc' := 112) ok (dOf dX4_findDear 67 rfl) rfl (fun x12 => ?_)
        refine J_icmp_ge (tgt := 141) (pc' := 115) ok (dOf dX4_findDear 68 rfl) rfl (by decide) ?_ ?_
        · exact Frt_findDear_j141_J ok v0 s.1 v2 v3 s.2.1 x6 s.2.2 k1 kx147
        · refine J_aload_n (pc' := 116) ok (dOf dX4_findDear 69 rfl) rfl rfl rfl ?_
          refine J_getR (ci := 4) (kf := 8) (C := RX4) (T := TX4) (N := 12) (pc' := 119) ok (dOf dX4_findDear 70 rfl) rfl (by decide) rfl (by decide) win_4 wfl_X4_37 (fun a13 => ?_)
          refine J_iload (pc' := 121) ok (dOf dX4_findDear 71 rfl) rfl rfl ?_
          refine J_aload_n (pc' := 122) ok (dOf dX4_findDear 72 rfl) rfl rfl rfl ?_
          refine J_getR (ci := 4) (kf := 8) (C := RX4) (T := TX4) (N := 12) (pc' := 125) ok (dOf dX4_findDear 73 rfl) rfl (by decide) rfl (by decide) win_4 wfl_X4_37 (fun a14 => ?_)
          refine J_iload_n (pc' := 126) ok (dOf dX4_findDear 74 rfl) rfl rfl rfl ?_
          refine J_iald (pc' := 127) ok (dOf dX4_findDear 75 rfl) rfl (fun x15 => ?_)
          refine J_iload (pc' := 129) ok (dOf dX4_findDear 76 rfl) rfl rfl ?_
          refine J_iadd (pc' := 130) ok (dOf dX4_findDear 77 rfl) rfl ?_
          refine J_iast (pc' := 131) ok (dOf dX4_findDear 78 rfl) rfl (fun h16 _ => ?_)
          refine J_aload_n (pc' := 132) ok (dOf dX4_findDear 79 rfl) rfl rfl rfl ?_
          refine J_getR (ci := 4) (kf := 9) (C := RX4) (T := TX4) (N := 12) (pc' := 135) ok (dOf dX4_findDear 80 rfl) rfl (by decide) rfl (by decide) win_4 wfl_X4_40 (fun a17 => ?_)
          refine J_iload (pc' := 137) ok (dOf dX4_findDear 81 rfl) rfl rfl ?_
          refine J_iload_n (pc' := 138) ok (dOf dX4_findDear 82 rfl) rfl rfl rfl ?_
          refine J_iast (pc' := 139) ok (dOf dX4_findDear 83 rfl) rfl (fun h18 _ => ?_)
          refine J_iconst (v := 1) (pc' := 140) ok (dOf dX4_findDear 84 rfl) rfl (by decide) ?_
          refine J_istore_n (ls' := [some (.ref v0), some (.int 1), some (.int v2), some (.int v3), some (.int s.2.1), some (.int x6)]) (pc' := 141) ok (dOf dX4_findDear 85 rfl) rfl rfl (Nat.le_of_ble_eq_true rfl) rfl rfl ?_
          exact Frt_findDear_j141_J ok v0 1 v2 v3 s.2.1 x6 h18 k1 kx147
def Frt_findDear_j147 (v0 : Nat) (v1 : Int32) (v2 : Int32) (v3 : Int32) (v4 : Int32) (h : AHeap) : Option ((Int32 × Int32 × AHeap) ⊕ ((Int32 × Int32 × AHeap))) :=
  some (Sum.inl (v1, v3 + 1, h))
theorem Frt_findDear_j147_J {E : JE} {l : Launch} {G : GX} {r : Option Value} {h' : AHeap} (ok : JOK E l G kFrt_findDear 0 0 r h') (v0 : Nat) (v1 : Int32) (v2 : Int32) (v3 : Int32) (v4 : Int32) (h : AHeap) {Y : (Int32 × Int32 × AHeap) ⊕ ((Int32 × Int32 × AHeap)) → Prop} (k1 : ∀ s' : Int32 × Int32 × AHeap, Y (.inl s') → JW E kFrt_findDear 51 [some (.ref v0), some (.int s'.1), some (.int v2), some (.int s'.2.1), none, none] [] s'.2.2 0 0) (kx153 : ∀ q : Int32 × Int32 × AHeap, Y (.inr q) → JW E kFrt_findDear 153 [some (.ref v0), some (.int q.1), some (.int v2), some (.int q.2.1), none, none] [] q.2.2 0 0) : J E kFrt_findDear (Frt_findDear_j147 v0 v1 v2 v3 v4 h) Y 147 [some (.ref v0), some (.int v1), some (.int v2), some (.int v3), some (.int v4), none] [] h 0 0 := by
  unfold Frt_findDear_j147
  refine J_iinc (v := v3 + 1) (ls' := [some (.ref v0), some (.int v1), some (.int v2), some (.int (v3 + 1)), some (.int v4), none]) (pc' := 150) ok (dOf dX4_findDear 88 rfl) rfl rfl (by rfl) (Nat.le_of_ble_eq_true rfl) rfl rfl ?_
  refine J_goto (tgt := 51) ok (dOf dX4_findDear 89 rfl) (by decide) ?_
  refine J_weak (ls' := [some (.ref v0), some (.int v1), some (.int v2), some (.int (v3 + 1)), none, none]) ⟨rfl, rfl, rfl, rfl, trivial⟩ ?_
  exact J_fin (k1 (v1, v3 + 1, h))
def Frt_findDear_b51 (v0 : Nat) (v2 : Int32) (s : Int32 × Int32 × AHeap) : Option ((Int32 × Int32 × AHeap) ⊕ ((Int32 × Int32 × AHeap))) :=
  (if 4 ≤ s.2.1 then some (Sum.inr (s.1, s.2.1, s.2.2)) else (iter (Frt_findDear_b59 v0 v2 s.2.1) Lmax (s.1, 0, s.2.2)).bind (fun (q59 : Int32 × Int32 × AHeap) => Frt_findDear_j147 v0 q59.1 v2 s.2.1 q59.2.1 q59.2.2))
theorem Frt_findDear_b51_J {E : JE} {l : Launch} {G : GX} {r : Option Value} {h' : AHeap} (ok : JOK E l G kFrt_findDear 0 0 r h') (v0 : Nat) (v2 : Int32) {Y : (Int32 × Int32 × AHeap) ⊕ ((Int32 × Int32 × AHeap)) → Prop} (k1 : ∀ s' : Int32 × Int32 × AHeap, Y (.inl s') → JW E kFrt_findDear 51 [some (.ref v0), some (.int s'.1), some (.int v2), some (.int s'.2.1), none, none] [] s'.2.2 0 0) (kx153 : ∀ q : Int32 × Int32 × AHeap, Y (.inr q) → JW E kFrt_findDear 153 [some (.ref v0), some (.int q.1), some (.int v2), some (.int q.2.1), none, none] [] q.2.2 0 0) (s : Int32 × Int32 × AHeap) : J E kFrt_findDear (Frt_findDear_b51 v0 v2 s) Y 51 [some (.ref v0), some (.int s.1), some (.int v2), some (.int s.2.1), none, none] [] s.2.2 0 0 := by
  unfold Frt_findDear_b51
  refine J_iload_n (pc' := 52) ok (dOf dX4_findDear 32 rfl) rfl rfl rfl ?_
  refine J_iconst (v := 4) (pc' := 53) ok (dOf dX4_findDear 33 rfl) rfl (by decide) ?_
  refine J_icmp_ge (tgt := 153) (pc' := 56) ok (dOf dX4_findDear 34 rfl) rfl (by decide) ?_ ?_
  · exact J_fin (kx153 (s.1, s.2.1, s.2.2))
  · refine J_iconst (v := 0) (pc' := 57) ok (dOf dX4_findDear 35 rfl) rfl (by decide) ?_
    refine J_istore (ls' := [some (.ref v0), some (.int s.1), some (.int v2), some (.int s.2.1), some (.int 0), none]) (pc' := 59) ok (dOf dX4_findDear 36 rfl) rfl (Nat.le_of_ble_eq_true rfl) rfl rfl ?_
    refine J_iter (lf := fun z59 => [some (.ref v0), some (.int z59.1), some (.int v2), some (.int s.2.1), some (.int z59.2.1), none]) (sf := fun _ => []) (hf := fun z59 => z59.2.2) (px := (fun (q59 : Int32 × Int32 × AHeap) => 147)) (lx := (fun (q59 : Int32 × Int32 × AHeap) => [some (.ref v0), some (.int q59.1), some (.int v2), some (.int s.2.1), some (.int q59.2.1), none])) (sx := (fun (q59 : Int32 × Int32 × AHeap) => [])) (hx := (fun (q59 : Int32 × Int32 × AHeap) => q59.2.2)) (fun Y2 z59 m1 m2 => Frt_findDear_b59_J ok v0 v2 s.2.1 m1 m2 z59) (fun q59 => ?_) Lmax _
    exact Frt_findDear_j147_J ok v0 q59.1 v2 s.2.1 q59.2.1 q59.2.2 k1 kx153
def Frt_findDear_j153 (v0 : Nat) (v1 : Int32) (v2 : Int32) (v3 : Int32) (h : AHeap) : Option ((Int32 × Int32 × AHeap) ⊕ ((Int32 × Int32 × AHeap))) :=
  some (Sum.inl (v1, v2 + 1, h))
theorem Frt_findDear_j153_J {E : JE} {l : Launch} {G : GX} {r : Option Value} {h' : AHeap} (ok : JOK E l G kFrt_findDear 0 0 r h') (v0 : Nat) (v1 : Int32) (v2 : Int32) (v3 : Int32) (h : AHeap) {Y : (Int32 × Int32 × AHeap) ⊕ ((Int32 × Int32 × AHeap)) → Prop} (k1 : ∀ s' : Int32 × Int32 × AHeap, Y (.inl s') → JW E kFrt_findDear 38 [some (.ref v0), some (.int s'.1), some (.int s'.2.1), none, none, none] [] s'.2.2 0 0) (kx159 : ∀ q : Int32 × Int32 × AHeap, Y (.inr q) → JW E kFrt_findDear 159 [some (.ref v0), some (.int q.1), some (.int q.2.1), none, none, none] [] q.2.2 0 0) : J E kFrt_findDear (Frt_findDear_j153 v0 v1 v2 v3 h) Y 153 [some (.ref v0), some (.int v1), some (.int v2), some (.int v3), none, none] [] h 0 0 := by
  unfold Frt_findDear_j153
  refine J_iinc (v := v2 + 1) (ls' := [some (.ref v0), some (.int v1), some (.int (v2 + 1)), some (.int v3), none, none]) (pc' := 156) ok (dOf dX4_findDear 90 rfl) rfl rfl (by rfl) (Nat.le_of_ble_eq_true rfl) rfl rfl ?_
  refine J_goto (tgt := 38) ok (dOf dX4_findDear 91 rfl) (by decide) ?_
  refine J_weak (ls' := [some (.ref v0), some (.int v1), some (.int (v2 + 1)), none, none, none]) ⟨rfl, rfl, rfl, trivial⟩ ?_
  exact J_fin (k1 (v1, v2 + 1, h))
def Frt_findDear_b38 (v0 : Nat) (s : Int32 × Int32 × AHeap) : Option ((Int32 × Int32 × AHeap) ⊕ ((Int32 × Int32 × AHeap))) :=
  (if 4 ≤ s.2.1 then some (Sum.inr (s.1, s.2.1, s.2.2)) else (if s.1 = 0 then some (Sum.inr (s.1, s.2.1, s.2.2)) else (iter (Frt_findDear_b51 v0 s.2.1) Lmax (0, 0, s.2.2)).bind (fun (q51 : Int32 × Int32 × AHeap) => Frt_findDear_j153 v0 q51.1 s.2.1 q51.2.1 q51.2.2)))
theorem Frt_findDear_b38_J {E : JE} {l : Launch} {G : GX} {r : Option Value} {h' : AHeap} (ok : JOK E l G kFrt_findDear 0 0 r h') (v0 : Nat) {Y : (Int32 × Int32 × AHeap) ⊕ ((Int32 × Int32 × AHeap)) → Prop} (k1 : ∀ s' : Int32 × Int32 × AHeap, Y (.inl s') → JW E kFrt_findDear 38 [some (.ref v0), some (.int s'.1), some (.int s'.2.1), none, none, none] [] s'.2.2 0 0) (kx159 : ∀ q : Int32 × Int32 × AHeap, Y (.inr q) → JW E kFrt_findDear 159 [some (.ref v0), some (.int q.1), some (.int q.2.1), none, none, none] [] q.2.2 0 0) (s : Int32 × Int32 × AHeap) : J E kFrt_findDear (Frt_findDear_b38 v0 s) Y 38 [some (.ref v0), some (.int s.1), some (.int s.2.1), none, none, none] [] s.2.2 0 0 := by
  unfold Frt_findDear_b38
  refine J_iload_n (pc' := 39) ok (dOf dX4_findDear 23 rfl) rfl rfl rfl ?_
  refine J_iconst (v := 4) (pc' := 40) ok (dOf dX4_findDear 24 rfl) rfl (by decide) ?_
  refine J_icmp_ge (tgt := 159) (pc' := 43) ok (dOf dX4_findDear 25 rfl) rfl (by decide) ?_ ?_
  · exact J_fin (kx159 (s.1, s.2.1, s.2.2))
  · refine J_iload_n (pc' := 44) ok (dOf dX4_findDear 26 rfl) rfl rfl rfl ?_
    refine J_if_eq (tgt := 159) (pc' := 47) ok (dOf dX4_findDear 27 rfl) rfl (by decide) ?_ ?_
    · exact J_fin (kx159 (s.1, s.2.1, s.2.2))
    · refine J_iconst (v := 0) (pc' := 48) ok (dOf dX4_findDear 28 rfl) rfl (by decide) ?_
      refine J_istore_n (ls' := [some (.ref v0), some (.int 0), some (.int s.2.1), none, none, none]) (pc' := 49) ok (dOf dX4_findDear 29 rfl) rfl rfl (Nat.le_of_ble_eq_true rfl) rfl rfl ?_
      refine J_iconst (v := 0) (pc' := 50) ok (dOf dX4_findDear 30 rfl) rfl (by decide) ?_
      refine J_istore_n (ls' := [some (.ref v0), some (.int 0), some (.int s.2.1), some (.int 0), none, none]) (pc' := 51) ok (dOf dX4_findDear 31 rfl) rfl rfl (Nat.le_of_ble_eq_true rfl) rfl rfl ?_
      refine J_iter (lf := fun z51 => [some (.ref v0), some (.int z51.1), some (.int s.2.1), some (.int z51.2.1), none, none]) (sf := fun _ => []) (hf := fun z51 => z51.2.2) (px := (fun (q51 : Int32 × Int32 × AHeap) => 153)) (lx := (fun (q51 : Int32 × Int32 × AHeap) => [some (.ref v0), some (.int q51.1), some (.int s.2.1), some (.int q51.2.1), none, none])) (sx := (fun (q51 : Int32 × Int32 × AHeap) => [])) (hx := (fun (q51 : Int32 × Int32 × AHeap) => q51.2.2)) (fun Y2 z51 m1 m2 => Frt_findDear_b51_J ok v0 s.2.1 m1 m2 z51) (fun q51 => ?_) Lmax _
      exact Frt_findDear_j153_J ok v0 q51.1 s.2.1 q51.2.1 q51.2.2 k1 kx159
def Frt_findDear_j159 (v0 : Nat) (v1 : Int32) (v2 : Int32) (h : AHeap) : Option (Unit × AHeap) :=
  some ((), h)
theorem Frt_findDear_j159_J {E : JE} {l : Launch} {G : GX} {h' : AHeap} (ok : JOK E l G kFrt_findDear 0 0 none h') (v0 : Nat) (v1 : Int32) (v2 : Int32) (h : AHeap) : J E kFrt_findDear (Frt_findDear_j159 v0 v1 v2 h) (fun z => z = ((), h')) 159 [some (.ref v0), some (.int v1), some (.int v2), none, none, none] [] h 0 0 := by
  unfold Frt_findDear_j159
  exact J_vreturn ok (dOf dX4_findDear 92 rfl) rfl (Eq.refl 0) (Nat.le_refl 0)
def Frt_findDear_j34 (v0 : Nat) (v1 : Int32) (h : AHeap) : Option (Unit × AHeap) :=
  (iter (Frt_findDear_b38 v0) Lmax (1, 0, h)).bind (fun (q38 : Int32 × Int32 × AHeap) => Frt_findDear_j159 v0 q38.1 q38.2.1 q38.2.2)
theorem Frt_findDear_j34_J {E : JE} {l : Launch} {G : GX} {h' : AHeap} (ok : JOK E l G kFrt_findDear 0 0 none h') (v0 : Nat) (v1 : Int32) (h : AHeap) : J E kFrt_findDear (Frt_findDear_j34 v0 v1 h) (fun z => z = ((), h')) 34 [some (.ref v0), some (.int v1), none, none, none, none] [] h 0 0 := by
  unfold Frt_findDear_j34
  refine J_iconst (v := 1) (pc' := 35) ok (dOf dX4_findDear 19 rfl) rfl (by decide) ?_
  refine J_istore_n (ls' := [some (.ref v0), some (.int 1), none, none, none, none]) (pc' := 36) ok (dOf dX4_findDear 20 rfl) rfl rfl (Nat.le_of_ble_eq_true rfl) rfl rfl ?_
  refine J_iconst (v := 0) (pc' := 37) ok (dOf dX4_findDear 21 rfl) rfl (by decide) ?_
  refine J_istore_n (ls' := [some (.ref v0), some (.int 1), some (.int 0), none, none, none]) (pc' := 38) ok (dOf dX4_findDear 22 rfl) rfl rfl (Nat.le_of_ble_eq_true rfl) rfl rfl ?_
  refine J_iter (lf := fun z38 => [some (.ref v0), some (.int z38.1), some (.int z38.2.1), none, none, none]) (sf := fun _ => []) (hf := fun z38 => z38.2.2) (px := (fun (q38 : Int32 × Int32 × AHeap) => 159)) (lx := (fun (q38 : Int32 × Int32 × AHeap) => [some (.ref v0), some (.int q38.1), some (.int q38.2.1), none, none, none])) (sx := (fun (q38 : Int32 × Int32 × AHeap) => [])) (hx := (fun (q38 : Int32 × Int32 × AHeap) => q38.2.2)) (fun Y2 z38 m1 m2 => Frt_findDear_b38_J ok v0 m1 m2 z38) (fun q38 => ?_) Lmax _
  exact Frt_findDear_j159_J ok v0 q38.1 q38.2.1 q38.2.2
def Frt_findDear (v0 : Nat) (h : AHeap) : Option (Unit × AHeap) :=
  (iter (Frt_findDear_b2 v0) Lmax (0, h)).bind (fun (q2 : Int32 × AHeap) => Frt_findDear_j34 v0 q2.1 q2.2)
theorem t_Frt_findDear {l : Launch} {G : GX} {v0 : Nat} {h : AHeap} {h1 : AHeap} (hf : Frt_findDear v0 h = some ((), h1)) : CT l G kFrt_findDear 0 0 [.ref v0] h none h1 := by
  refine CT_of (ls := [some (.ref v0), none, none, none, none, none]) (Z := fun z => z = ((), h1)) (by decide +kernel) (Nat.le_of_ble_eq_true rfl) hf rfl ⟨rfl, trivial⟩ (fun E ok => ?_)
  unfold Frt_findDear
  refine J_iconst (v := 0) (pc' := 1) ok (dOf dX4_findDear 0 rfl) rfl (by decide) ?_
  refine J_istore_n (ls' := [some (.ref v0), some (.int 0), none, none, none, none]) (pc' := 2) ok (dOf dX4_findDear 1 rfl) rfl rfl (Nat.le_of_ble_eq_true rfl) rfl rfl ?_
  refine J_iter (lf := fun z2 => [some (.ref v0), some (.int z2.1), none, none, none, none]) (sf := fun _ => []) (hf := fun z2 => z2.2) (px := (fun (q2 : Int32 × AHeap) => 34)) (lx := (fun (q2 : Int32 × AHeap) => [some (.ref v0), some (.int q2.1), none, none, none, none])) (sx := (fun (q2 : Int32 × AHeap) => [])) (hx := (fun (q2 : Int32 × AHeap) => q2.2)) (fun Y2 z2 m1 m2 => Frt_findDear_b2_J ok v0 m1 m2 z2) (fun q2 => ?_) Lmax _
  exact Frt_findDear_j34_J ok v0 q2.1 q2.2
-- X4_chooseGiver
abbrev kFrt_chooseGiver : Cd := (yX4_chooseGiver, cX4_chooseGiver, 4, (some .int), 2, 50)
theorem dX4_chooseGiver : dcheck cX4_chooseGiver [(0, .aload_n 0, 1), (1, .getfield 40, 3), (4, .iconst (-1), 1), (5, .invokestatic 87, 3), (8, .aload_n 0, 1), (9, .getfield 37, 3), (12, .iconst 0, 1), (13, .invokestatic 87, 3), (16, .aload_n 0, 1), (17, .aload_n 1, 1), (18, .iload_n 2, 1), (19, .invokevirtual 104, 3), (22, .istore_n 3, 1), (23, .iload_n 3, 1), (24, .iconst (-1), 1), (25, .if_icmp .eq 12, 3), (28, .aload_n 0, 1), (29, .getfield 25, 3), (32, .iload_n 3, 1), (33, .iaload, 1), (34, .ifCond .le 5, 3), (37, .iload_n 3, 1), (38, .ireturn, 1), (39, .aload_n 0, 1), (40, .aload_n 1, 1), (41, .invokevirtual 107, 3), (44, .aload_n 0, 1), (45, .invokevirtual 111, 3), (48, .aload_n 0, 1), (49, .aload_n 1, 1), (50, .iload_n 2, 1), (51, .invokevirtual 104, 3), (54, .ireturn, 1)] = true := by decide +kernel
theorem cw_Frt_chooseGiver {k : Cd} (h1 : kFrt_chooseGiver.2.2.2.2.1 + 1 ≤ k.2.2.2.2.1) (h2 : 8 + (kFrt_chooseGiver.2.2.1 + 11) + kFrt_chooseGiver.2.2.2.2.2 ≤ k.2.2.2.2.2) : Cw k kFrt_chooseGiver 2 := ⟨wcode_X4_chooseGiver, wini_SplitProgram_Freight, ⟨by decide, by decide, by decide +kernel⟩, h1, h2⟩
def Frt_chooseGiver_j37 (v0 : Nat) (v1 : Nat) (v2 : Int32) (v3 : Int32) (h : AHeap) : Option (Int32 × AHeap) :=
  some (v3, h)
theorem Frt_chooseGiver_j37_J {E : JE} {l : Launch} {G : GX} {v : Int32} {h' : AHeap} (ok : JOK E l G kFrt_chooseGiver 0 0 (some (.int v)) h') (v0 : Nat) (v1 : Nat) (v2 : Int32) (v3 : Int32) (h : AHeap) : J E kFrt_chooseGiver (Frt_chooseGiver_j37 v0 v1 v2 v3 h) (fun z => z = (v, h')) 37 [some (.ref v0), some (.ref v1), some (.int v2), some (.int v3)] [] h 0 0 := by
  unfold Frt_chooseGiver_j37
  refine J_iload_n (pc' := 38) ok (dOf dX4_chooseGiver 21 rfl) rfl rfl rfl ?_
  exact J_ireturn ok (dOf dX4_chooseGiver 22 rfl) rfl (Eq.refl 0) (Nat.le_refl 0)
def Frt_chooseGiver (v0 : Nat) (v1 : Nat) (v2 : Int32) (h : AHeap) : Option (Int32 × AHeap) :=
  (gfR h v0 4 9).bind fun a1 => bnd2 (J7_fill a1 (-1) h) fun _ h2 => (gfR h2 v0 4 8).bind fun a3 => bnd2 (J7_fill a3 0 h2) fun _ h4 => (chk h4 v0 4).bind fun _ => bnd2 (Frt_cheapestFor v0 v1 v2 h4) fun x6 h5 => (if x6 = (-1) then Frt_chooseGiver_j37 v0 v1 v2 x6 h5 else (gfR h5 v0 4 4).bind fun a7 => (ald 0 h5 a7 x6).bind fun x8 => (if x8 ≤ 0 then (chk h5 v0 4).bind fun _ => bnd2 (Frt_findSwaps v0 v1 h5) fun _ h9 => (chk h9 v0 4).bind fun _ => bnd2 (Frt_findDear v0 h9) fun _ h10 => (chk h10 v0 4).bind fun _ => bnd2 (Frt_cheapestFor v0 v1 v2 h10) fun x12 h11 => some (x12, h11) else Frt_chooseGiver_j37 v0 v1 v2 x6 h5))
theorem t_Frt_chooseGiver {l : Launch} {G : GX} {v0 : Nat} {v1 : Nat} {v2 : Int32} {h : AHeap} {v : Int32} {h1 : AHeap} (hf : Frt_chooseGiver v0 v1 v2 h = some (v, h1)) : CT l G kFrt_chooseGiver 0 0 [.ref v0, .ref v1, .int v2] h (some (.int v)) h1 := by
  refine CT_of (ls := [some (.ref v0), some (.ref v1), some (.int v2), none]) (Z := fun z => z = (v, h1)) (by decide +kernel) (Nat.le_of_ble_eq_true rfl) hf rfl ⟨rfl, rfl, rfl, trivial⟩ (fun E ok => ?_)
  unfold Frt_chooseGiver
  refine J_aload_n (pc' := 1) ok (dOf dX4_chooseGiver 0 rfl) rfl rfl rfl ?_
  refine J_getR (ci := 4) (kf := 9) (C := RX4) (T := TX4) (N := 12) (pc' := 4) ok (dOf dX4_chooseGiver 1 rfl) rfl (by decide) rfl (by decide) win_4 wfl_X4_40 (fun a1 => ?_)
  refine J_iconst (v := (-1)) (pc' := 5) ok (dOf dX4_chooseGiver 2 rfl) rfl (by decide) ?_
  refine J_callSv (k2 := kJ7_fill) (as := [.ref a1, .int (-1)]) (pc' := 8) ok (dOf dX4_chooseGiver 3 rfl) rfl (cw_J7_fill (by decide) (by decide)) wml_X4_87 wstat_J7_fill_53178 ⟨Nat.le_refl 0, Nat.le_refl 0⟩ (Nat.le_of_ble_eq_true rfl) rfl (fun _ _ hf => t_J7_fill hf) (fun _ h2 => ?_)
  refine J_aload_n (pc' := 9) ok (dOf dX4_chooseGiver 4 rfl) rfl rfl rfl ?_
  refine J_getR (ci := 4) (kf := 8) (C := RX4) (T := TX4) (N := 12) (pc' := 12) ok (dOf dX4_chooseGiver 5 rfl) rfl (by decide) rfl (by decide) win_4 wfl_X4_37 (fun a3 => ?_)
  refine J_iconst (v := 0) (pc' := 13) ok (dOf dX4_chooseGiver 6 rfl) rfl (by decide) ?_
  refine J_callSv (k2 := kJ7_fill) (as := [.ref a3, .int 0]) (pc' := 16) ok (dOf dX4_chooseGiver 7 rfl) rfl (cw_J7_fill (by decide) (by decide)) wml_X4_87 wstat_J7_fill_53178 ⟨Nat.le_refl 0, Nat.le_refl 0⟩ (Nat.le_of_ble_eq_true rfl) rfl (fun _ _ hf => t_J7_fill hf) (fun _ h4 => ?_)
  refine J_aload_n (pc' := 17) ok (dOf dX4_chooseGiver 8 rfl) rfl rfl rfl ?_
  refine J_aload_n (pc' := 18) ok (dOf dX4_chooseGiver 9 rfl) rfl rfl rfl ?_
  refine J_iload_n (pc' := 19) ok (dOf dX4_chooseGiver 10 rfl) rfl rfl rfl ?_
  refine J_callVi (k2 := kFrt_cheapestFor) (ci := 4) (T := TX4) (N := 12) (as := [.ref v1, .int v2]) (pc' := 22) ok (dOf dX4_chooseGiver 11 rfl) rfl (cw_Frt_cheapestFor (by decide) (by decide)) wml_X4_104 winst_X4_cheapestFor wsel_X4_cheapestFor rfl ⟨Nat.le_refl 0, Nat.le_refl 0⟩ (Nat.le_of_ble_eq_true rfl) rfl (fun _ _ hf => t_Frt_cheapestFor hf) (fun x6 h5 => ?_)
  refine J_istore_n (ls' := [some (.ref v0), some (.ref v1), some (.int v2), some (.int x6)]) (pc' := 23) ok (dOf dX4_chooseGiver 12 rfl) rfl rfl (Nat.le_of_ble_eq_true rfl) rfl rfl ?_
  refine J_iload_n (pc' := 24) ok (dOf dX4_chooseGiver 13 rfl) rfl rfl rfl ?_
  refine J_iconst (v := (-1)) (pc' := 25) ok (dOf dX4_chooseGiver 14 rfl) rfl (by decide) ?_
  refine J_icmp_eq (tgt := 37) (pc' := 28) ok (dOf dX4_chooseGiver 15 rfl) rfl (by decide) ?_ ?_
  · exact Frt_chooseGiver_j37_J ok v0 v1 v2 x6 h5
  · refine J_aload_n (pc' := 29) ok (dOf dX4_chooseGiver 16 rfl) rfl rfl rfl ?_
    refine J_getR (ci := 4) (kf := 4) (C := RX4) (T := TX4) (N := 12) (pc' := 32) ok (dOf dX4_chooseGiver 17 rfl) rfl (by decide) rfl (by decide) win_4 wfl_X4_25 (fun a7 => ?_)
    refine J_iload_n (pc' := 33) ok (dOf dX4_chooseGiver 18 rfl) rfl rfl rfl ?_
    refine J_iald (pc' := 34) ok (dOf dX4_chooseGiver 19 rfl) rfl (fun x8 => ?_)
    refine J_if_le (tgt := 39) (pc' := 37) ok (dOf dX4_chooseGiver 20 rfl) rfl (by decide) ?_ ?_
    · refine J_aload_n (pc' := 40) ok (dOf dX4_chooseGiver 23 rfl) rfl rfl rfl ?_
      refine J_aload_n (pc' := 41) ok (dOf dX4_chooseGiver 24 rfl) rfl rfl rfl ?_
      refine J_callVv (k2 := kFrt_findSwaps) (ci := 4) (T := TX4) (N := 12) (as := [.ref v1]) (pc' := 44) ok (dOf dX4_chooseGiver 25 rfl) rfl (cw_Frt_findSwaps (by decide) (by decide)) wml_X4_107 winst_X4_findSwaps wsel_X4_findSwaps rfl ⟨Nat.le_refl 0, Nat.le_refl 0⟩ (Nat.le_of_ble_eq_true rfl) rfl (fun _ _ hf => t_Frt_findSwaps hf) (fun _ h9 => ?_)
      refine J_aload_n (pc' := 45) ok (dOf dX4_chooseGiver 26 rfl) rfl rfl rfl ?_
      refine J_callVv (k2 := kFrt_findDear) (ci := 4) (T := TX4) (N := 12) (as := []) (pc' := 48) ok (dOf dX4_chooseGiver 27 rfl) rfl (cw_Frt_findDear (by decide) (by decide)) wml_X4_111 winst_X4_findDear wsel_X4_findDear rfl ⟨Nat.le_refl 0, Nat.le_refl 0⟩ (Nat.le_of_ble_eq_true rfl) rfl (fun _ _ hf => t_Frt_findDear hf) (fun _ h10 => ?_)
      refine J_aload_n (pc' := 49) ok (dOf dX4_chooseGiver 28 rfl) rfl rfl rfl ?_
      refine J_aload_n (pc' := 50) ok (dOf dX4_chooseGiver 29 rfl) rfl rfl rfl ?_
      refine J_iload_n (pc' := 51) ok (dOf dX4_chooseGiver 30 rfl) rfl rfl rfl ?_
      refine J_callVi (k2 := kFrt_cheapestFor) (ci := 4) (T := TX4) (N := 12) (as := [.ref v1, .int v2]) (pc' := 54) ok (dOf dX4_chooseGiver 31 rfl) rfl (cw_Frt_cheapestFor (by decide) (by decide)) wml_X4_104 winst_X4_cheapestFor wsel_X4_cheapestFor rfl ⟨Nat.le_refl 0, Nat.le_refl 0⟩ (Nat.le_of_ble_eq_true rfl) rfl (fun _ _ hf => t_Frt_cheapestFor hf) (fun x12 h11 => ?_)
      exact J_ireturn ok (dOf dX4_chooseGiver 32 rfl) rfl (Eq.refl 0) (Nat.le_refl 0)
    · exact Frt_chooseGiver_j37_J ok v0 v1 v2 x6 h5
-- X4_bring
abbrev kFrt_bring : Cd := (yX4_bring, cX4_bring, 9, (some .int), 1, 21)
theorem dX4_bring : dcheck cX4_bring [(0, .iload_n 3, 1), (1, .istore 4, 2), (3, .iload_n 1, 1), (4, .istore 5, 2), (6, .iconst 0, 1), (7, .istore 6, 2), (9, .iload 6, 2), (11, .iconst 4, 1), (12, .if_icmp .ge 63, 3), (15, .aload_n 0, 1), (16, .getfield 40, 3), (19, .iload 5, 2), (21, .iaload, 1), (22, .iconst (-1), 1), (23, .if_icmp .eq 52, 3), (26, .aload_n 0, 1), (27, .getfield 40, 3), (30, .iload 5, 2), (32, .iaload, 1), (33, .istore 7, 2), (35, .iload 4, 2), (37, .aload_n 0, 1), (38, .getfield 28, 3), (41, .iload 5, 2), (43, .bipush 6, 2), (45, .imul, 1), (46, .aload_n 0, 1), (47, .getfield 34, 3), (50, .iload 7, 2), (52, .iconst 4, 1), (53, .imul, 1), (54, .iload 5, 2), (56, .iadd, 1), (57, .iaload, 1), (58, .iadd, 1), (59, .iaload, 1), (60, .invokestatic 118, 3), (63, .istore 4, 2), (65, .iload 7, 2), (67, .istore 5, 2), (69, .iinc 6 1, 3), (72, .goto (-63), 3), (75, .iload 4, 2), (77, .aload_n 0, 1), (78, .getfield 25, 3), (81, .iload 5, 2), (83, .iaload, 1), (84, .invokestatic 118, 3), (87, .istore 4, 2), (89, .aload_n 0, 1), (90, .getfield 25, 3), (93, .iload 5, 2), (95, .dup2, 1), (96, .iaload, 1), (97, .iload 4, 2), (99, .isub, 1), (100, .iastore, 1), (101, .iload_n 1, 1), (102, .istore 5, 2), (104, .iconst 0, 1), (105, .istore 6, 2), (107, .iload 6, 2), (109, .iconst 4, 1), (110, .if_icmp .ge 83, 3), (113, .aload_n 0, 1), (114, .getfield 40, 3), (117, .iload 5, 2), (119, .iaload, 1), (120, .iconst (-1), 1), (121, .if_icmp .eq 72, 3), (124, .aload_n 0, 1), (125, .getfield 40, 3), (128, .iload 5, 2), (130, .iaload, 1), (131, .istore 7, 2), (133, .aload_n 0, 1), (134, .getfield 34, 3), (137, .iload 7, 2), (139, .iconst 4, 1), (140, .imul, 1), (141, .iload 5, 2), (143, .iadd, 1), (144, .iaload, 1), (145, .istore 8, 2), (147, .aload_n 0, 1), (148, .getfield 28, 3), (151, .iload 5, 2), (153, .bipush 6, 2), (155, .imul, 1), (156, .iload 8, 2), (158, .iadd, 1), (159, .dup2, 1), (160, .iaload, 1), (161, .iload 4, 2), (163, .isub, 1), (164, .iastore, 1), (165, .aload_n 0, 1), (166, .getfield 28, 3), (169, .iload 7, 2), (171, .bipush 6, 2), (173, .imul, 1), (174, .iload 8, 2), (176, .iadd, 1), (177, .dup2, 1), (178, .iaload, 1), (179, .iload 4, 2), (181, .iadd, 1), (182, .iastore, 1), (183, .iload 7, 2), (185, .istore 5, 2), (187, .iinc 6 1, 3), (190, .goto (-83), 3), (193, .aload_n 0, 1), (194, .getfield 28, 3), (197, .iload_n 1, 1), (198, .bipush 6, 2), (200, .imul, 1), (201, .iload_n 2, 1), (202, .iadd, 1), (203, .dup2, 1), (204, .iaload, 1), (205, .iload 4, 2), (207, .iadd, 1), (208, .iastore, 1), (209, .iload 4, 2), (211, .ireturn, 1)] = true := by decide +kernel
theorem cw_Frt_bring {k : Cd} (h1 : kFrt_bring.2.2.2.2.1 + 1 ≤ k.2.2.2.2.1) (h2 : 8 + (kFrt_bring.2.2.1 + 11) + kFrt_bring.2.2.2.2.2 ≤ k.2.2.2.2.2) : Cw k kFrt_bring 3 := ⟨wcode_X4_bring, wini_SplitProgram_Freight, ⟨by decide, by decide, by decide +kernel⟩, h1, h2⟩
def Frt_bring_b9 (v0 : Nat) (v1 : Int32) (v2 : Int32) (v3 : Int32) (h : AHeap) (s : Int32 × Int32 × Int32) : Option ((Int32 × Int32 × Int32) ⊕ ((Int32 × Int32 × Int32))) :=
  (if 4 ≤ s.2.2 then some (Sum.inr (s.1, s.2.1, s.2.2)) else (gfR h v0 4 9).bind fun a1 => (ald 0 h a1 s.2.1).bind fun x2 => (if x2 = (-1) then some (Sum.inr (s.1, s.2.1, s.2.2)) else (gfR h v0 4 9).bind fun a3 => (ald 0 h a3 s.2.1).bind fun x4 => (gfR h v0 4 5).bind fun a5 => (gfR h v0 4 7).bind fun a6 => (ald 0 h a6 ((x4 * 4) + s.2.1)).bind fun x7 => (ald 0 h a5 ((s.2.1 * 6) + x7)).bind fun x8 => some (Sum.inl ((if x8 < s.1 then x8 else s.1), x4, s.2.2 + 1))))
theorem Frt_bring_b9_J {E : JE} {l : Launch} {G : GX} {r : Option Value} {h' : AHeap} (ok : JOK E l G kFrt_bring 0 0 r h') (v0 : Nat) (v1 : Int32) (v2 : Int32) (v3 : Int32) (h : AHeap) {Y : (Int32 × Int32 × Int32) ⊕ ((Int32 × Int32 × Int32)) → Prop} (k1 : ∀ s' : Int32 × Int32 × Int32, Y (.inl s') → JW E kFrt_bring 9 [some (.ref v0), some (.int v1), some (.int v2), some (.int v3), some (.int s'.1), some (.int s'.2.1), some (.int s'.2.2), none, none] [] h 0 0) (kx75 : ∀ q : Int32 × Int32 × Int32, Y (.inr q) → JW E kFrt_bring 75 [some (.ref v0), some (.int v1), some (.int v2), some (.int v3), some (.int q.1), some (.int q.2.1), some (.int q.2.2), none, none] [] h 0 0) (s : Int32 × Int32 × Int32) : J E kFrt_bring (Frt_bring_b9 v0 v1 v2 v3 h s) Y 9 [some (.ref v0), some (.int v1), some (.int v2), some (.int v3), some (.int s.1), some (.int s.2.1), some (.int s.2.2), none, none] [] h 0 0 := by
  unfold Frt_bring_b9
  refine J_iload (pc' := 11) ok (dOf dX4_bring 6 rfl) rfl rfl ?_
  refine J_iconst (v := 4) (pc' := 12) ok (dOf dX4_bring 7 rfl) rfl (by decide) ?_
  refine J_icmp_ge (tgt := 75) (pc' := 15) ok (dOf dX4_bring 8 rfl) rfl (by decide) ?_ ?_
  · exact J_fin (kx75 (s.1, s.2.1, s.2.2))
  · refine J_aload_n (pc' := 16) ok (dOf dX4_bring 9 rfl) rfl rfl rfl ?_
    refine J_getR (ci := 4) (kf := 9) (C := RX4) (T := TX4) (N := 12) (pc' := 19) ok (dOf dX4_bring 10 rfl) rfl (by decide) rfl (by decide) win_4 wfl_X4_40 (fun a1 => ?_)
    refine J_iload (pc' := 21) ok (dOf dX4_bring 11 rfl) rfl rfl ?_
    refine J_iald (pc' := 22) ok (dOf dX4_bring 12 rfl) rfl (fun x2 => ?_)
    refine J_iconst (v := (-1)) (pc' := 23) ok (dOf dX4_bring 13 rfl) rfl (by decide) ?_
    refine J_icmp_eq (tgt := 75) (pc' := 26) ok (dOf dX4_bring 14 rfl) rfl (by decide) ?_ ?_
    · exact J_fin (kx75 (s.1, s.2.1, s.2.2))
    · refine J_aload_n (pc' := 27) ok (dOf dX4_bring 15 rfl) rfl rfl rfl ?_
      refine J_getR (ci := 4) (kf := 9) (C := RX4) (T := TX4) (N := 12) (pc' := 30) ok (dOf dX4_bring 16 rfl) rfl (by decide) rfl (by decide) win_4 wfl_X4_40 (fun a3 => ?_)
      refine J_iload (pc' := 32) ok (dOf dX4_bring 17 rfl) rfl rfl ?_
      refine J_iald (pc' := 33) ok (dOf dX4_bring 18 rfl) rfl (fun x4 => ?_)
      refine J_istore (ls' := [some (.ref v0), some (.int v1), some (.int v2), some (.int v3), some (.int s.1), some (.int s.2.1), some (.int s.2.2), some (.int x4), none]) (pc' := 35) ok (dOf dX4_bring 19 rfl) rfl (Nat.le_of_ble_eq_true rfl) rfl rfl ?_
      refine J_iload (pc' := 37) ok (dOf dX4_bring 20 rfl) rfl rfl ?_
      refine J_aload_n (pc' := 38) ok (dOf dX4_bring 21 rfl) rfl rfl rfl ?_
      refine J_getR (ci := 4) (kf := 5) (C := RX4) (T := TX4) (N := 12) (pc' := 41) ok (dOf dX4_bring 22 rfl) rfl (by decide) rfl (by decide) win_4 wfl_X4_28 (fun a5 => ?_)
      refine J_iload (pc' := 43) ok (dOf dX4_bring 23 rfl) rfl rfl ?_
      refine J_bipush (v := 6) (pc' := 45) ok (dOf dX4_bring 24 rfl) rfl (by decide) ?_
      refine J_imul (pc' := 46) ok (dOf dX4_bring 25 rfl) rfl ?_
      refine J_aload_n (pc' := 47) ok (dOf dX4_bring 26 rfl) rfl rfl rfl ?_
      refine J_getR (ci := 4) (kf := 7) (C := RX4) (T := TX4) (N := 12) (pc' := 50) ok (dOf dX4_bring 27 rfl) rfl (by decide) rfl (by decide) win_4 wfl_X4_34 (fun a6 => ?_)
      refine J_iload (pc' := 52) ok (dOf dX4_bring 28 rfl) rfl rfl ?_
      refine J_iconst (v := 4) (pc' := 53) ok (dOf dX4_bring 29 rfl) rfl (by decide) ?_
      refine J_imul (pc' := 54) ok (dOf dX4_bring 30 rfl) rfl ?_
      refine J_iload (pc' := 56) ok (dOf dX4_bring 31 rfl) rfl rfl ?_
      refine J_iadd (pc' := 57) ok (dOf dX4_bring 32 rfl) rfl ?_
      refine J_iald (pc' := 58) ok (dOf dX4_bring 33 rfl) rfl (fun x7 => ?_)
      refine J_iadd (pc' := 59) ok (dOf dX4_bring 34 rfl) rfl ?_
      refine J_iald (pc' := 60) ok (dOf dX4_bring 35 rfl) rfl (fun x8 => ?_)
      refine J_mmin (pc' := 63) ok (dOf dX4_bring 36 rfl) rfl wml_X4_118 wstat_J9_min_7cf53 wini_java_lang_Math wcode_J9_min_7cf53 (Nat.le_of_ble_eq_true rfl) (Nat.le_of_ble_eq_true rfl) (Nat.le_refl 0) (Nat.le_refl 0) ?_
      refine J_istore (ls' := [some (.ref v0), some (.int v1), some (.int v2), some (.int v3), some (.int (if x8 < s.1 then x8 else s.1)), some (.int s.2.1), some (.int s.2.2), some (.int x4), none]) (pc' := 65) ok (dOf dX4_bring 37 rfl) rfl (Nat.le_of_ble_eq_true rfl) rfl rfl ?_
      refine J_iload (pc' := 67) ok (dOf dX4_bring 38 rfl) rfl rfl ?_
      refine J_istore (ls' := [some (.ref v0), some (.int v1), some (.int v2), some (.int v3), some (.int (if x8 < s.1 then x8 else s.1)), some (.int x4), some (.int s.2.2), some (.int x4), none]) (pc' := 69) ok (dOf dX4_bring 39 rfl) rfl (Nat.le_of_ble_eq_true rfl) rfl rfl ?_
      refine J_iinc (v := s.2.2 + 1) (ls' := [some (.ref v0), some (.int v1), some (.int v2), some (.int v3), some (.int (if x8 < s.1 then x8 else s.1)), some (.int x4), some (.int (s.2.2 + 1)), some (.int x4), none]) (pc' := 72) ok (dOf dX4_bring 40 rfl) rfl rfl (by rfl) (Nat.le_of_ble_eq_true rfl) rfl rfl ?_
      refine J_goto (tgt := 9) ok (dOf dX4_bring 41 rfl) (by decide) ?_
      refine J_weak (ls' := [some (.ref v0), some (.int v1), some (.int v2), some (.int v3), some (.int (if x8 < s.1 then x8 else s.1)), some (.int x4), some (.int (s.2.2 + 1)), none, none]) ⟨rfl, rfl, rfl, rfl, rfl, rfl, rfl, trivial⟩ ?_
      exact J_fin (k1 ((if x8 < s.1 then x8 else s.1), x4, s.2.2 + 1))
def Frt_bring_b107 (v0 : Nat) (v1 : Int32) (v2 : Int32) (v3 : Int32) (v4 : Int32) (s : Int32 × Int32 × AHeap) : Option ((Int32 × Int32 × AHeap) ⊕ ((Int32 × Int32 × AHeap))) :=
  (if 4 ≤ s.2.1 then some (Sum.inr (s.1, s.2.1, s.2.2)) else (gfR s.2.2 v0 4 9).bind fun a14 => (ald 0 s.2.2 a14 s.1).bind fun x15 => (if x15 = (-1) then some (Sum.inr (s.1, s.2.1, s.2.2)) else (gfR s.2.2 v0 4 9).bind fun a16 => (ald 0 s.2.2 a16 s.1).bind fun x17 => (gfR s.2.2 v0 4 7).bind fun a18 => (ald 0 s.2.2 a18 ((x17 * 4) + s.1)).bind fun x19 => (gfR s.2.2 v0 4 5).bind fun a20 => (ald 0 s.2.2 a20 ((s.1 * 6) + x19)).bind fun x21 => (ast 0 s.2.2 a20 ((s.1 * 6) + x19) (x21 - v4)).bind fun h22 => (gfR h22 v0 4 5).bind fun a23 => (ald 0 h22 a23 ((x17 * 6) + x19)).bind fun x24 => (ast 0 h22 a23 ((x17 * 6) + x19) (x24 + v4)).bind fun h25 => some (Sum.inl (x17, s.2.1 + 1, h25))))
theorem Frt_bring_b107_J {E : JE} {l : Launch} {G : GX} {r : Option Value} {h' : AHeap} (ok : JOK E l G kFrt_bring 0 0 r h') (v0 : Nat) (v1 : Int32) (v2 : Int32) (v3 : Int32) (v4 : Int32) {Y : (Int32 × Int32 × AHeap) ⊕ ((Int32 × Int32 × AHeap)) → Prop} (k1 : ∀ s' : Int32 × Int32 × AHeap, Y (.inl s') → JW E kFrt_bring 107 [some (.ref v0), some (.int v1), some (.int v2), some (.int v3), some (.int v4), some (.int s'.1), some (.int s'.2.1), none, none] [] s'.2.2 0 0) (kx193 : ∀ q : Int32 × Int32 × AHeap, Y (.inr q) → JW E kFrt_bring 193 [some (.ref v0), some (.int v1), some (.int v2), some (.int v3), some (.int v4), some (.int q.1), some (.int q.2.1), none, none] [] q.2.2 0 0) (s : Int32 × Int32 × AHeap) : J E kFrt_bring (Frt_bring_b107 v0 v1 v2 v3 v4 s) Y 107 [some (.ref v0), some (.int v1), some (.int v2), some (.int v3), some (.int v4), some (.int s.1), some (.int s.2.1), none, none] [] s.2.2 0 0 := by
  unfold Frt_bring_b107
  refine J_iload (pc' := 109) ok (dOf dX4_bring 61 rfl) rfl rfl ?_
  refine J_iconst (v := 4) (pc' := 110) ok (dOf dX4_bring 62 rfl) rfl (by decide) ?_
  refine J_icmp_ge (tgt := 193) (pc' := 113) ok (dOf dX4_bring 63 rfl) rfl (by decide) ?_ ?_
  · exact J_fin (kx193 (s.1, s.2.1, s.2.2))
  · refine J_aload_n (pc' := 114) ok (dOf dX4_bring 64 rfl) rfl rfl rfl ?_
    refine J_getR (ci := 4) (kf := 9) (C := RX4) (T := TX4) (N := 12) (pc' := 117) ok (dOf dX4_bring 65 rfl) rfl (by decide) rfl (by decide) win_4 wfl_X4_40 (fun a14 => ?_)
    refine J_iload (pc' := 119) ok (dOf dX4_bring 66 rfl) rfl rfl ?_
    refine J_iald (pc' := 120) ok (dOf dX4_bring 67 rfl) rfl (fun x15 => ?_)
    refine J_iconst (v := (-1)) (pc' := 121) ok (dOf dX4_bring 68 rfl) rfl (by decide) ?_
    refine J_icmp_eq (tgt := 193) (pc' := 124) ok (dOf dX4_bring 69 rfl) rfl (by decide) ?_ ?_
    · exact J_fin (kx193 (s.1, s.2.1, s.2.2))
    · refine J_aload_n (pc' := 125) ok (dOf dX4_bring 70 rfl) rfl rfl rfl ?_
      refine J_getR (ci := 4) (kf := 9) (C := RX4) (T := TX4) (N := 12) (pc' := 128) ok (dOf dX4_bring 71 rfl) rfl (by decide) rfl (by decide) win_4 wfl_X4_40 (fun a16 => ?_)
      refine J_iload (pc' := 130) ok (dOf dX4_bring 72 rfl) rfl rfl ?_
      refine J_iald (pc' := 131) ok (dOf dX4_bring 73 rfl) rfl (fun x17 => ?_)
      refine J_istore (ls' := [some (.ref v0), some (.int v1), some (.int v2), some (.int v3), some (.int v4), some (.int s.1), some (.int s.2.1), some (.int x17), none]) (pc' := 133) ok (dOf dX4_bring 74 rfl) rfl (Nat.le_of_ble_eq_true rfl) rfl rfl ?_
      refine J_aload_n (pc' := 134) ok (dOf dX4_bring 75 rfl) rfl rfl rfl ?_
      refine J_getR (ci := 4) (kf := 7) (C := RX4) (T := TX4) (N := 12) (pc' := 137) ok (dOf dX4_bring 76 rfl) rfl (by decide) rfl (by decide) win_4 wfl_X4_34 (fun a18 => ?_)
      refine J_iload (pc' := 139) ok (dOf dX4_bring 77 rfl) rfl rfl ?_
      refine J_iconst (v := 4) (pc' := 140) ok (dOf dX4_bring 78 rfl) rfl (by decide) ?_
      refine J_imul (pc' := 141) ok (dOf dX4_bring 79 rfl) rfl ?_
      refine J_iload (pc' := 143) ok (dOf dX4_bring 80 rfl) rfl rfl ?_
      refine J_iadd (pc' := 144) ok (dOf dX4_bring 81 rfl) rfl ?_
      refine J_iald (pc' := 145) ok (dOf dX4_bring 82 rfl) rfl (fun x19 => ?_)
      refine J_istore (ls' := [some (.ref v0), some (.int v1), some (.int v2), some (.int v3), some (.int v4), some (.int s.1), some (.int s.2.1), some (.int x17), some (.int x19)]) (pc' := 147) ok (dOf dX4_bring 83 rfl) rfl (Nat.le_of_ble_eq_true rfl) rfl rfl ?_
      refine J_aload_n (pc' := 148) ok (dOf dX4_bring 84 rfl) rfl rfl rfl ?_
      refine J_getR (ci := 4) (kf := 5) (C := RX4) (T := TX4) (N := 12) (pc' := 151) ok (dOf dX4_bring 85 rfl) rfl (by decide) rfl (by decide) win_4 wfl_X4_28 (fun a20 => ?_)
      refine J_iload (pc' := 153) ok (dOf dX4_bring 86 rfl) rfl rfl ?_
      refine J_bipush (v := 6) (pc' := 155) ok (dOf dX4_bring 87 rfl) rfl (by decide) ?_
      refine J_imul (pc' := 156) ok (dOf dX4_bring 88 rfl) rfl ?_
      refine J_iload (pc' := 158) ok (dOf dX4_bring 89 rfl) rfl rfl ?_
      refine J_iadd (pc' := 159) ok (dOf dX4_bring 90 rfl) rfl ?_
      refine J_dup2 (pc' := 160) ok (dOf dX4_bring 91 rfl) rfl rfl rfl ?_
      refine J_iald (pc' := 161) ok (dOf dX4_bring 92 rfl) rfl (fun x21 => ?_)
      refine J_iload (pc' := 163) ok (dOf dX4_bring 93 rfl) rfl rfl ?_
      refine J_isub (pc' := 164) ok (dOf dX4_bring 94 rfl) rfl ?_
      refine J_iast (pc' := 165) ok (dOf dX4_bring 95 rfl) rfl (fun h22 _ => ?_)
      refine J_aload_n (pc' := 166) ok (dOf dX4_bring 96 rfl) rfl rfl rfl ?_
      refine J_getR (ci := 4) (kf := 5) (C := RX4) (T := TX4) (N := 12) (pc' := 169) ok (dOf dX4_bring 97 rfl) rfl (by decide) rfl (by decide) win_4 wfl_X4_28 (fun a23 => ?_)
      refine J_iload (pc' := 171) ok (dOf dX4_bring 98 rfl) rfl rfl ?_
      refine J_bipush (v := 6) (pc' := 173) ok (dOf dX4_bring 99 rfl) rfl (by decide) ?_
      refine J_imul (pc' := 174) ok (dOf dX4_bring 100 rfl) rfl ?_
      refine J_iload (pc' := 176) ok (dOf dX4_bring 101 rfl) rfl rfl ?_
      refine J_iadd (pc' := 177) ok (dOf dX4_bring 102 rfl) rfl ?_
      refine J_dup2 (pc' := 178) ok (dOf dX4_bring 103 rfl) rfl rfl rfl ?_
      refine J_iald (pc' := 179) ok (dOf dX4_bring 104 rfl) rfl (fun x24 => ?_)
      refine J_iload (pc' := 181) ok (dOf dX4_bring 105 rfl) rfl rfl ?_
      refine J_iadd (pc' := 182) ok (dOf dX4_bring 106 rfl) rfl ?_
      refine J_iast (pc' := 183) ok (dOf dX4_bring 107 rfl) rfl (fun h25 _ => ?_)
      refine J_iload (pc' := 185) ok (dOf dX4_bring 108 rfl) rfl rfl ?_
      refine J_istore (ls' := [some (.ref v0), some (.int v1), some (.int v2), some (.int v3), some (.int v4), some (.int x17), some (.int s.2.1), some (.int x17), some (.int x19)]) (pc' := 187) ok (dOf dX4_bring 109 rfl) rfl (Nat.le_of_ble_eq_true rfl) rfl rfl ?_
      refine J_iinc (v := s.2.1 + 1) (ls' := [some (.ref v0), some (.int v1), some (.int v2), some (.int v3), some (.int v4), some (.int x17), some (.int (s.2.1 + 1)), some (.int x17), some (.int x19)]) (pc' := 190) ok (dOf dX4_bring 110 rfl) rfl rfl (by rfl) (Nat.le_of_ble_eq_true rfl) rfl rfl ?_
      refine J_goto (tgt := 107) ok (dOf dX4_bring 111 rfl) (by decide) ?_
      refine J_weak (ls' := [some (.ref v0), some (.int v1), some (.int v2), some (.int v3), some (.int v4), some (.int x17), some (.int (s.2.1 + 1)), none, none]) ⟨rfl, rfl, rfl, rfl, rfl, rfl, rfl, trivial⟩ ?_
      exact J_fin (k1 (x17, s.2.1 + 1, h25))
def Frt_bring_j193 (v0 : Nat) (v1 : Int32) (v2 : Int32) (v3 : Int32) (v4 : Int32) (v5 : Int32) (v6 : Int32) (h : AHeap) : Option (Int32 × AHeap) :=
  (gfR h v0 4 5).bind fun a26 => (ald 0 h a26 ((v1 * 6) + v2)).bind fun x27 => (ast 0 h a26 ((v1 * 6) + v2) (x27 + v4)).bind fun h28 => some (v4, h28)
theorem Frt_bring_j193_J {E : JE} {l : Launch} {G : GX} {v : Int32} {h' : AHeap} (ok : JOK E l G kFrt_bring 0 0 (some (.int v)) h') (v0 : Nat) (v1 : Int32) (v2 : Int32) (v3 : Int32) (v4 : Int32) (v5 : Int32) (v6 : Int32) (h : AHeap) : J E kFrt_bring (Frt_bring_j193 v0 v1 v2 v3 v4 v5 v6 h) (fun z => z = (v, h')) 193 [some (.ref v0), some (.int v1), some (.int v2), some (.int v3), some (.int v4), some (.int v5), some (.int v6), none, none] [] h 0 0 := by
  unfold Frt_bring_j193
  refine J_aload_n (pc' := 194) ok (dOf dX4_bring 112 rfl) rfl rfl rfl ?_
  refine J_getR (ci := 4) (kf := 5) (C := RX4) (T := TX4) (N := 12) (pc' := 197) ok (dOf dX4_bring 113 rfl) rfl (by decide) rfl (by decide) win_4 wfl_X4_28 (fun a26 => ?_)
  refine J_iload_n (pc' := 198) ok (dOf dX4_bring 114 rfl) rfl rfl rfl ?_
  refine J_bipush (v := 6) (pc' := 200) ok (dOf dX4_bring 115 rfl) rfl (by decide) ?_
  refine J_imul (pc' := 201) ok (dOf dX4_bring 116 rfl) rfl ?_
  refine J_iload_n (pc' := 202) ok (dOf dX4_bring 117 rfl) rfl rfl rfl ?_
  refine J_iadd (pc' := 203) ok (dOf dX4_bring 118 rfl) rfl ?_
  refine J_dup2 (pc' := 204) ok (dOf dX4_bring 119 rfl) rfl rfl rfl ?_
  refine J_iald (pc' := 205) ok (dOf dX4_bring 120 rfl) rfl (fun x27 => ?_)
  refine J_iload (pc' := 207) ok (dOf dX4_bring 121 rfl) rfl rfl ?_
  refine J_iadd (pc' := 208) ok (dOf dX4_bring 122 rfl) rfl ?_
  refine J_iast (pc' := 209) ok (dOf dX4_bring 123 rfl) rfl (fun h28 _ => ?_)
  refine J_iload (pc' := 211) ok (dOf dX4_bring 124 rfl) rfl rfl ?_
  exact J_ireturn ok (dOf dX4_bring 125 rfl) rfl (Eq.refl 0) (Nat.le_refl 0)
def Frt_bring_j75 (v0 : Nat) (v1 : Int32) (v2 : Int32) (v3 : Int32) (v4 : Int32) (v5 : Int32) (v6 : Int32) (h : AHeap) : Option (Int32 × AHeap) :=
  (gfR h v0 4 4).bind fun a9 => (ald 0 h a9 v5).bind fun x10 => (gfR h v0 4 4).bind fun a11 => (ald 0 h a11 v5).bind fun x12 => (ast 0 h a11 v5 (x12 - (if x10 < v4 then x10 else v4))).bind fun h13 => (iter (Frt_bring_b107 v0 v1 v2 v3 (if x10 < v4 then x10 else v4)) Lmax (v1, 0, h13)).bind (fun (q107 : Int32 × Int32 × AHeap) => Frt_bring_j193 v0 v1 v2 v3 (if x10 < v4 then x10 else v4) q107.1 q107.2.1 q107.2.2)
theorem Frt_bring_j75_J {E : JE} {l : Launch} {G : GX} {v : Int32} {h' : AHeap} (ok : JOK E l G kFrt_bring 0 0 (some (.int v)) h') (v0 : Nat) (v1 : Int32) (v2 : Int32) (v3 : Int32) (v4 : Int32) (v5 : Int32) (v6 : Int32) (h : AHeap) : J E kFrt_bring (Frt_bring_j75 v0 v1 v2 v3 v4 v5 v6 h) (fun z => z = (v, h')) 75 [some (.ref v0), some (.int v1), some (.int v2), some (.int v3), some (.int v4), some (.int v5), some (.int v6), none, none] [] h 0 0 := by
  unfold Frt_bring_j75
  refine J_iload (pc' := 77) ok (dOf dX4_bring 42 rfl) rfl rfl ?_
  refine J_aload_n (pc' := 78) ok (dOf dX4_bring 43 rfl) rfl rfl rfl ?_
  refine J_getR (ci := 4) (kf := 4) (C := RX4) (T := TX4) (N := 12) (pc' := 81) ok (dOf dX4_bring 44 rfl) rfl (by decide) rfl (by decide) win_4 wfl_X4_25 (fun a9 => ?_)
  refine J_iload (pc' := 83) ok (dOf dX4_bring 45 rfl) rfl rfl ?_
  refine J_iald (pc' := 84) ok (dOf dX4_bring 46 rfl) rfl (fun x10 => ?_)
  refine J_mmin (pc' := 87) ok (dOf dX4_bring 47 rfl) rfl wml_X4_118 wstat_J9_min_7cf53 wini_java_lang_Math wcode_J9_min_7cf53 (Nat.le_of_ble_eq_true rfl) (Nat.le_of_ble_eq_true rfl) (Nat.le_refl 0) (Nat.le_refl 0) ?_
  refine J_istore (ls' := [some (.ref v0), some (.int v1), some (.int v2), some (.int v3), some (.int (if x10 < v4 then x10 else v4)), some (.int v5), some (.int v6), none, none]) (pc' := 89) ok (dOf dX4_bring 48 rfl) rfl (Nat.le_of_ble_eq_true rfl) rfl rfl ?_
  refine J_aload_n (pc' := 90) ok (dOf dX4_bring 49 rfl) rfl rfl rfl ?_
  refine J_getR (ci := 4) (kf := 4) (C := RX4) (T := TX4) (N := 12) (pc' := 93) ok (dOf dX4_bring 50 rfl) rfl (by decide) rfl (by decide) win_4 wfl_X4_25 (fun a11 => ?_)
  refine J_iload (pc' := 95) ok (dOf dX4_bring 51 rfl) rfl rfl ?_
  refine J_dup2 (pc' := 96) ok (dOf dX4_bring 52 rfl) rfl rfl rfl ?_
  refine J_iald (pc' := 97) ok (dOf dX4_bring 53 rfl) rfl (fun x12 => ?_)
  refine J_iload (pc' := 99) ok (dOf dX4_bring 54 rfl) rfl rfl ?_
  refine J_isub (pc' := 100) ok (dOf dX4_bring 55 rfl) rfl ?_
  refine J_iast (pc' := 101) ok (dOf dX4_bring 56 rfl) rfl (fun h13 _ => ?_)
  refine J_iload_n (pc' := 102) ok (dOf dX4_bring 57 rfl) rfl rfl rfl ?_
  refine J_istore (ls' := [some (.ref v0), some (.int v1), some (.int v2), some (.int v3), some (.int (if x10 < v4 then x10 else v4)), some (.int v1), some (.int v6), none, none]) (pc' := 104) ok (dOf dX4_bring 58 rfl) rfl (Nat.le_of_ble_eq_true rfl) rfl rfl ?_
  refine J_iconst (v := 0) (pc' := 105) ok (dOf dX4_bring 59 rfl) rfl (by decide) ?_
  refine J_istore (ls' := [some (.ref v0), some (.int v1), some (.int v2), some (.int v3), some (.int (if x10 < v4 then x10 else v4)), some (.int v1), some (.int 0), none, none]) (pc' := 107) ok (dOf dX4_bring 60 rfl) rfl (Nat.le_of_ble_eq_true rfl) rfl rfl ?_
  refine J_iter (lf := fun z107 => [some (.ref v0), some (.int v1), some (.int v2), some (.int v3), some (.int (if x10 < v4 then x10 else v4)), some (.int z107.1), some (.int z107.2.1), none, none]) (sf := fun _ => []) (hf := fun z107 => z107.2.2) (px := (fun (q107 : Int32 × Int32 × AHeap) => 193)) (lx := (fun (q107 : Int32 × Int32 × AHeap) => [some (.ref v0), some (.int v1), some (.int v2), some (.int v3), some (.int (if x10 < v4 then x10 else v4)), some (.int q107.1), some (.int q107.2.1), none, none])) (sx := (fun (q107 : Int32 × Int32 × AHeap) => [])) (hx := (fun (q107 : Int32 × Int32 × AHeap) => q107.2.2)) (fun Y2 z107 m1 m2 => Frt_bring_b107_J ok v0 v1 v2 v3 (if x10 < v4 then x10 else v4) m1 m2 z107) (fun q107 => ?_) Lmax _
  exact Frt_bring_j193_J ok v0 v1 v2 v3 (if x10 < v4 then x10 else v4) q107.1 q107.2.1 q107.2.2
def Frt_bring (v0 : Nat) (v1 : Int32) (v2 : Int32) (v3 : Int32) (h : AHeap) : Option (Int32 × AHeap) :=
  (iter (Frt_bring_b9 v0 v1 v2 v3 h) Lmax (v3, v1, 0)).bind (fun (q9 : Int32 × Int32 × Int32) => Frt_bring_j75 v0 v1 v2 v3 q9.1 q9.2.1 q9.2.2 h)
theorem t_Frt_bring {l : Launch} {G : GX} {v0 : Nat} {v1 : Int32} {v2 : Int32} {v3 : Int32} {h : AHeap} {v : Int32} {h1 : AHeap} (hf : Frt_bring v0 v1 v2 v3 h = some (v, h1)) : CT l G kFrt_bring 0 0 [.ref v0, .int v1, .int v2, .int v3] h (some (.int v)) h1 := by
  refine CT_of (ls := [some (.ref v0), some (.int v1), some (.int v2), some (.int v3), none, none, none, none, none]) (Z := fun z => z = (v, h1)) (by decide +kernel) (Nat.le_of_ble_eq_true rfl) hf rfl ⟨rfl, rfl, rfl, rfl, trivial⟩ (fun E ok => ?_)
  unfold Frt_bring
  refine J_iload_n (pc' := 1) ok (dOf dX4_bring 0 rfl) rfl rfl rfl ?_
  refine J_istore (ls' := [some (.ref v0), some (.int v1), some (.int v2), some (.int v3), some (.int v3), none, none, none, none]) (pc' := 3) ok (dOf dX4_bring 1 rfl) rfl (Nat.le_of_ble_eq_true rfl) rfl rfl ?_
  refine J_iload_n (pc' := 4) ok (dOf dX4_bring 2 rfl) rfl rfl rfl ?_
  refine J_istore (ls' := [some (.ref v0), some (.int v1), some (.int v2), some (.int v3), some (.int v3), some (.int v1), none, none, none]) (pc' := 6) ok (dOf dX4_bring 3 rfl) rfl (Nat.le_of_ble_eq_true rfl) rfl rfl ?_
  refine J_iconst (v := 0) (pc' := 7) ok (dOf dX4_bring 4 rfl) rfl (by decide) ?_
  refine J_istore (ls' := [some (.ref v0), some (.int v1), some (.int v2), some (.int v3), some (.int v3), some (.int v1), some (.int 0), none, none]) (pc' := 9) ok (dOf dX4_bring 5 rfl) rfl (Nat.le_of_ble_eq_true rfl) rfl rfl ?_
  refine J_iter (lf := fun z9 => [some (.ref v0), some (.int v1), some (.int v2), some (.int v3), some (.int z9.1), some (.int z9.2.1), some (.int z9.2.2), none, none]) (sf := fun _ => []) (hf := fun z9 => h) (px := (fun (q9 : Int32 × Int32 × Int32) => 75)) (lx := (fun (q9 : Int32 × Int32 × Int32) => [some (.ref v0), some (.int v1), some (.int v2), some (.int v3), some (.int q9.1), some (.int q9.2.1), some (.int q9.2.2), none, none])) (sx := (fun (q9 : Int32 × Int32 × Int32) => [])) (hx := (fun (q9 : Int32 × Int32 × Int32) => h)) (fun Y2 z9 m1 m2 => Frt_bring_b9_J ok v0 v1 v2 v3 h m1 m2 z9) (fun q9 => ?_) Lmax _
  exact Frt_bring_j75_J ok v0 v1 v2 v3 q9.1 q9.2.1 q9.2.2 h
-- X4_costAt
abbrev kFrt_costAt : Cd := (yX4_costAt, cX4_costAt, 8, (some .int), 3, 73)
theorem dX4_costAt : dcheck cX4_costAt [(0, .aload_n 0, 1), (1, .aload_n 1, 1), (2, .iload_n 3, 1), (3, .invokevirtual 73, 3), (6, .aload_n 0, 1), (7, .getfield 9, 3), (10, .iconst 0, 1), (11, .aload_n 0, 1), (12, .getfield 25, 3), (15, .iconst 0, 1), (16, .iconst 4, 1), (17, .invokestatic 81, 3), (20, .aload_n 0, 1), (21, .getfield 28, 3), (24, .iconst 0, 1), (25, .invokestatic 87, 3), (28, .iconst 0, 1), (29, .istore 4, 2), (31, .iload 4, 2), (33, .aload_n 1, 1), (34, .getfield 49, 3), (37, .if_icmp .ge 78, 3), (40, .aload_n 1, 1), (41, .getfield 59, 3), (44, .iload_n 2, 1), (45, .bipush 6, 2), (47, .imul, 1), (48, .iload 4, 2), (50, .iadd, 1), (51, .iaload, 1), (52, .istore 5, 2), (54, .iconst 0, 1), (55, .istore 6, 2), (57, .iload 6, 2), (59, .bipush 20, 2), (61, .if_icmp .ge 48, 3), (64, .iload 5, 2), (66, .ifCond .le 43, 3), (69, .aload_n 0, 1), (70, .aload_n 1, 1), (71, .iload 4, 2), (73, .invokevirtual 93, 3), (76, .istore 7, 2), (78, .iload 5, 2), (80, .iload 7, 2), (82, .iconst (-1), 1), (83, .if_icmp .ne 7, 3), (86, .iconst 0, 1), (87, .goto 13, 3), (90, .aload_n 0, 1), (91, .iload 7, 2), (93, .iload 4, 2), (95, .iload 5, 2), (97, .invokevirtual 97, 3), (100, .isub, 1), (101, .istore 5, 2), (103, .iinc 6 1, 3), (106, .goto (-49), 3), (109, .iinc 4 1, 3), (112, .goto (-81), 3), (115, .iconst 0, 1), (116, .istore 4, 2), (118, .iconst 0, 1), (119, .istore 5, 2), (121, .iload 5, 2), (123, .bipush 24, 2), (125, .if_icmp .ge 43, 3), (128, .iload 4, 2), (130, .aload_n 0, 1), (131, .getfield 28, 3), (134, .iload 5, 2), (136, .iaload, 1), (137, .ifCond .le 21, 3), (140, .aload_n 0, 1), (141, .getfield 28, 3), (144, .iload 5, 2), (146, .iaload, 1), (147, .aload_n 1, 1), (148, .getfield 101, 3), (151, .iload 5, 2), (153, .iaload, 1), (154, .imul, 1), (155, .goto 4, 3), (158, .iconst 0, 1), (159, .iadd, 1), (160, .istore 4, 2), (162, .iinc 5 1, 3), (165, .goto (-44), 3), (168, .iload 4, 2), (170, .ireturn, 1)] = true := by decide +kernel
theorem cw_Frt_costAt {k : Cd} (h1 : kFrt_costAt.2.2.2.2.1 + 1 ≤ k.2.2.2.2.1) (h2 : 8 + (kFrt_costAt.2.2.1 + 11) + kFrt_costAt.2.2.2.2.2 ≤ k.2.2.2.2.2) : Cw k kFrt_costAt 3 := ⟨wcode_X4_costAt, wini_SplitProgram_Freight, ⟨by decide, by decide, by decide +kernel⟩, h1, h2⟩
def Frt_costAt_j100 (v0 : Nat) (v1 : Nat) (v2 : Int32) (v3 : Int32) (v4 : Int32) (v5 : Int32) (v6 : Int32) (v7 : Int32) (t0 : Int32) (t1 : Int32) (h : AHeap) : Option ((Int32 × Int32 × AHeap) ⊕ ((Int32 × Int32 × AHeap))) :=
  some (Sum.inl (t0 - t1, v6 + 1, h))
theorem Frt_costAt_j100_J {E : JE} {l : Launch} {G : GX} {r : Option Value} {h' : AHeap} (ok : JOK E l G kFrt_costAt 0 0 r h') (v0 : Nat) (v1 : Nat) (v2 : Int32) (v3 : Int32) (v4 : Int32) (v5 : Int32) (v6 : Int32) (v7 : Int32) (t0 : Int32) (t1 : Int32) (h : AHeap) {Y : (Int32 × Int32 × AHeap) ⊕ ((Int32 × Int32 × AHeap)) → Prop} (k1 : ∀ s' : Int32 × Int32 × AHeap, Y (.inl s') → JW E kFrt_costAt 57 [some (.ref v0), some (.ref v1), some (.int v2), some (.int v3), some (.int v4), some (.int s'.1), some (.int s'.2.1), none] [] s'.2.2 0 0) (kx109 : ∀ q : Int32 × Int32 × AHeap, Y (.inr q) → JW E kFrt_costAt 109 [some (.ref v0), some (.ref v1), some (.int v2), some (.int v3), some (.int v4), some (.int q.1), some (.int q.2.1), none] [] q.2.2 0 0) : J E kFrt_costAt (Frt_costAt_j100 v0 v1 v2 v3 v4 v5 v6 v7 t0 t1 h) Y 100 [some (.ref v0), some (.ref v1), some (.int v2), some (.int v3), some (.int v4), some (.int v5), some (.int v6), some (.int v7)] [.int t1, .int t0] h 0 0 := by
  unfold Frt_costAt_j100
  refine J_isub (pc' := 101) ok (dOf dX4_costAt 54 rfl) rfl ?_
  refine J_istore (ls' := [some (.ref v0), some (.ref v1), some (.int v2), some (.int v3), some (.int v4), some (.int (t0 - t1)), some (.int v6), some (.int v7)]) (pc' := 103) ok (dOf dX4_costAt 55 rfl) rfl (Nat.le_of_ble_eq_true rfl) rfl rfl ?_
  refine J_iinc (v := v6 + 1) (ls' := [some (.ref v0), some (.ref v1), some (.int v2), some (.int v3), some (.int v4), some (.int (t0 - t1)), some (.int (v6 + 1)), some (.int v7)]) (pc' := 106) ok (dOf dX4_costAt 56 rfl) rfl rfl (by rfl) (Nat.le_of_ble_eq_true rfl) rfl rfl ?_
  refine J_goto (tgt := 57) ok (dOf dX4_costAt 57 rfl) (by decide) ?_
  refine J_weak (ls' := [some (.ref v0), some (.ref v1), some (.int v2), some (.int v3), some (.int v4), some (.int (t0 - t1)), some (.int (v6 + 1)), none]) ⟨rfl, rfl, rfl, rfl, rfl, rfl, rfl, trivial⟩ ?_
  exact J_fin (k1 (t0 - t1, v6 + 1, h))
def Frt_costAt_b57 (v0 : Nat) (v1 : Nat) (v2 : Int32) (v3 : Int32) (v4 : Int32) (s : Int32 × Int32 × AHeap) : Option ((Int32 × Int32 × AHeap) ⊕ ((Int32 × Int32 × AHeap))) :=
  (if 20 ≤ s.2.1 then some (Sum.inr (s.1, s.2.1, s.2.2)) else (if s.1 ≤ 0 then some (Sum.inr (s.1, s.2.1, s.2.2)) else (chk s.2.2 v0 4).bind fun _ => bnd2 (Frt_chooseGiver v0 v1 v4 s.2.2) fun x11 h10 => (if ¬ x11 = (-1) then (chk h10 v0 4).bind fun _ => bnd2 (Frt_bring v0 x11 v4 s.1 h10) fun x13 h12 => Frt_costAt_j100 v0 v1 v2 v3 v4 s.1 s.2.1 x11 s.1 x13 h12 else Frt_costAt_j100 v0 v1 v2 v3 v4 s.1 s.2.1 x11 s.1 0 h10)))
theorem Frt_costAt_b57_J {E : JE} {l : Launch} {G : GX} {r : Option Value} {h' : AHeap} (ok : JOK E l G kFrt_costAt 0 0 r h') (v0 : Nat) (v1 : Nat) (v2 : Int32) (v3 : Int32) (v4 : Int32) {Y : (Int32 × Int32 × AHeap) ⊕ ((Int32 × Int32 × AHeap)) → Prop} (k1 : ∀ s' : Int32 × Int32 × AHeap, Y (.inl s') → JW E kFrt_costAt 57 [some (.ref v0), some (.ref v1), some (.int v2), some (.int v3), some (.int v4), some (.int s'.1), some (.int s'.2.1), none] [] s'.2.2 0 0) (kx109 : ∀ q : Int32 × Int32 × AHeap, Y (.inr q) → JW E kFrt_costAt 109 [some (.ref v0), some (.ref v1), some (.int v2), some (.int v3), some (.int v4), some (.int q.1), some (.int q.2.1), none] [] q.2.2 0 0) (s : Int32 × Int32 × AHeap) : J E kFrt_costAt (Frt_costAt_b57 v0 v1 v2 v3 v4 s) Y 57 [some (.ref v0), some (.ref v1), some (.int v2), some (.int v3), some (.int v4), some (.int s.1), some (.int s.2.1), none] [] s.2.2 0 0 := by
  unfold Frt_costAt_b57
  refine J_iload (pc' := 59) ok (dOf dX4_costAt 33 rfl) rfl rfl ?_
  refine J_bipush (v := 20) (pc' := 61) ok (dOf dX4_costAt 34 rfl) rfl (by decide) ?_
  refine J_icmp_ge (tgt := 109) (pc' := 64) ok (dOf dX4_costAt 35 rfl) rfl (by decide) ?_ ?_
  · exact J_fin (kx109 (s.1, s.2.1, s.2.2))
  · refine J_iload (pc' := 66) ok (dOf dX4_costAt 36 rfl) rfl rfl ?_
    refine J_if_le (tgt := 109) (pc' := 69) ok (dOf dX4_costAt 37 rfl) rfl (by decide) ?_ ?_
    · exact J_fin (kx109 (s.1, s.2.1, s.2.2))
    · refine J_aload_n (pc' := 70) ok (dOf dX4_costAt 38 rfl) rfl rfl rfl ?_
      refine J_aload_n (pc' := 71) ok (dOf dX4_costAt 39 rfl) rfl rfl rfl ?_
      refine J_iload (pc' := 73) ok (dOf dX4_costAt 40 rfl) rfl rfl ?_
      refine J_callVi (k2 := kFrt_chooseGiver) (ci := 4) (T := TX4) (N := 12) (as := [.ref v1, .int v4]) (pc' := 76) ok (dOf dX4_costAt 41 rfl) rfl (cw_Frt_chooseGiver (by decide) (by decide)) wml_X4_93 winst_X4_chooseGiver wsel_X4_chooseGiver rfl ⟨Nat.le_refl 0, Nat.le_refl 0⟩ (Nat.le_of_ble_eq_true rfl) rfl (fun _ _ hf => t_Frt_chooseGiver hf) (fun x11 h10 => ?_)
      refine J_istore (ls' := [some (.ref v0), some (.ref v1), some (.int v2), some (.int v3), some (.int v4), some (.int s.1), some (.int s.2.1), some (.int x11)]) (pc' := 78) ok (dOf dX4_costAt 42 rfl) rfl (Nat.le_of_ble_eq_true rfl) rfl rfl ?_
      refine J_iload (pc' := 80) ok (dOf dX4_costAt 43 rfl) rfl rfl ?_
      refine J_iload (pc' := 82) ok (dOf dX4_costAt 44 rfl) rfl rfl ?_
      refine J_iconst (v := (-1)) (pc' := 83) ok (dOf dX4_costAt 45 rfl) rfl (by decide) ?_
      refine J_icmp_ne (tgt := 90) (pc' := 86) ok (dOf dX4_costAt 46 rfl) rfl (by decide) ?_ ?_
      · refine J_aload_n (pc' := 91) ok (dOf dX4_costAt 49 rfl) rfl rfl rfl ?_
        refine J_iload (pc' := 93) ok (dOf dX4_costAt 50 rfl) rfl rfl ?_
        refine J_iload (pc' := 95) ok (dOf dX4_costAt 51 rfl) rfl rfl ?_
        refine J_iload (pc' := 97) ok (dOf dX4_costAt 52 rfl) rfl rfl ?_
        refine J_callVi (k2 := kFrt_bring) (ci := 4) (T := TX4) (N := 12) (as := [.int x11, .int v4, .int s.1]) (pc' := 100) ok (dOf dX4_costAt 53 rfl) rfl (cw_Frt_bring (by decide) (by decide)) wml_X4_97 winst_X4_bring wsel_X4_bring rfl ⟨Nat.le_refl 0, Nat.le_refl 0⟩ (Nat.le_of_ble_eq_true rfl) rfl (fun _ _ hf => t_Frt_bring hf) (fun x13 h12 => ?_)
        exact Frt_costAt_j100_J ok v0 v1 v2 v3 v4 s.1 s.2.1 x11 s.1 x13 h12 k1 kx109
      · refine J_iconst (v := 0) (pc' := 87) ok (dOf dX4_costAt 47 rfl) rfl (by decide) ?_
        refine J_goto (tgt := 100) ok (dOf dX4_costAt 48 rfl) (by decide) ?_
        exact Frt_costAt_j100_J ok v0 v1 v2 v3 v4 s.1 s.2.1 x11 s.1 0 h10 k1 kx109
def Frt_costAt_j109 (v0 : Nat) (v1 : Nat) (v2 : Int32) (v3 : Int32) (v4 : Int32) (v5 : Int32) (v6 : Int32) (h : AHeap) : Option ((Int32 × AHeap) ⊕ ((Int32 × AHeap))) :=
  some (Sum.inl (v4 + 1, h))
theorem Frt_costAt_j109_J {E : JE} {l : Launch} {G : GX} {r : Option Value} {h' : AHeap} (ok : JOK E l G kFrt_costAt 0 0 r h') (v0 : Nat) (v1 : Nat) (v2 : Int32) (v3 : Int32) (v4 : Int32) (v5 : Int32) (v6 : Int32) (h : AHeap) {Y : (Int32 × AHeap) ⊕ ((Int32 × AHeap)) → Prop} (k1 : ∀ s' : Int32 × AHeap, Y (.inl s') → JW E kFrt_costAt 31 [some (.ref v0), some (.ref v1), some (.int v2), some (.int v3), some (.int s'.1), none, none, none] [] s'.2 0 0) (kx115 : ∀ q : Int32 × AHeap, Y (.inr q) → JW E kFrt_costAt 115 [some (.ref v0), some (.ref v1), some (.int v2), some (.int v3), some (.int q.1), none, none, none] [] q.2 0 0) : J E kFrt_costAt (Frt_costAt_j109 v0 v1 v2 v3 v4 v5 v6 h) Y 109 [some (.ref v0), some (.ref v1), some (.int v2), some (.int v3), some (.int v4), some (.int v5), some (.int v6), none] [] h 0 0 := by
  unfold Frt_costAt_j109
  refine J_iinc (v := v4 + 1) (ls' := [some (.ref v0), some (.ref v1), some (.int v2), some (.int v3), some (.int (v4 + 1)), some (.int v5), some (.int v6), none]) (pc' := 112) ok (dOf dX4_costAt 58 rfl) rfl rfl (by rfl) (Nat.le_of_ble_eq_true rfl) rfl rfl ?_
  refine J_goto (tgt := 31) ok (dOf dX4_costAt 59 rfl) (by decide) ?_
  refine J_weak (ls' := [some (.ref v0), some (.ref v1), some (.int v2), some (.int v3), some (.int (v4 + 1)), none, none, none]) ⟨rfl, rfl, rfl, rfl, rfl, trivial⟩ ?_
  exact J_fin (k1 (v4 + 1, h))
def Frt_costAt_b31 (v0 : Nat) (v1 : Nat) (v2 : Int32) (v3 : Int32) (s : Int32 × AHeap) : Option ((Int32 × AHeap) ⊕ ((Int32 × AHeap))) :=
  (gfI s.2 v1 6 1).bind fun x7 => (if x7 ≤ s.1 then some (Sum.inr (s.1, s.2)) else (gfR s.2 v1 6 8).bind fun a8 => (ald 0 s.2 a8 ((v2 * 6) + s.1)).bind fun x9 => (iter (Frt_costAt_b57 v0 v1 v2 v3 s.1) Lmax (x9, 0, s.2)).bind (fun (q57 : Int32 × Int32 × AHeap) => Frt_costAt_j109 v0 v1 v2 v3 s.1 q57.1 q57.2.1 q57.2.2))
theorem Frt_costAt_b31_J {E : JE} {l : Launch} {G : GX} {r : Option Value} {h' : AHeap} (ok : JOK E l G kFrt_costAt 0 0 r h') (v0 : Nat) (v1 : Nat) (v2 : Int32) (v3 : Int32) {Y : (Int32 × AHeap) ⊕ ((Int32 × AHeap)) → Prop} (k1 : ∀ s' : Int32 × AHeap, Y (.inl s') → JW E kFrt_costAt 31 [some (.ref v0), some (.ref v1), some (.int v2), some (.int v3), some (.int s'.1), none, none, none] [] s'.2 0 0) (kx115 : ∀ q : Int32 × AHeap, Y (.inr q) → JW E kFrt_costAt 115 [some (.ref v0), some (.ref v1), some (.int v2), some (.int v3), some (.int q.1), none, none, none] [] q.2 0 0) (s : Int32 × AHeap) : J E kFrt_costAt (Frt_costAt_b31 v0 v1 v2 v3 s) Y 31 [some (.ref v0), some (.ref v1), some (.int v2), some (.int v3), some (.int s.1), none, none, none] [] s.2 0 0 := by
  unfold Frt_costAt_b31
  refine J_iload (pc' := 33) ok (dOf dX4_costAt 18 rfl) rfl rfl ?_
  refine J_aload_n (pc' := 34) ok (dOf dX4_costAt 19 rfl) rfl rfl rfl ?_
  refine J_getI (ci := 6) (kf := 1) (C := RX6) (T := TX6) (N := 9) (pc' := 37) ok (dOf dX4_costAt 20 rfl) rfl (by decide) rfl (by decide) win_6 wfl_X4_49 (fun x7 => ?_)
  refine J_icmp_ge (tgt := 115) (pc' := 40) ok (dOf dX4_costAt 21 rfl) rfl (by decide) ?_ ?_
  · exact J_fin (kx115 (s.1, s.2))
  · refine J_aload_n (pc' := 41) ok (dOf dX4_costAt 22 rfl) rfl rfl rfl ?_
    refine J_getR (ci := 6) (kf := 8) (C := RX6) (T := TX6) (N := 9) (pc' := 44) ok (dOf dX4_costAt 23 rfl) rfl (by decide) rfl (by decide) win_6 wfl_X4_59 (fun a8 => ?_)
    refine J_iload_n (pc' := 45) ok (dOf dX4_costAt 24 rfl) rfl rfl rfl ?_
    refine J_bipush (v := 6) (pc' := 47) ok (dOf dX4_costAt 25 rfl) rfl (by decide) ?_
    refine J_imul (pc' := 48) ok (dOf dX4_costAt 26 rfl) rfl ?_
    refine J_iload (pc' := 50) ok (dOf dX4_costAt 27 rfl) rfl rfl ?_
    refine J_iadd (pc' := 51) ok (dOf dX4_costAt 28 rfl) rfl ?_
    refine J_iald (pc' := 52) ok (dOf dX4_costAt 29 rfl) rfl (fun x9 => ?_)
    refine J_istore (ls' := [some (.ref v0), some (.ref v1), some (.int v2), some (.int v3), some (.int s.1), some (.int x9), none, none]) (pc' := 54) ok (dOf dX4_costAt 30 rfl) rfl (Nat.le_of_ble_eq_true rfl) rfl rfl ?_
    refine J_iconst (v := 0) (pc' := 55) ok (dOf dX4_costAt 31 rfl) rfl (by decide) ?_
    refine J_istore (ls' := [some (.ref v0), some (.ref v1), some (.int v2), some (.int v3), some (.int s.1), some (.int x9), some (.int 0), none]) (pc' := 57) ok (dOf dX4_costAt 32 rfl) rfl (Nat.le_of_ble_eq_true rfl) rfl rfl ?_
    refine J_iter (lf := fun z57 => [some (.ref v0), some (.ref v1), some (.int v2), some (.int v3), some (.int s.1), some (.int z57.1), some (.int z57.2.1), none]) (sf := fun _ => []) (hf := fun z57 => z57.2.2) (px := (fun (q57 : Int32 × Int32 × AHeap) => 109)) (lx := (fun (q57 : Int32 × Int32 × AHeap) => [some (.ref v0), some (.ref v1), some (.int v2), some (.int v3), some (.int s.1), some (.int q57.1), some (.int q57.2.1), none])) (sx := (fun (q57 : Int32 × Int32 × AHeap) => [])) (hx := (fun (q57 : Int32 × Int32 × AHeap) => q57.2.2)) (fun Y2 z57 m1 m2 => Frt_costAt_b57_J ok v0 v1 v2 v3 s.1 m1 m2 z57) (fun q57 => ?_) Lmax _
    exact Frt_costAt_j109_J ok v0 v1 v2 v3 s.1 q57.1 q57.2.1 q57.2.2 k1 kx115
def Frt_costAt_j159 (v0 : Nat) (v1 : Nat) (v2 : Int32) (v3 : Int32) (v4 : Int32) (v5 : Int32) (t0 : Int32) (t1 : Int32) (h : AHeap) : Option ((Int32 × Int32) ⊕ ((Int32 × Int32))) :=
  some (Sum.inl (t0 + t1, v5 + 1))
theorem Frt_costAt_j159_J {E : JE} {l : Launch} {G : GX} {r : Option Value} {h' : AHeap} (ok : JOK E l G kFrt_costAt 0 0 r h') (v0 : Nat) (v1 : Nat) (v2 : Int32) (v3 : Int32) (v4 : Int32) (v5 : Int32) (t0 : Int32) (t1 : Int32) (h : AHeap) {Y : (Int32 × Int32) ⊕ ((Int32 × Int32)) → Prop} (k1 : ∀ s' : Int32 × Int32, Y (.inl s') → JW E kFrt_costAt 121 [some (.ref v0), some (.ref v1), some (.int v2), some (.int v3), some (.int s'.1), some (.int s'.2), none, none] [] h 0 0) (kx168 : ∀ q : Int32 × Int32, Y (.inr q) → JW E kFrt_costAt 168 [some (.ref v0), some (.ref v1), some (.int v2), some (.int v3), some (.int q.1), some (.int q.2), none, none] [] h 0 0) : J E kFrt_costAt (Frt_costAt_j159 v0 v1 v2 v3 v4 v5 t0 t1 h) Y 159 [some (.ref v0), some (.ref v1), some (.int v2), some (.int v3), some (.int v4), some (.int v5), none, none] [.int t1, .int t0] h 0 0 := by
  unfold Frt_costAt_j159
  refine J_iadd (pc' := 160) ok (dOf dX4_costAt 84 rfl) rfl ?_
  refine J_istore (ls' := [some (.ref v0), some (.ref v1), some (.int v2), some (.int v3), some (.int (t0 + t1)), some (.int v5), none, none]) (pc' := 162) ok (dOf dX4_costAt 85 rfl) rfl (Nat.le_of_ble_eq_true rfl) rfl rfl ?_
  refine J_iinc (v := v5 + 1) (ls' := [some (.ref v0), some (.ref v1), some (.int v2), some (.int v3), some (.int (t0 + t1)), some (.int (v5 + 1)), none, none]) (pc' := 165) ok (dOf dX4_costAt 86 rfl) rfl rfl (by rfl) (Nat.le_of_ble_eq_true rfl) rfl rfl ?_
  refine J_goto (tgt := 121) ok (dOf dX4_costAt 87 rfl) (by decide) ?_
  exact J_fin (k1 (t0 + t1, v5 + 1))
def Frt_costAt_b121 (v0 : Nat) (v1 : Nat) (v2 : Int32) (v3 : Int32) (h : AHeap) (s : Int32 × Int32) : Option ((Int32 × Int32) ⊕ ((Int32 × Int32))) :=
  (if 24 ≤ s.2 then some (Sum.inr (s.1, s.2)) else (gfR h v0 4 5).bind fun a14 => (ald 0 h a14 s.2).bind fun x15 => (if x15 ≤ 0 then Frt_costAt_j159 v0 v1 v2 v3 s.1 s.2 s.1 0 h else (gfR h v0 4 5).bind fun a16 => (ald 0 h a16 s.2).bind fun x17 => (gfR h v1 6 6).bind fun a18 => (ald 0 h a18 s.2).bind fun x19 => Frt_costAt_j159 v0 v1 v2 v3 s.1 s.2 s.1 (x17 * x19) h))
theorem Frt_costAt_b121_J {E : JE} {l : Launch} {G : GX} {r : Option Value} {h' : AHeap} (ok : JOK E l G kFrt_costAt 0 0 r h') (v0 : Nat) (v1 : Nat) (v2 : Int32) (v3 : Int32) (h : AHeap) {Y : (Int32 × Int32) ⊕ ((Int32 × Int32)) → Prop} (k1 : ∀ s' : Int32 × Int32, Y (.inl s') → JW E kFrt_costAt 121 [some (.ref v0), some (.ref v1), some (.int v2), some (.int v3), some (.int s'.1), some (.int s'.2), none, none] [] h 0 0) (kx168 : ∀ q : Int32 × Int32, Y (.inr q) → JW E kFrt_costAt 168 [some (.ref v0), some (.ref v1), some (.int v2), some (.int v3), some (.int q.1), some (.int q.2), none, none] [] h 0 0) (s : Int32 × Int32) : J E kFrt_costAt (Frt_costAt_b121 v0 v1 v2 v3 h s) Y 121 [some (.ref v0), some (.ref v1), some (.int v2), some (.int v3), some (.int s.1), some (.int s.2), none, none] [] h 0 0 := by
  unfold Frt_costAt_b121
  refine J_iload (pc' := 123) ok (dOf dX4_costAt 64 rfl) rfl rfl ?_
  refine J_bipush (v := 24) (pc' := 125) ok (dOf dX4_costAt 65 rfl) rfl (by decide) ?_
  refine J_icmp_ge (tgt := 168) (pc' := 128) ok (dOf dX4_costAt 66 rfl) rfl (by decide) ?_ ?_
  · exact J_fin (kx168 (s.1, s.2))
  · refine J_iload (pc' := 130) ok (dOf dX4_costAt 67 rfl) rfl rfl ?_
    refine J_aload_n (pc' := 131) ok (dOf dX4_costAt 68 rfl) rfl rfl rfl ?_
    refine J_getR (ci := 4) (kf := 5) (C := RX4) (T := TX4) (N := 12) (pc' := 134) ok (dOf dX4_costAt 69 rfl) rfl (by decide) rfl (by decide) win_4 wfl_X4_28 (fun a14 => ?_)
    refine J_iload (pc' := 136) ok (dOf dX4_costAt 70 rfl) rfl rfl ?_
    refine J_iald (pc' := 137) ok (dOf dX4_costAt 71 rfl) rfl (fun x15 => ?_)
    refine J_if_le (tgt := 158) (pc' := 140) ok (dOf dX4_costAt 72 rfl) rfl (by decide) ?_ ?_
    · refine J_iconst (v := 0) (pc' := 159) ok (dOf dX4_costAt 83 rfl) rfl (by decide) ?_
      exact Frt_costAt_j159_J ok v0 v1 v2 v3 s.1 s.2 s.1 0 h k1 kx168
    · refine J_aload_n (pc' := 141) ok (dOf dX4_costAt 73 rfl) rfl rfl rfl ?_
      refine J_getR (ci := 4) (kf := 5) (C := RX4) (T := TX4) (N := 12) (pc' := 144) ok (dOf dX4_costAt 74 rfl) rfl (by decide) rfl (by decide) win_4 wfl_X4_28 (fun a16 => ?_)
      refine J_iload (pc' := 146) ok (dOf dX4_costAt 75 rfl) rfl rfl ?_
      refine J_iald (pc' := 147) ok (dOf dX4_costAt 76 rfl) rfl (fun x17 => ?_)
      refine J_aload_n (pc' := 148) ok (dOf dX4_costAt 77 rfl) rfl rfl rfl ?_
      refine J_getR (ci := 6) (kf := 6) (C := RX6) (T := TX6) (N := 9) (pc' := 151) ok (dOf dX4_costAt 78 rfl) rfl (by decide) rfl (by decide) win_6 wfl_X4_101 (fun a18 => ?_)
      refine J_iload (pc' := 153) ok (dOf dX4_costAt 79 rfl) rfl rfl ?_
      refine J_iald (pc' := 154) ok (dOf dX4_costAt 80 rfl) rfl (fun x19 => ?_)
      refine J_imul (pc' := 155) ok (dOf dX4_costAt 81 rfl) rfl ?_
      refine J_goto (tgt := 159) ok (dOf dX4_costAt 82 rfl) (by decide) ?_
      exact Frt_costAt_j159_J ok v0 v1 v2 v3 s.1 s.2 s.1 (x17 * x19) h k1 kx168
def Frt_costAt_j168 (v0 : Nat) (v1 : Nat) (v2 : Int32) (v3 : Int32) (v4 : Int32) (v5 : Int32) (h : AHeap) : Option (Int32 × AHeap) :=
  some (v4, h)
theorem Frt_costAt_j168_J {E : JE} {l : Launch} {G : GX} {v : Int32} {h' : AHeap} (ok : JOK E l G kFrt_costAt 0 0 (some (.int v)) h') (v0 : Nat) (v1 : Nat) (v2 : Int32) (v3 : Int32) (v4 : Int32) (v5 : Int32) (h : AHeap) : J E kFrt_costAt (Frt_costAt_j168 v0 v1 v2 v3 v4 v5 h) (fun z => z = (v, h')) 168 [some (.ref v0), some (.ref v1), some (.int v2), some (.int v3), some (.int v4), some (.int v5), none, none] [] h 0 0 := by
  unfold Frt_costAt_j168
  refine J_iload (pc' := 170) ok (dOf dX4_costAt 88 rfl) rfl rfl ?_
  exact J_ireturn ok (dOf dX4_costAt 89 rfl) rfl (Eq.refl 0) (Nat.le_refl 0)
def Frt_costAt_j115 (v0 : Nat) (v1 : Nat) (v2 : Int32) (v3 : Int32) (v4 : Int32) (h : AHeap) : Option (Int32 × AHeap) :=
  (iter (Frt_costAt_b121 v0 v1 v2 v3 h) Lmax (0, 0)).bind (fun (q121 : Int32 × Int32) => Frt_costAt_j168 v0 v1 v2 v3 q121.1 q121.2 h)
theorem Frt_costAt_j115_J {E : JE} {l : Launch} {G : GX} {v : Int32} {h' : AHeap} (ok : JOK E l G kFrt_costAt 0 0 (some (.int v)) h') (v0 : Nat) (v1 : Nat) (v2 : Int32) (v3 : Int32) (v4 : Int32) (h : AHeap) : J E kFrt_costAt (Frt_costAt_j115 v0 v1 v2 v3 v4 h) (fun z => z = (v, h')) 115 [some (.ref v0), some (.ref v1), some (.int v2), some (.int v3), some (.int v4), none, none, none] [] h 0 0 := by
  unfold Frt_costAt_j115
  refine J_iconst (v := 0) (pc' := 116) ok (dOf dX4_costAt 60 rfl) rfl (by decide) ?_
  refine J_istore (ls' := [some (.ref v0), some (.ref v1), some (.int v2), some (.int v3), some (.int 0), none, none, none]) (pc' := 118) ok (dOf dX4_costAt 61 rfl) rfl (Nat.le_of_ble_eq_true rfl) rfl rfl ?_
  refine J_iconst (v := 0) (pc' := 119) ok (dOf dX4_costAt 62 rfl) rfl (by decide) ?_
  refine J_istore (ls' := [some (.ref v0), some (.ref v1), some (.int v2), some (.int v3), some (.int 0), some (.int 0), none, none]) (pc' := 121) ok (dOf dX4_costAt 63 rfl) rfl (Nat.le_of_ble_eq_true rfl) rfl rfl ?_
  refine J_iter (lf := fun z121 => [some (.ref v0), some (.ref v1), some (.int v2), some (.int v3), some (.int z121.1), some (.int z121.2), none, none]) (sf := fun _ => []) (hf := fun z121 => h) (px := (fun (q121 : Int32 × Int32) => 168)) (lx := (fun (q121 : Int32 × Int32) => [some (.ref v0), some (.ref v1), some (.int v2), some (.int v3), some (.int q121.1), some (.int q121.2), none, none])) (sx := (fun (q121 : Int32 × Int32) => [])) (hx := (fun (q121 : Int32 × Int32) => h)) (fun Y2 z121 m1 m2 => Frt_costAt_b121_J ok v0 v1 v2 v3 h m1 m2 z121) (fun q121 => ?_) Lmax _
  exact Frt_costAt_j168_J ok v0 v1 v2 v3 q121.1 q121.2 h
def Frt_costAt (v0 : Nat) (v1 : Nat) (v2 : Int32) (v3 : Int32) (h : AHeap) : Option (Int32 × AHeap) :=
  (chk h v0 4).bind fun _ => bnd2 (Frt_findStocks v0 v1 v3 h) fun _ h1 => (gfR h1 v0 4 0).bind fun a2 => (gfR h1 v0 4 4).bind fun a3 => (acp h1 a2 0 a3 0 4).bind fun h4 => (gfR h4 v0 4 5).bind fun a5 => bnd2 (J7_fill a5 0 h4) fun _ h6 => (iter (Frt_costAt_b31 v0 v1 v2 v3) Lmax (0, h6)).bind (fun (q31 : Int32 × AHeap) => Frt_costAt_j115 v0 v1 v2 v3 q31.1 q31.2)
theorem t_Frt_costAt {l : Launch} {G : GX} {v0 : Nat} {v1 : Nat} {v2 : Int32} {v3 : Int32} {h : AHeap} {v : Int32} {h1 : AHeap} (hf : Frt_costAt v0 v1 v2 v3 h = some (v, h1)) : CT l G kFrt_costAt 0 0 [.ref v0, .ref v1, .int v2, .int v3] h (some (.int v)) h1 := by
  refine CT_of (ls := [some (.ref v0), some (.ref v1), some (.int v2), some (.int v3), none, none, none, none]) (Z := fun z => z = (v, h1)) (by decide +kernel) (Nat.le_of_ble_eq_true rfl) hf rfl ⟨rfl, rfl, rfl, rfl, trivial⟩ (fun E ok => ?_)
  unfold Frt_costAt
  refine J_aload_n (pc' := 1) ok (dOf dX4_costAt 0 rfl) rfl rfl rfl ?_
  refine J_aload_n (pc' := 2) ok (dOf dX4_costAt 1 rfl) rfl rfl rfl ?_
  refine J_iload_n (pc' := 3) ok (dOf dX4_costAt 2 rfl) rfl rfl rfl ?_
  refine J_callVv (k2 := kFrt_findStocks) (ci := 4) (T := TX4) (N := 12) (as := [.ref v1, .int v3]) (pc' := 6) ok (dOf dX4_costAt 3 rfl) rfl (cw_Frt_findStocks (by decide) (by decide)) wml_X4_73 winst_X4_findStocks wsel_X4_findStocks rfl ⟨Nat.le_refl 0, Nat.le_refl 0⟩ (Nat.le_of_ble_eq_true rfl) rfl (fun _ _ hf => t_Frt_findStocks hf) (fun _ h1 => ?_)
  refine J_aload_n (pc' := 7) ok (dOf dX4_costAt 4 rfl) rfl rfl rfl ?_
  refine J_getR (ci := 4) (kf := 0) (C := RX4) (T := TX4) (N := 12) (pc' := 10) ok (dOf dX4_costAt 5 rfl) rfl (by decide) rfl (by decide) win_4 wfl_X4_9 (fun a2 => ?_)
  refine J_iconst (v := 0) (pc' := 11) ok (dOf dX4_costAt 6 rfl) rfl (by decide) ?_
  refine J_aload_n (pc' := 12) ok (dOf dX4_costAt 7 rfl) rfl rfl rfl ?_
  refine J_getR (ci := 4) (kf := 4) (C := RX4) (T := TX4) (N := 12) (pc' := 15) ok (dOf dX4_costAt 8 rfl) rfl (by decide) rfl (by decide) win_4 wfl_X4_25 (fun a3 => ?_)
  refine J_iconst (v := 0) (pc' := 16) ok (dOf dX4_costAt 9 rfl) rfl (by decide) ?_
  refine J_iconst (v := 4) (pc' := 17) ok (dOf dX4_costAt 10 rfl) rfl (by decide) ?_
  refine J_acp (pc' := 20) ok (dOf dX4_costAt 11 rfl) rfl wml_X4_81 wnat_java_lang_System_arraycopy wstat_java_lang_System_arraycopy wini_java_lang_System (Nat.le_of_ble_eq_true rfl) (Nat.le_of_ble_eq_true rfl) (fun h4 _ => ?_)
  refine J_aload_n (pc' := 21) ok (dOf dX4_costAt 12 rfl) rfl rfl rfl ?_
  refine J_getR (ci := 4) (kf := 5) (C := RX4) (T := TX4) (N := 12) (pc' := 24) ok (dOf dX4_costAt 13 rfl) rfl (by decide) rfl (by decide) win_4 wfl_X4_28 (fun a5 => ?_)
  refine J_iconst (v := 0) (pc' := 25) ok (dOf dX4_costAt 14 rfl) rfl (by decide) ?_
  refine J_callSv (k2 := kJ7_fill) (as := [.ref a5, .int 0]) (pc' := 28) ok (dOf dX4_costAt 15 rfl) rfl (cw_J7_fill (by decide) (by decide)) wml_X4_87 wstat_J7_fill_53178 ⟨Nat.le_refl 0, Nat.le_refl 0⟩ (Nat.le_of_ble_eq_true rfl) rfl (fun _ _ hf => t_J7_fill hf) (fun _ h6 => ?_)
  refine J_iconst (v := 0) (pc' := 29) ok (dOf dX4_costAt 16 rfl) rfl (by decide) ?_
  refine J_istore (ls' := [some (.ref v0), some (.ref v1), some (.int v2), some (.int v3), some (.int 0), none, none, none]) (pc' := 31) ok (dOf dX4_costAt 17 rfl) rfl (Nat.le_of_ble_eq_true rfl) rfl rfl ?_
  refine J_iter (lf := fun z31 => [some (.ref v0), some (.ref v1), some (.int v2), some (.int v3), some (.int z31.1), none, none, none]) (sf := fun _ => []) (hf := fun z31 => z31.2) (px := (fun (q31 : Int32 × AHeap) => 115)) (lx := (fun (q31 : Int32 × AHeap) => [some (.ref v0), some (.ref v1), some (.int v2), some (.int v3), some (.int q31.1), none, none, none])) (sx := (fun (q31 : Int32 × AHeap) => [])) (hx := (fun (q31 : Int32 × AHeap) => q31.2)) (fun Y2 z31 m1 m2 => Frt_costAt_b31_J ok v0 v1 v2 v3 m1 m2 z31) (fun q31 => ?_) Lmax _
  exact Frt_costAt_j115_J ok v0 v1 v2 v3 q31.1 q31.2
-- X0_priceAt
abbrev kBook_priceAt : Cd := (yX0_priceAt, cX0_priceAt, 5, (some .int), 4, 100)
theorem dX0_priceAt : dcheck cX0_priceAt [(0, .iload_n 2, 1), (1, .sipush 256, 3), (4, .imul, 1), (5, .iload_n 3, 1), (6, .iadd, 1), (7, .istore 4, 2), (9, .aload_n 0, 1), (10, .getfield 18, 3), (13, .iload 4, 2), (15, .iaload, 1), (16, .bipush (-2), 2), (18, .if_icmp .ne 37, 3), (21, .aload_n 0, 1), (22, .getfield 18, 3), (25, .iload 4, 2), (27, .aload_n 0, 1), (28, .getfield 12, 3), (31, .aload_n 1, 1), (32, .iload_n 2, 1), (33, .iload_n 3, 1), (34, .invokevirtual 32, 3), (37, .ifCond .le 7, 3), (40, .iconst (-1), 1), (41, .goto 13, 3), (44, .aload_n 0, 1), (45, .getfield 12, 3), (48, .aload_n 1, 1), (49, .iload_n 2, 1), (50, .iload_n 3, 1), (51, .invokevirtual 36, 3), (54, .iastore, 1), (55, .aload_n 0, 1), (56, .getfield 18, 3), (59, .iload 4, 2), (61, .iaload, 1), (62, .ireturn, 1)] = true := by decide +kernel
theorem cw_Book_priceAt {k : Cd} (h1 : kBook_priceAt.2.2.2.2.1 + 1 ≤ k.2.2.2.2.1) (h2 : 8 + (kBook_priceAt.2.2.1 + 11) + kBook_priceAt.2.2.2.2.2 ≤ k.2.2.2.2.2) : Cw k kBook_priceAt 3 := ⟨wcode_X0_priceAt, wini_SplitProgram_Book, ⟨by decide, by decide, by decide +kernel⟩, h1, h2⟩
def Book_priceAt_j55 (v0 : Nat) (v1 : Nat) (v2 : Int32) (v3 : Int32) (v4 : Int32) (h : AHeap) : Option (Int32 × AHeap) :=
  (gfR h v0 0 1).bind fun a3 => (ald 0 h a3 v4).bind fun x4 => some (x4, h)
theorem Book_priceAt_j55_J {E : JE} {l : Launch} {G : GX} {v : Int32} {h' : AHeap} (ok : JOK E l G kBook_priceAt 0 0 (some (.int v)) h') (v0 : Nat) (v1 : Nat) (v2 : Int32) (v3 : Int32) (v4 : Int32) (h : AHeap) : J E kBook_priceAt (Book_priceAt_j55 v0 v1 v2 v3 v4 h) (fun z => z = (v, h')) 55 [some (.ref v0), some (.ref v1), some (.int v2), some (.int v3), some (.int v4)] [] h 0 0 := by
  unfold Book_priceAt_j55
  refine J_aload_n (pc' := 56) ok (dOf dX0_priceAt 31 rfl) rfl rfl rfl ?_
  refine J_getR (ci := 0) (kf := 1) (C := RX0) (T := TX0) (N := 2) (pc' := 59) ok (dOf dX0_priceAt 32 rfl) rfl (by decide) rfl (by decide) win_0 wfl_X0_18 (fun a3 => ?_)
  refine J_iload (pc' := 61) ok (dOf dX0_priceAt 33 rfl) rfl rfl ?_
  refine J_iald (pc' := 62) ok (dOf dX0_priceAt 34 rfl) rfl (fun x4 => ?_)
  exact J_ireturn ok (dOf dX0_priceAt 35 rfl) rfl (Eq.refl 0) (Nat.le_refl 0)
def Book_priceAt_j54 (v0 : Nat) (v1 : Nat) (v2 : Int32) (v3 : Int32) (v4 : Int32) (t0 : Nat) (t1 : Int32) (t2 : Int32) (h : AHeap) : Option (Int32 × AHeap) :=
  (ast 0 h t0 t1 t2).bind fun h12 => Book_priceAt_j55 v0 v1 v2 v3 v4 h12
theorem Book_priceAt_j54_J {E : JE} {l : Launch} {G : GX} {v : Int32} {h' : AHeap} (ok : JOK E l G kBook_priceAt 0 0 (some (.int v)) h') (v0 : Nat) (v1 : Nat) (v2 : Int32) (v3 : Int32) (v4 : Int32) (t0 : Nat) (t1 : Int32) (t2 : Int32) (h : AHeap) : J E kBook_priceAt (Book_priceAt_j54 v0 v1 v2 v3 v4 t0 t1 t2 h) (fun z => z = (v, h')) 54 [some (.ref v0), some (.ref v1), some (.int v2), some (.int v3), some (.int v4)] [.int t2, .int t1, .ref t0] h 0 0 := by
  unfold Book_priceAt_j54
  refine J_iast (pc' := 55) ok (dOf dX0_priceAt 30 rfl) rfl (fun h12 _ => ?_)
  exact Book_priceAt_j55_J ok v0 v1 v2 v3 v4 h12
def Book_priceAt (v0 : Nat) (v1 : Nat) (v2 : Int32) (v3 : Int32) (h : AHeap) : Option (Int32 × AHeap) :=
  (gfR h v0 0 1).bind fun a1 => (ald 0 h a1 ((v2 * 256) + v3)).bind fun x2 => (if ¬ x2 = (-2) then Book_priceAt_j55 v0 v1 v2 v3 ((v2 * 256) + v3) h else (gfR h v0 0 1).bind fun a5 => (gfR h v0 0 0).bind fun a6 => (chk h a6 4).bind fun _ => bnd2 (Frt_lackAt a6 v1 v2 v3 h) fun x8 h7 => (if x8 ≤ 0 then (gfR h7 v0 0 0).bind fun a9 => (chk h7 a9 4).bind fun _ => bnd2 (Frt_costAt a9 v1 v2 v3 h7) fun x11 h10 => Book_priceAt_j54 v0 v1 v2 v3 ((v2 * 256) + v3) a5 ((v2 * 256) + v3) x11 h10 else Book_priceAt_j54 v0 v1 v2 v3 ((v2 * 256) + v3) a5 ((v2 * 256) + v3) (-1) h7))
theorem t_Book_priceAt {l : Launch} {G : GX} {v0 : Nat} {v1 : Nat} {v2 : Int32} {v3 : Int32} {h : AHeap} {v : Int32} {h1 : AHeap} (hf : Book_priceAt v0 v1 v2 v3 h = some (v, h1)) : CT l G kBook_priceAt 0 0 [.ref v0, .ref v1, .int v2, .int v3] h (some (.int v)) h1 := by
  refine CT_of (ls := [some (.ref v0), some (.ref v1), some (.int v2), some (.int v3), none]) (Z := fun z => z = (v, h1)) (by decide +kernel) (Nat.le_of_ble_eq_true rfl) hf rfl ⟨rfl, rfl, rfl, rfl, trivial⟩ (fun E ok => ?_)
  unfold Book_priceAt
  refine J_iload_n (pc' := 1) ok (dOf dX0_priceAt 0 rfl) rfl rfl rfl ?_
  refine J_sipush (v := 256) (pc' := 4) ok (dOf dX0_priceAt 1 rfl) rfl (by decide) ?_
  refine J_imul (pc' := 5) ok (dOf dX0_priceAt 2 rfl) rfl ?_
  refine J_iload_n (pc' := 6) ok (dOf dX0_priceAt 3 rfl) rfl rfl rfl ?_
  refine J_iadd (pc' := 7) ok (dOf dX0_priceAt 4 rfl) rfl ?_
  refine J_istore (ls' := [some (.ref v0), some (.ref v1), some (.int v2), some (.int v3), some (.int ((v2 * 256) + v3))]) (pc' := 9) ok (dOf dX0_priceAt 5 rfl) rfl (Nat.le_of_ble_eq_true rfl) rfl rfl ?_
  refine J_aload_n (pc' := 10) ok (dOf dX0_priceAt 6 rfl) rfl rfl rfl ?_
  refine J_getR (ci := 0) (kf := 1) (C := RX0) (T := TX0) (N := 2) (pc' := 13) ok (dOf dX0_priceAt 7 rfl) rfl (by decide) rfl (by decide) win_0 wfl_X0_18 (fun a1 => ?_)
  refine J_iload (pc' := 15) ok (dOf dX0_priceAt 8 rfl) rfl rfl ?_
  refine J_iald (pc' := 16) ok (dOf dX0_priceAt 9 rfl) rfl (fun x2 => ?_)
  refine J_bipush (v := (-2)) (pc' := 18) ok (dOf dX0_priceAt 10 rfl) rfl (by decide) ?_
  refine J_icmp_ne (tgt := 55) (pc' := 21) ok (dOf dX0_priceAt 11 rfl) rfl (by decide) ?_ ?_
  · exact Book_priceAt_j55_J ok v0 v1 v2 v3 ((v2 * 256) + v3) h
  · refine J_aload_n (pc' := 22) ok (dOf dX0_priceAt 12 rfl) rfl rfl rfl ?_
    refine J_getR (ci := 0) (kf := 1) (C := RX0) (T := TX0) (N := 2) (pc' := 25) ok (dOf dX0_priceAt 13 rfl) rfl (by decide) rfl (by decide) win_0 wfl_X0_18 (fun a5 => ?_)
    refine J_iload (pc' := 27) ok (dOf dX0_priceAt 14 rfl) rfl rfl ?_
    refine J_aload_n (pc' := 28) ok (dOf dX0_priceAt 15 rfl) rfl rfl rfl ?_
    refine J_getR (ci := 0) (kf := 0) (C := RX0) (T := TX0) (N := 2) (pc' := 31) ok (dOf dX0_priceAt 16 rfl) rfl (by decide) rfl (by decide) win_0 wfl_X0_12 (fun a6 => ?_)
    refine J_aload_n (pc' := 32) ok (dOf dX0_priceAt 17 rfl) rfl rfl rfl ?_
    refine J_iload_n (pc' := 33) ok (dOf dX0_priceAt 18 rfl) rfl rfl rfl ?_
    refine J_iload_n (pc' := 34) ok (dOf dX0_priceAt 19 rfl) rfl rfl rfl ?_
    refine J_callVi (k2 := kFrt_lackAt) (ci := 4) (T := TX4) (N := 12) (as := [.ref v1, .int v2, .int v3]) (pc' := 37) ok (dOf dX0_priceAt 20 rfl) rfl (cw_Frt_lackAt (by decide) (by decide)) wml_X0_32 winst_X4_lackAt wsel_X4_lackAt rfl ⟨Nat.le_refl 0, Nat.le_refl 0⟩ (Nat.le_of_ble_eq_true rfl) rfl (fun _ _ hf => t_Frt_lackAt hf) (fun x8 h7 => ?_)
    refine J_if_le (tgt := 44) (pc' := 40) ok (dOf dX0_priceAt 21 rfl) rfl (by decide) ?_ ?_
    · refine J_aload_n (pc' := 45) ok (dOf dX0_priceAt 24 rfl) rfl rfl rfl ?_
      refine J_getR (ci := 0) (kf := 0) (C := RX0) (T := TX0) (N := 2) (pc' := 48) ok (dOf dX0_priceAt 25 rfl) rfl (by decide) rfl (by decide) win_0 wfl_X0_12 (fun a9 => ?_)
      refine J_aload_n (pc' := 49) ok (dOf dX0_priceAt 26 rfl) rfl rfl rfl ?_
      refine J_iload_n (pc' := 50) ok (dOf dX0_priceAt 27 rfl) rfl rfl rfl ?_
      refine J_iload_n (pc' := 51) ok (dOf dX0_priceAt 28 rfl) rfl rfl rfl ?_
      refine J_callVi (k2 := kFrt_costAt) (ci := 4) (T := TX4) (N := 12) (as := [.ref v1, .int v2, .int v3]) (pc' := 54) ok (dOf dX0_priceAt 29 rfl) rfl (cw_Frt_costAt (by decide) (by decide)) wml_X0_36 winst_X4_costAt wsel_X4_costAt rfl ⟨Nat.le_refl 0, Nat.le_refl 0⟩ (Nat.le_of_ble_eq_true rfl) rfl (fun _ _ hf => t_Frt_costAt hf) (fun x11 h10 => ?_)
      exact Book_priceAt_j54_J ok v0 v1 v2 v3 ((v2 * 256) + v3) a5 ((v2 * 256) + v3) x11 h10
    · refine J_iconst (v := (-1)) (pc' := 41) ok (dOf dX0_priceAt 22 rfl) rfl (by decide) ?_
      refine J_goto (tgt := 54) ok (dOf dX0_priceAt 23 rfl) (by decide) ?_
      exact Book_priceAt_j54_J ok v0 v1 v2 v3 ((v2 * 256) + v3) a5 ((v2 * 256) + v3) (-1) h7
-- X2_valueAt
abbrev kCuts_valueAt : Cd := (yX2_valueAt, cX2_valueAt, 6, (some .int), 1, 24)
theorem dX2_valueAt : dcheck cX2_valueAt [(0, .aload_n 0, 1), (1, .aload_n 1, 1), (2, .iload_n 2, 1), (3, .invokevirtual 71, 3), (6, .istore 4, 2), (8, .iconst 0, 1), (9, .istore 5, 2), (11, .iload 5, 2), (13, .aload_n 1, 1), (14, .getfield 54, 3), (17, .if_icmp .ge 29, 3), (20, .iload 4, 2), (22, .iload_n 3, 1), (23, .iload 5, 2), (25, .invokestatic 75, 3), (28, .aload_n 0, 1), (29, .aload_n 1, 1), (30, .iload_n 2, 1), (31, .iload 5, 2), (33, .invokevirtual 78, 3), (36, .imul, 1), (37, .isub, 1), (38, .istore 4, 2), (40, .iinc 5 1, 3), (43, .goto (-32), 3), (46, .iload 4, 2), (48, .ireturn, 1)] = true := by decide +kernel
theorem cw_Cuts_valueAt {k : Cd} (h1 : kCuts_valueAt.2.2.2.2.1 + 1 ≤ k.2.2.2.2.1) (h2 : 8 + (kCuts_valueAt.2.2.1 + 11) + kCuts_valueAt.2.2.2.2.2 ≤ k.2.2.2.2.2) : Cw k kCuts_valueAt 3 := ⟨wcode_X2_valueAt, wini_SplitProgram_Cuts, ⟨by decide, by decide, by decide +kernel⟩, h1, h2⟩
def Cuts_valueAt_b11 (v0 : Nat) (v1 : Nat) (v2 : Int32) (v3 : Int32) (s : Int32 × Int32 × AHeap) : Option ((Int32 × Int32 × AHeap) ⊕ ((Int32 × Int32 × AHeap))) :=
  (gfI s.2.2 v1 6 0).bind fun x3 => (if x3 ≤ s.2.1 then some (Sum.inr (s.1, s.2.1, s.2.2)) else bnd2 (Sp_unitsIn v3 s.2.1 s.2.2) fun x5 h4 => (chk h4 v0 2).bind fun _ => bnd2 (Cuts_slopeOf v0 v1 v2 s.2.1 h4) fun x7 h6 => some (Sum.inl (s.1 - (x5 * x7), s.2.1 + 1, h6)))
theorem Cuts_valueAt_b11_J {E : JE} {l : Launch} {G : GX} {r : Option Value} {h' : AHeap} (ok : JOK E l G kCuts_valueAt 0 0 r h') (v0 : Nat) (v1 : Nat) (v2 : Int32) (v3 : Int32) {Y : (Int32 × Int32 × AHeap) ⊕ ((Int32 × Int32 × AHeap)) → Prop} (k1 : ∀ s' : Int32 × Int32 × AHeap, Y (.inl s') → JW E kCuts_valueAt 11 [some (.ref v0), some (.ref v1), some (.int v2), some (.int v3), some (.int s'.1), some (.int s'.2.1)] [] s'.2.2 0 0) (kx46 : ∀ q : Int32 × Int32 × AHeap, Y (.inr q) → JW E kCuts_valueAt 46 [some (.ref v0), some (.ref v1), some (.int v2), some (.int v3), some (.int q.1), some (.int q.2.1)] [] q.2.2 0 0) (s : Int32 × Int32 × AHeap) : J E kCuts_valueAt (Cuts_valueAt_b11 v0 v1 v2 v3 s) Y 11 [some (.ref v0), some (.ref v1), some (.int v2), some (.int v3), some (.int s.1), some (.int s.2.1)] [] s.2.2 0 0 := by
  unfold Cuts_valueAt_b11
  refine J_iload (pc' := 13) ok (dOf dX2_valueAt 7 rfl) rfl rfl ?_
  refine J_aload_n (pc' := 14) ok (dOf dX2_valueAt 8 rfl) rfl rfl rfl ?_
  refine J_getI (ci := 6) (kf := 0) (C := RX6) (T := TX6) (N := 9) (pc' := 17) ok (dOf dX2_valueAt 9 rfl) rfl (by decide) rfl (by decide) win_6 wfl_X2_54 (fun x3 => ?_)
  refine J_icmp_ge (tgt := 46) (pc' := 20) ok (dOf dX2_valueAt 10 rfl) rfl (by decide) ?_ ?_
  · exact J_fin (kx46 (s.1, s.2.1, s.2.2))
  · refine J_iload (pc' := 22) ok (dOf dX2_valueAt 11 rfl) rfl rfl ?_
    refine J_iload_n (pc' := 23) ok (dOf dX2_valueAt 12 rfl) rfl rfl rfl ?_
    refine J_iload (pc' := 25) ok (dOf dX2_valueAt 13 rfl) rfl rfl ?_
    refine J_callSNi (k2 := kSp_unitsIn) (as := [.int v3, .int s.2.1]) (pc' := 28) ok (dOf dX2_valueAt 14 rfl) rfl (cw_Sp_unitsIn (by decide) (by decide)) wmn_X2_75 wstat_X10_unitsIn ⟨Nat.le_refl 0, Nat.le_refl 0⟩ (Nat.le_of_ble_eq_true rfl) rfl (fun _ _ hf => t_Sp_unitsIn hf) (fun x5 h4 => ?_)
    refine J_aload_n (pc' := 29) ok (dOf dX2_valueAt 15 rfl) rfl rfl rfl ?_
    refine J_aload_n (pc' := 30) ok (dOf dX2_valueAt 16 rfl) rfl rfl rfl ?_
    refine J_iload_n (pc' := 31) ok (dOf dX2_valueAt 17 rfl) rfl rfl rfl ?_
    refine J_iload (pc' := 33) ok (dOf dX2_valueAt 18 rfl) rfl rfl ?_
    refine J_callVi (k2 := kCuts_slopeOf) (ci := 2) (T := TX2) (N := 7) (as := [.ref v1, .int v2, .int s.2.1]) (pc' := 36) ok (dOf dX2_valueAt 19 rfl) rfl (cw_Cuts_slopeOf (by decide) (by decide)) wml_X2_78 winst_X2_slopeOf wsel_X2_slopeOf rfl ⟨Nat.le_refl 0, Nat.le_refl 0⟩ (Nat.le_of_ble_eq_true rfl) rfl (fun _ _ hf => t_Cuts_slopeOf hf) (fun x7 h6 => ?_)
    refine J_imul (pc' := 37) ok (dOf dX2_valueAt 20 rfl) rfl ?_
    refine J_isub (pc' := 38) ok (dOf dX2_valueAt 21 rfl) rfl ?_
    refine J_istore (ls' := [some (.ref v0), some (.ref v1), some (.int v2), some (.int v3), some (.int (s.1 - (x5 * x7))), some (.int s.2.1)]) (pc' := 40) ok (dOf dX2_valueAt 22 rfl) rfl (Nat.le_of_ble_eq_true rfl) rfl rfl ?_
    refine J_iinc (v := s.2.1 + 1) (ls' := [some (.ref v0), some (.ref v1), some (.int v2), some (.int v3), some (.int (s.1 - (x5 * x7))), some (.int (s.2.1 + 1))]) (pc' := 43) ok (dOf dX2_valueAt 23 rfl) rfl rfl (by rfl) (Nat.le_of_ble_eq_true rfl) rfl rfl ?_
    refine J_goto (tgt := 11) ok (dOf dX2_valueAt 24 rfl) (by decide) ?_
    exact J_fin (k1 (s.1 - (x5 * x7), s.2.1 + 1, h6))
def Cuts_valueAt_j46 (v0 : Nat) (v1 : Nat) (v2 : Int32) (v3 : Int32) (v4 : Int32) (v5 : Int32) (h : AHeap) : Option (Int32 × AHeap) :=
  some (v4, h)
theorem Cuts_valueAt_j46_J {E : JE} {l : Launch} {G : GX} {v : Int32} {h' : AHeap} (ok : JOK E l G kCuts_valueAt 0 0 (some (.int v)) h') (v0 : Nat) (v1 : Nat) (v2 : Int32) (v3 : Int32) (v4 : Int32) (v5 : Int32) (h : AHeap) : J E kCuts_valueAt (Cuts_valueAt_j46 v0 v1 v2 v3 v4 v5 h) (fun z => z = (v, h')) 46 [some (.ref v0), some (.ref v1), some (.int v2), some (.int v3), some (.int v4), some (.int v5)] [] h 0 0 := by
  unfold Cuts_valueAt_j46
  refine J_iload (pc' := 48) ok (dOf dX2_valueAt 25 rfl) rfl rfl ?_
  exact J_ireturn ok (dOf dX2_valueAt 26 rfl) rfl (Eq.refl 0) (Nat.le_refl 0)
def Cuts_valueAt (v0 : Nat) (v1 : Nat) (v2 : Int32) (v3 : Int32) (h : AHeap) : Option (Int32 × AHeap) :=
  (chk h v0 2).bind fun _ => bnd2 (Cuts_baseOf v0 v1 v2 h) fun x2 h1 => (iter (Cuts_valueAt_b11 v0 v1 v2 v3) Lmax (x2, 0, h1)).bind (fun (q11 : Int32 × Int32 × AHeap) => Cuts_valueAt_j46 v0 v1 v2 v3 q11.1 q11.2.1 q11.2.2)
theorem t_Cuts_valueAt {l : Launch} {G : GX} {v0 : Nat} {v1 : Nat} {v2 : Int32} {v3 : Int32} {h : AHeap} {v : Int32} {h1 : AHeap} (hf : Cuts_valueAt v0 v1 v2 v3 h = some (v, h1)) : CT l G kCuts_valueAt 0 0 [.ref v0, .ref v1, .int v2, .int v3] h (some (.int v)) h1 := by
  refine CT_of (ls := [some (.ref v0), some (.ref v1), some (.int v2), some (.int v3), none, none]) (Z := fun z => z = (v, h1)) (by decide +kernel) (Nat.le_of_ble_eq_true rfl) hf rfl ⟨rfl, rfl, rfl, rfl, trivial⟩ (fun E ok => ?_)
  unfold Cuts_valueAt
  refine J_aload_n (pc' := 1) ok (dOf dX2_valueAt 0 rfl) rfl rfl rfl ?_
  refine J_aload_n (pc' := 2) ok (dOf dX2_valueAt 1 rfl) rfl rfl rfl ?_
  refine J_iload_n (pc' := 3) ok (dOf dX2_valueAt 2 rfl) rfl rfl rfl ?_
  refine J_callVi (k2 := kCuts_baseOf) (ci := 2) (T := TX2) (N := 7) (as := [.ref v1, .int v2]) (pc' := 6) ok (dOf dX2_valueAt 3 rfl) rfl (cw_Cuts_baseOf (by decide) (by decide)) wml_X2_71 winst_X2_baseOf wsel_X2_baseOf rfl ⟨Nat.le_refl 0, Nat.le_refl 0⟩ (Nat.le_of_ble_eq_true rfl) rfl (fun _ _ hf => t_Cuts_baseOf hf) (fun x2 h1 => ?_)
  refine J_istore (ls' := [some (.ref v0), some (.ref v1), some (.int v2), some (.int v3), some (.int x2), none]) (pc' := 8) ok (dOf dX2_valueAt 4 rfl) rfl (Nat.le_of_ble_eq_true rfl) rfl rfl ?_
  refine J_iconst (v := 0) (pc' := 9) ok (dOf dX2_valueAt 5 rfl) rfl (by decide) ?_
  refine J_istore (ls' := [some (.ref v0), some (.ref v1), some (.int v2), some (.int v3), some (.int x2), some (.int 0)]) (pc' := 11) ok (dOf dX2_valueAt 6 rfl) rfl (Nat.le_of_ble_eq_true rfl) rfl rfl ?_
  refine J_iter (lf := fun z11 => [some (.ref v0), some (.ref v1), some (.int v2), some (.int v3), some (.int z11.1), some (.int z11.2.1)]) (sf := fun _ => []) (hf := fun z11 => z11.2.2) (px := (fun (q11 : Int32 × Int32 × AHeap) => 46)) (lx := (fun (q11 : Int32 × Int32 × AHeap) => [some (.ref v0), some (.ref v1), some (.int v2), some (.int v3), some (.int q11.1), some (.int q11.2.1)])) (sx := (fun (q11 : Int32 × Int32 × AHeap) => [])) (hx := (fun (q11 : Int32 × Int32 × AHeap) => q11.2.2)) (fun Y2 z11 m1 m2 => Cuts_valueAt_b11_J ok v0 v1 v2 v3 m1 m2 z11) (fun q11 => ?_) Lmax _
  exact Cuts_valueAt_j46_J ok v0 v1 v2 v3 q11.1 q11.2.1 q11.2.2
-- X3_findAges
abbrev kEng_findAges : Cd := (yX3_findAges, cX3_findAges, 6, none, 2, 49)
theorem dX3_findAges : dcheck cX3_findAges [(0, .iconst 0, 1), (1, .istore_n 3, 1), (2, .iload_n 3, 1), (3, .aload_n 2, 1), (4, .getfield 94, 3), (7, .if_icmp .ge 86, 3), (10, .aload_n 2, 1), (11, .getfield 99, 3), (14, .iload_n 3, 1), (15, .iaload, 1), (16, .iconst 1, 1), (17, .if_icmp .ne 7, 3), (20, .iconst 0, 1), (21, .goto 14, 3), (24, .aload_n 0, 1), (25, .getfield 29, 3), (28, .aload_n 2, 1), (29, .getfield 102, 3), (32, .iload_n 3, 1), (33, .iaload, 1), (34, .iaload, 1), (35, .istore 4, 2), (37, .aload_n 2, 1), (38, .aload_n 1, 1), (39, .iload_n 3, 1), (40, .aload_n 0, 1), (41, .getfield 61, 3), (44, .invokevirtual 104, 3), (47, .iload 4, 2), (49, .if_icmp .ne 7, 3), (52, .iconst 1, 1), (53, .goto 4, 3), (56, .iconst 0, 1), (57, .istore 5, 2), (59, .aload_n 0, 1), (60, .getfield 36, 3), (63, .iload_n 3, 1), (64, .iload 5, 2), (66, .ifCond .eq 7, 3), (69, .iconst 0, 1), (70, .goto 16, 3), (73, .aload_n 2, 1), (74, .getfield 107, 3), (77, .iload_n 3, 1), (78, .iaload, 1), (79, .iconst 1, 1), (80, .iadd, 1), (81, .bipush 99, 2), (83, .invokestatic 108, 3), (86, .iastore, 1), (87, .iinc 3 1, 3), (90, .goto (-88), 3), (93, .return_, 1)] = true := by decide +kernel
theorem cw_Eng_findAges {k : Cd} (h1 : kEng_findAges.2.2.2.2.1 + 1 ≤ k.2.2.2.2.1) (h2 : 8 + (kEng_findAges.2.2.1 + 11) + kEng_findAges.2.2.2.2.2 ≤ k.2.2.2.2.2) : Cw k kEng_findAges 2 := ⟨wcode_X3_findAges, wini_SplitProgram_Engine, ⟨by decide, by decide, by decide +kernel⟩, h1, h2⟩
def Eng_findAges_j86 (v0 : Nat) (v1 : Nat) (v2 : Nat) (v3 : Int32) (v4 : Int32) (v5 : Int32) (t0 : Nat) (t1 : Int32) (t2 : Int32) (h : AHeap) : Option ((Int32 × AHeap) ⊕ ((Int32 × AHeap))) :=
  (ast 0 h t0 t1 t2).bind fun h14 => some (Sum.inl (v3 + 1, h14))
theorem Eng_findAges_j86_J {E : JE} {l : Launch} {G : GX} {r : Option Value} {h' : AHeap} (ok : JOK E l G kEng_findAges 0 0 r h') (v0 : Nat) (v1 : Nat) (v2 : Nat) (v3 : Int32) (v4 : Int32) (v5 : Int32) (t0 : Nat) (t1 : Int32) (t2 : Int32) (h : AHeap) {Y : (Int32 × AHeap) ⊕ ((Int32 × AHeap)) → Prop} (k1 : ∀ s' : Int32 × AHeap, Y (.inl s') → JW E kEng_findAges 2 [some (.ref v0), some (.ref v1), some (.ref v2), some (.int s'.1), none, none] [] s'.2 0 0) (kx93 : ∀ q : Int32 × AHeap, Y (.inr q) → JW E kEng_findAges 93 [some (.ref v0), some (.ref v1), some (.ref v2), some (.int q.1), none, none] [] q.2 0 0) : J E kEng_findAges (Eng_findAges_j86 v0 v1 v2 v3 v4 v5 t0 t1 t2 h) Y 86 [some (.ref v0), some (.ref v1), some (.ref v2), some (.int v3), some (.int v4), some (.int v5)] [.int t2, .int t1, .ref t0] h 0 0 := by
  unfold Eng_findAges_j86
  refine J_iast (pc' := 87) ok (dOf dX3_findAges 49 rfl) rfl (fun h14 _ => ?_)
  refine J_iinc (v := v3 + 1) (ls' := [some (.ref v0), some (.ref v1), some (.ref v2), some (.int (v3 + 1)), some (.int v4), some (.int v5)]) (pc' := 90) ok (dOf dX3_findAges 50 rfl) rfl rfl (by rfl) (Nat.le_of_ble_eq_true rfl) rfl rfl ?_
  refine J_goto (tgt := 2) ok (dOf dX3_findAges 51 rfl) (by decide) ?_
  refine J_weak (ls' := [some (.ref v0), some (.ref v1), some (.ref v2), some (.int (v3 + 1)), none, none]) ⟨rfl, rfl, rfl, rfl, trivial⟩ ?_
  exact J_fin (k1 (v3 + 1, h14))
def Eng_findAges_j57 (v0 : Nat) (v1 : Nat) (v2 : Nat) (v3 : Int32) (v4 : Int32) (t0 : Int32) (h : AHeap) : Option ((Int32 × AHeap) ⊕ ((Int32 × AHeap))) :=
  (gfR h v0 3 5).bind fun a11 => (if t0 = 0 then (gfR h v2 2 4).bind fun a12 => (ald 0 h a12 v3).bind fun x13 => Eng_findAges_j86 v0 v1 v2 v3 v4 t0 a11 v3 (if 99 < (x13 + 1) then 99 else (x13 + 1)) h else Eng_findAges_j86 v0 v1 v2 v3 v4 t0 a11 v3 0 h)
theorem Eng_findAges_j57_J {E : JE} {l : Launch} {G : GX} {r : Option Value} {h' : AHeap} (ok : JOK E l G kEng_findAges 0 0 r h') (v0 : Nat) (v1 : Nat) (v2 : Nat) (v3 : Int32) (v4 : Int32) (t0 : Int32) (h : AHeap) {Y : (Int32 × AHeap) ⊕ ((Int32 × AHeap)) → Prop} (k1 : ∀ s' : Int32 × AHeap, Y (.inl s') → JW E kEng_findAges 2 [some (.ref v0), some (.ref v1), some (.ref v2), some (.int s'.1), none, none] [] s'.2 0 0) (kx93 : ∀ q : Int32 × AHeap, Y (.inr q) → JW E kEng_findAges 93 [some (.ref v0), some (.ref v1), some (.ref v2), some (.int q.1), none, none] [] q.2 0 0) : J E kEng_findAges (Eng_findAges_j57 v0 v1 v2 v3 v4 t0 h) Y 57 [some (.ref v0), some (.ref v1), some (.ref v2), some (.int v3), some (.int v4), none] [.int t0] h 0 0 := by
  unfold Eng_findAges_j57
  refine J_istore (ls' := [some (.ref v0), some (.ref v1), some (.ref v2), some (.int v3), some (.int v4), some (.int t0)]) (pc' := 59) ok (dOf dX3_findAges 33 rfl) rfl (Nat.le_of_ble_eq_true rfl) rfl rfl ?_
  refine J_aload_n (pc' := 60) ok (dOf dX3_findAges 34 rfl) rfl rfl rfl ?_
  refine J_getR (ci := 3) (kf := 5) (C := RX3) (T := TX3) (N := 12) (pc' := 63) ok (dOf dX3_findAges 35 rfl) rfl (by decide) rfl (by decide) win_3 wfl_X3_36 (fun a11 => ?_)
  refine J_iload_n (pc' := 64) ok (dOf dX3_findAges 36 rfl) rfl rfl rfl ?_
  refine J_iload (pc' := 66) ok (dOf dX3_findAges 37 rfl) rfl rfl ?_
  refine J_if_eq (tgt := 73) (pc' := 69) ok (dOf dX3_findAges 38 rfl) rfl (by decide) ?_ ?_
  · refine J_aload_n (pc' := 74) ok (dOf dX3_findAges 41 rfl) rfl rfl rfl ?_
    refine J_getR (ci := 2) (kf := 4) (C := RX2) (T := TX2) (N := 7) (pc' := 77) ok (dOf dX3_findAges 42 rfl) rfl (by decide) rfl (by decide) win_2 wfl_X3_107 (fun a12 => ?_)
    refine J_iload_n (pc' := 78) ok (dOf dX3_findAges 43 rfl) rfl rfl rfl ?_
    refine J_iald (pc' := 79) ok (dOf dX3_findAges 44 rfl) rfl (fun x13 => ?_)
    refine J_iconst (v := 1) (pc' := 80) ok (dOf dX3_findAges 45 rfl) rfl (by decide) ?_
    refine J_iadd (pc' := 81) ok (dOf dX3_findAges 46 rfl) rfl ?_
    refine J_bipush (v := 99) (pc' := 83) ok (dOf dX3_findAges 47 rfl) rfl (by decide) ?_
    refine J_mmin (pc' := 86) ok (dOf dX3_findAges 48 rfl) rfl wml_X3_108 wstat_J9_min_7cf53 wini_java_lang_Math wcode_J9_min_7cf53 (Nat.le_of_ble_eq_true rfl) (Nat.le_of_ble_eq_true rfl) (Nat.le_refl 0) (Nat.le_refl 0) ?_
    exact Eng_findAges_j86_J ok v0 v1 v2 v3 v4 t0 a11 v3 (if 99 < (x13 + 1) then 99 else (x13 + 1)) h k1 kx93
  · refine J_iconst (v := 0) (pc' := 70) ok (dOf dX3_findAges 39 rfl) rfl (by decide) ?_
    refine J_goto (tgt := 86) ok (dOf dX3_findAges 40 rfl) (by decide) ?_
    exact Eng_findAges_j86_J ok v0 v1 v2 v3 v4 t0 a11 v3 0 h k1 kx93
def Eng_findAges_j35 (v0 : Nat) (v1 : Nat) (v2 : Nat) (v3 : Int32) (t0 : Int32) (h : AHeap) : Option ((Int32 × AHeap) ⊕ ((Int32 × AHeap))) :=
  (gfI h v0 3 6).bind fun x8 => (chk h v2 2).bind fun _ => bnd2 (Cuts_valueAt v2 v1 v3 x8 h) fun x10 h9 => (if ¬ x10 = t0 then Eng_findAges_j57 v0 v1 v2 v3 t0 0 h9 else Eng_findAges_j57 v0 v1 v2 v3 t0 1 h9)
theorem Eng_findAges_j35_J {E : JE} {l : Launch} {G : GX} {r : Option Value} {h' : AHeap} (ok : JOK E l G kEng_findAges 0 0 r h') (v0 : Nat) (v1 : Nat) (v2 : Nat) (v3 : Int32) (t0 : Int32) (h : AHeap) {Y : (Int32 × AHeap) ⊕ ((Int32 × AHeap)) → Prop} (k1 : ∀ s' : Int32 × AHeap, Y (.inl s') → JW E kEng_findAges 2 [some (.ref v0), some (.ref v1), some (.ref v2), some (.int s'.1), none, none] [] s'.2 0 0) (kx93 : ∀ q : Int32 × AHeap, Y (.inr q) → JW E kEng_findAges 93 [some (.ref v0), some (.ref v1), some (.ref v2), some (.int q.1), none, none] [] q.2 0 0) : J E kEng_findAges (Eng_findAges_j35 v0 v1 v2 v3 t0 h) Y 35 [some (.ref v0), some (.ref v1), some (.ref v2), some (.int v3), none, none] [.int t0] h 0 0 := by
  unfold Eng_findAges_j35
  refine J_istore (ls' := [some (.ref v0), some (.ref v1), some (.ref v2), some (.int v3), some (.int t0), none]) (pc' := 37) ok (dOf dX3_findAges 21 rfl) rfl (Nat.le_of_ble_eq_true rfl) rfl rfl ?_
  refine J_aload_n (pc' := 38) ok (dOf dX3_findAges 22 rfl) rfl rfl rfl ?_
  refine J_aload_n (pc' := 39) ok (dOf dX3_findAges 23 rfl) rfl rfl rfl ?_
  refine J_iload_n (pc' := 40) ok (dOf dX3_findAges 24 rfl) rfl rfl rfl ?_
  refine J_aload_n (pc' := 41) ok (dOf dX3_findAges 25 rfl) rfl rfl rfl ?_
  refine J_getI (ci := 3) (kf := 6) (C := RX3) (T := TX3) (N := 12) (pc' := 44) ok (dOf dX3_findAges 26 rfl) rfl (by decide) rfl (by decide) win_3 wfl_X3_61 (fun x8 => ?_)
  refine J_callVi (k2 := kCuts_valueAt) (ci := 2) (T := TX2) (N := 7) (as := [.ref v1, .int v3, .int x8]) (pc' := 47) ok (dOf dX3_findAges 27 rfl) rfl (cw_Cuts_valueAt (by decide) (by decide)) wml_X3_104 winst_X2_valueAt wsel_X2_valueAt rfl ⟨Nat.le_refl 0, Nat.le_refl 0⟩ (Nat.le_of_ble_eq_true rfl) rfl (fun _ _ hf => t_Cuts_valueAt hf) (fun x10 h9 => ?_)
  refine J_iload (pc' := 49) ok (dOf dX3_findAges 28 rfl) rfl rfl ?_
  refine J_icmp_ne (tgt := 56) (pc' := 52) ok (dOf dX3_findAges 29 rfl) rfl (by decide) ?_ ?_
  · refine J_iconst (v := 0) (pc' := 57) ok (dOf dX3_findAges 32 rfl) rfl (by decide) ?_
    exact Eng_findAges_j57_J ok v0 v1 v2 v3 t0 0 h9 k1 kx93
  · refine J_iconst (v := 1) (pc' := 53) ok (dOf dX3_findAges 30 rfl) rfl (by decide) ?_
    refine J_goto (tgt := 57) ok (dOf dX3_findAges 31 rfl) (by decide) ?_
    exact Eng_findAges_j57_J ok v0 v1 v2 v3 t0 1 h9 k1 kx93
def Eng_findAges_b2 (v0 : Nat) (v1 : Nat) (v2 : Nat) (s : Int32 × AHeap) : Option ((Int32 × AHeap) ⊕ ((Int32 × AHeap))) :=
  (gfI s.2 v2 2 1).bind fun x1 => (if x1 ≤ s.1 then some (Sum.inr (s.1, s.2)) else (gfR s.2 v2 2 3).bind fun a2 => (ald 0 s.2 a2 s.1).bind fun x3 => (if ¬ x3 = 1 then (gfR s.2 v0 3 3).bind fun a4 => (gfR s.2 v2 2 2).bind fun a5 => (ald 0 s.2 a5 s.1).bind fun x6 => (ald 0 s.2 a4 x6).bind fun x7 => Eng_findAges_j35 v0 v1 v2 s.1 x7 s.2 else Eng_findAges_j35 v0 v1 v2 s.1 0 s.2))
theorem Eng_findAges_b2_J {E : JE} {l : Launch} {G : GX} {r : Option Value} {h' : AHeap} (ok : JOK E l G kEng_findAges 0 0 r h') (v0 : Nat) (v1 : Nat) (v2 : Nat) {Y : (Int32 × AHeap) ⊕ ((Int32 × AHeap)) → Prop} (k1 : ∀ s' : Int32 × AHeap, Y (.inl s') → JW E kEng_findAges 2 [some (.ref v0), some (.ref v1), some (.ref v2), some (.int s'.1), none, none] [] s'.2 0 0) (kx93 : ∀ q : Int32 × AHeap, Y (.inr q) → JW E kEng_findAges 93 [some (.ref v0), some (.ref v1), some (.ref v2), some (.int q.1), none, none] [] q.2 0 0) (s : Int32 × AHeap) : J E kEng_findAges (Eng_findAges_b2 v0 v1 v2 s) Y 2 [some (.ref v0), some (.ref v1), some (.ref v2), some (.int s.1), none, none] [] s.2 0 0 := by
  unfold Eng_findAges_b2
  refine J_iload_n (pc' := 3) ok (dOf dX3_findAges 2 rfl) rfl rfl rfl ?_
  refine J_aload_n (pc' := 4) ok (dOf dX3_findAges 3 rfl) rfl rfl rfl ?_
  refine J_getI (ci := 2) (kf := 1) (C := RX2) (T := TX2) (N := 7) (pc' := 7) ok (dOf dX3_findAges 4 rfl) rfl (by decide) rfl (by decide) win_2 wfl_X3_94 (fun x1 => ?_)
  refine J_icmp_ge (tgt := 93) (pc' := 10) ok (dOf dX3_findAges 5 rfl) rfl (by decide) ?_ ?_
  · exact J_fin (kx93 (s.1, s.2))
  · refine J_aload_n (pc' := 11) ok (dOf dX3_findAges 6 rfl) rfl rfl rfl ?_
    refine J_getR (ci := 2) (kf := 3) (C := RX2) (T := TX2) (N := 7) (pc' := 14) ok (dOf dX3_findAges 7 rfl) rfl (by decide) rfl (by decide) win_2 wfl_X3_99 (fun a2 => ?_)
    refine J_iload_n (pc' := 15) ok (dOf dX3_findAges 8 rfl) rfl rfl rfl ?_
    refine J_iald (pc' := 16) ok (dOf dX3_findAges 9 rfl) rfl (fun x3 => ?_)
    refine J_iconst (v := 1) (pc' := 17) ok (dOf dX3_findAges 10 rfl) rfl (by decide) ?_
    refine J_icmp_ne (tgt := 24) (pc' := 20) ok (dOf dX3_findAges 11 rfl) rfl (by decide) ?_ ?_
    · refine J_aload_n (pc' := 25) ok (dOf dX3_findAges 14 rfl) rfl rfl rfl ?_
      refine J_getR (ci := 3) (kf := 3) (C := RX3) (T := TX3) (N := 12) (pc' := 28) ok (dOf dX3_findAges 15 rfl) rfl (by decide) rfl (by decide) win_3 wfl_X3_29 (fun a4 => ?_)
      refine J_aload_n (pc' := 29) ok (dOf dX3_findAges 16 rfl) rfl rfl rfl ?_
      refine J_getR (ci := 2) (kf := 2) (C := RX2) (T := TX2) (N := 7) (pc' := 32) ok (dOf dX3_findAges 17 rfl) rfl (by decide) rfl (by decide) win_2 wfl_X3_102 (fun a5 => ?_)
      refine J_iload_n (pc' := 33) ok (dOf dX3_findAges 18 rfl) rfl rfl rfl ?_
      refine J_iald (pc' := 34) ok (dOf dX3_findAges 19 rfl) rfl (fun x6 => ?_)
      refine J_iald (pc' := 35) ok (dOf dX3_findAges 20 rfl) rfl (fun x7 => ?_)
      exact Eng_findAges_j35_J ok v0 v1 v2 s.1 x7 s.2 k1 kx93
    · refine J_iconst (v := 0) (pc' := 21) ok (dOf dX3_findAges 12 rfl) rfl (by decide) ?_
      refine J_goto (tgt := 35) ok (dOf dX3_findAges 13 rfl) (by decide) ?_
      exact Eng_findAges_j35_J ok v0 v1 v2 s.1 0 s.2 k1 kx93
def Eng_findAges_j93 (v0 : Nat) (v1 : Nat) (v2 : Nat) (v3 : Int32) (h : AHeap) : Option (Unit × AHeap) :=
  some ((), h)
theorem Eng_findAges_j93_J {E : JE} {l : Launch} {G : GX} {h' : AHeap} (ok : JOK E l G kEng_findAges 0 0 none h') (v0 : Nat) (v1 : Nat) (v2 : Nat) (v3 : Int32) (h : AHeap) : J E kEng_findAges (Eng_findAges_j93 v0 v1 v2 v3 h) (fun z => z = ((), h')) 93 [some (.ref v0), some (.ref v1), some (.ref v2), some (.int v3), none, none] [] h 0 0 := by
  unfold Eng_findAges_j93
  exact J_vreturn ok (dOf dX3_findAges 52 rfl) rfl (Eq.refl 0) (Nat.le_refl 0)
def Eng_findAges (v0 : Nat) (v1 : Nat) (v2 : Nat) (h : AHeap) : Option (Unit × AHeap) :=
  (iter (Eng_findAges_b2 v0 v1 v2) Lmax (0, h)).bind (fun (q2 : Int32 × AHeap) => Eng_findAges_j93 v0 v1 v2 q2.1 q2.2)
theorem t_Eng_findAges {l : Launch} {G : GX} {v0 : Nat} {v1 : Nat} {v2 : Nat} {h : AHeap} {h1 : AHeap} (hf : Eng_findAges v0 v1 v2 h = some ((), h1)) : CT l G kEng_findAges 0 0 [.ref v0, .ref v1, .ref v2] h none h1 := by
  refine CT_of (ls := [some (.ref v0), some (.ref v1), some (.ref v2), none, none, none]) (Z := fun z => z = ((), h1)) (by decide +kernel) (Nat.le_of_ble_eq_true rfl) hf rfl ⟨rfl, rfl, rfl, trivial⟩ (fun E ok => ?_)
  unfold Eng_findAges
  refine J_iconst (v := 0) (pc' := 1) ok (dOf dX3_findAges 0 rfl) rfl (by decide) ?_
  refine J_istore_n (ls' := [some (.ref v0), some (.ref v1), some (.ref v2), some (.int 0), none, none]) (pc' := 2) ok (dOf dX3_findAges 1 rfl) rfl rfl (Nat.le_of_ble_eq_true rfl) rfl rfl ?_
  refine J_iter (lf := fun z2 => [some (.ref v0), some (.ref v1), some (.ref v2), some (.int z2.1), none, none]) (sf := fun _ => []) (hf := fun z2 => z2.2) (px := (fun (q2 : Int32 × AHeap) => 93)) (lx := (fun (q2 : Int32 × AHeap) => [some (.ref v0), some (.ref v1), some (.ref v2), some (.int q2.1), none, none])) (sx := (fun (q2 : Int32 × AHeap) => [])) (hx := (fun (q2 : Int32 × AHeap) => q2.2)) (fun Y2 z2 m1 m2 => Eng_findAges_b2_J ok v0 v1 v2 m1 m2 z2) (fun q2 => ?_) Lmax _
  exact Eng_findAges_j93_J ok v0 v1 v2 q2.1 q2.2
-- X3_masterTotal
abbrev kEng_masterTotal : Cd := (yX3_masterTotal, cX3_masterTotal, 4, (some .int), 2, 44)
theorem dX3_masterTotal : dcheck cX3_masterTotal [(0, .aload_n 1, 1), (1, .aload_n 0, 1), (2, .getfield 61, 3), (5, .invokevirtual 136, 3), (8, .istore_n 2, 1), (9, .iconst 0, 1), (10, .istore_n 3, 1), (11, .iload_n 3, 1), (12, .aload_n 1, 1), (13, .getfield 65, 3), (16, .if_icmp .ge 37, 3), (19, .aload_n 0, 1), (20, .getfield 25, 3), (23, .iload_n 3, 1), (24, .iaload, 1), (25, .iconst (-1), 1), (26, .if_icmp .ne 5, 3), (29, .iconst (-1), 1), (30, .ireturn, 1), (31, .iload_n 2, 1), (32, .aload_n 1, 1), (33, .getfield 139, 3), (36, .iload_n 3, 1), (37, .iaload, 1), (38, .aload_n 0, 1), (39, .getfield 25, 3), (42, .iload_n 3, 1), (43, .iaload, 1), (44, .imul, 1), (45, .iadd, 1), (46, .istore_n 2, 1), (47, .iinc 3 1, 3), (50, .goto (-39), 3), (53, .iload_n 2, 1), (54, .ireturn, 1)] = true := by decide +kernel
theorem cw_Eng_masterTotal {k : Cd} (h1 : kEng_masterTotal.2.2.2.2.1 + 1 ≤ k.2.2.2.2.1) (h2 : 8 + (kEng_masterTotal.2.2.1 + 11) + kEng_masterTotal.2.2.2.2.2 ≤ k.2.2.2.2.2) : Cw k kEng_masterTotal 1 := ⟨wcode_X3_masterTotal, wini_SplitProgram_Engine, ⟨by decide, by decide, by decide +kernel⟩, h1, h2⟩
def Eng_masterTotal_b11 (v0 : Nat) (v1 : Nat) (h : AHeap) (s : Int32 × Int32) : Option ((Int32 × Int32) ⊕ ((Int32 × Int32) ⊕ (Int32 × Int32))) :=
  (gfI h v1 6 2).bind fun x4 => (if x4 ≤ s.2 then some (Sum.inr (Sum.inr (s.1, s.2))) else (gfR h v0 3 2).bind fun a5 => (ald 0 h a5 s.2).bind fun x6 => (if ¬ x6 = (-1) then (gfR h v1 6 7).bind fun a7 => (ald 0 h a7 s.2).bind fun x8 => (gfR h v0 3 2).bind fun a9 => (ald 0 h a9 s.2).bind fun x10 => some (Sum.inl (s.1 + (x8 * x10), s.2 + 1)) else some (Sum.inr (Sum.inl (s.1, s.2)))))
theorem Eng_masterTotal_b11_J {E : JE} {l : Launch} {G : GX} {r : Option Value} {h' : AHeap} (ok : JOK E l G kEng_masterTotal 0 0 r h') (v0 : Nat) (v1 : Nat) (h : AHeap) {Y : (Int32 × Int32) ⊕ ((Int32 × Int32) ⊕ (Int32 × Int32)) → Prop} (k1 : ∀ s' : Int32 × Int32, Y (.inl s') → JW E kEng_masterTotal 11 [some (.ref v0), some (.ref v1), some (.int s'.1), some (.int s'.2)] [] h 0 0) (kx29 : ∀ q : Int32 × Int32, Y (.inr (Sum.inl q)) → JW E kEng_masterTotal 29 [some (.ref v0), some (.ref v1), some (.int q.1), some (.int q.2)] [] h 0 0) (kx53 : ∀ q : Int32 × Int32, Y (.inr (Sum.inr q)) → JW E kEng_masterTotal 53 [some (.ref v0), some (.ref v1), some (.int q.1), some (.int q.2)] [] h 0 0) (s : Int32 × Int32) : J E kEng_masterTotal (Eng_masterTotal_b11 v0 v1 h s) Y 11 [some (.ref v0), some (.ref v1), some (.int s.1), some (.int s.2)] [] h 0 0 := by
  unfold Eng_masterTotal_b11
  refine J_iload_n (pc' := 12) ok (dOf dX3_masterTotal 7 rfl) rfl rfl rfl ?_
  refine J_aload_n (pc' := 13) ok (dOf dX3_masterTotal 8 rfl) rfl rfl rfl ?_
  refine J_getI (ci := 6) (kf := 2) (C := RX6) (T := TX6) (N := 9) (pc' := 16) ok (dOf dX3_masterTotal 9 rfl) rfl (by decide) rfl (by decide) win_6 wfl_X3_65 (fun x4 => ?_)
  refine J_icmp_ge (tgt := 53) (pc' := 19) ok (dOf dX3_masterTotal 10 rfl) rfl (by decide) ?_ ?_
  · exact J_fin (kx53 (s.1, s.2))
  · refine J_aload_n (pc' := 20) ok (dOf dX3_masterTotal 11 rfl) rfl rfl rfl ?_
    refine J_getR (ci := 3) (kf := 2) (C := RX3) (T := TX3) (N := 12) (pc' := 23) ok (dOf dX3_masterTotal 12 rfl) rfl (by decide) rfl (by decide) win_3 wfl_X3_25 (fun a5 => ?_)
    refine J_iload_n (pc' := 24) ok (dOf dX3_masterTotal 13 rfl) rfl rfl rfl ?_
    refine J_iald (pc' := 25) ok (dOf dX3_masterTotal 14 rfl) rfl (fun x6 => ?_)
    refine J_iconst (v := (-1)) (pc' := 26) ok (dOf dX3_masterTotal 15 rfl) rfl (by decide) ?_
    refine J_icmp_ne (tgt := 31) (pc' := 29) ok (dOf dX3_masterTotal 16 rfl) rfl (by decide) ?_ ?_
    · refine J_iload_n (pc' := 32) ok (dOf dX3_masterTotal 19 rfl) rfl rfl rfl ?_
      refine J_aload_n (pc' := 33) ok (dOf dX3_masterTotal 20 rfl) rfl rfl rfl ?_
      refine J_getR (ci := 6) (kf := 7) (C := RX6) (T := TX6) (N := 9) (pc' := 36) ok (dOf dX3_masterTotal 21 rfl) rfl (by decide) rfl (by decide) win_6 wfl_X3_139 (fun a7 => ?_)
      refine J_iload_n (pc' := 37) ok (dOf dX3_masterTotal 22 rfl) rfl rfl rfl ?_
      refine J_iald (pc' := 38) ok (dOf dX3_masterTotal 23 rfl) rfl (fun x8 => ?_)
      refine J_aload_n (pc' := 39) ok (dOf dX3_masterTotal 24 rfl) rfl rfl rfl ?_
      refine J_getR (ci := 3) (kf := 2) (C := RX3) (T := TX3) (N := 12) (pc' := 42) ok (dOf dX3_masterTotal 25 rfl) rfl (by decide) rfl (by decide) win_3 wfl_X3_25 (fun a9 => ?_)
      refine J_iload_n (pc' := 43) ok (dOf dX3_masterTotal 26 rfl) rfl rfl rfl ?_
      refine J_iald (pc' := 44) ok (dOf dX3_masterTotal 27 rfl) rfl (fun x10 => ?_)
      refine J_imul (pc' := 45) ok (dOf dX3_masterTotal 28 rfl) rfl ?_
      refine J_iadd (pc' := 46) ok (dOf dX3_masterTotal 29 rfl) rfl ?_
      refine J_istore_n (ls' := [some (.ref v0), some (.ref v1), some (.int (s.1 + (x8 * x10))), some (.int s.2)]) (pc' := 47) ok (dOf dX3_masterTotal 30 rfl) rfl rfl (Nat.le_of_ble_eq_true rfl) rfl rfl ?_
      refine J_iinc (v := s.2 + 1) (ls' := [some (.ref v0), some (.ref v1), some (.int (s.1 + (x8 * x10))), some (.int (s.2 + 1))]) (pc' := 50) ok (dOf dX3_masterTotal 31 rfl) rfl rfl (by rfl) (Nat.le_of_ble_eq_true rfl) rfl rfl ?_
      refine J_goto (tgt := 11) ok (dOf dX3_masterTotal 32 rfl) (by decide) ?_
      exact J_fin (k1 (s.1 + (x8 * x10), s.2 + 1))
    · exact J_fin (kx29 (s.1, s.2))
def Eng_masterTotal_j29 (v0 : Nat) (v1 : Nat) (v2 : Int32) (v3 : Int32) (h : AHeap) : Option (Int32 × AHeap) :=
  some ((-1), h)
theorem Eng_masterTotal_j29_J {E : JE} {l : Launch} {G : GX} {v : Int32} {h' : AHeap} (ok : JOK E l G kEng_masterTotal 0 0 (some (.int v)) h') (v0 : Nat) (v1 : Nat) (v2 : Int32) (v3 : Int32) (h : AHeap) : J E kEng_masterTotal (Eng_masterTotal_j29 v0 v1 v2 v3 h) (fun z => z = (v, h')) 29 [some (.ref v0), some (.ref v1), some (.int v2), some (.int v3)] [] h 0 0 := by
  unfold Eng_masterTotal_j29
  refine J_iconst (v := (-1)) (pc' := 30) ok (dOf dX3_masterTotal 17 rfl) rfl (by decide) ?_
  exact J_ireturn ok (dOf dX3_masterTotal 18 rfl) rfl (Eq.refl 0) (Nat.le_refl 0)
def Eng_masterTotal_j53 (v0 : Nat) (v1 : Nat) (v2 : Int32) (v3 : Int32) (h : AHeap) : Option (Int32 × AHeap) :=
  some (v2, h)
theorem Eng_masterTotal_j53_J {E : JE} {l : Launch} {G : GX} {v : Int32} {h' : AHeap} (ok : JOK E l G kEng_masterTotal 0 0 (some (.int v)) h') (v0 : Nat) (v1 : Nat) (v2 : Int32) (v3 : Int32) (h : AHeap) : J E kEng_masterTotal (Eng_masterTotal_j53 v0 v1 v2 v3 h) (fun z => z = (v, h')) 53 [some (.ref v0), some (.ref v1), some (.int v2), some (.int v3)] [] h 0 0 := by
  unfold Eng_masterTotal_j53
  refine J_iload_n (pc' := 54) ok (dOf dX3_masterTotal 33 rfl) rfl rfl rfl ?_
  exact J_ireturn ok (dOf dX3_masterTotal 34 rfl) rfl (Eq.refl 0) (Nat.le_refl 0)
def Eng_masterTotal (v0 : Nat) (v1 : Nat) (h : AHeap) : Option (Int32 × AHeap) :=
  (gfI h v0 3 6).bind fun x1 => (chk h v1 6).bind fun _ => bnd2 (Prog_feesOf v1 x1 h) fun x3 h2 => (iter (Eng_masterTotal_b11 v0 v1 h2) Lmax (x3, 0)).bind (Sum.elim (fun (q11 : Int32 × Int32) => Eng_masterTotal_j29 v0 v1 q11.1 q11.2 h2) (fun (q11 : Int32 × Int32) => Eng_masterTotal_j53 v0 v1 q11.1 q11.2 h2))
theorem t_Eng_masterTotal {l : Launch} {G : GX} {v0 : Nat} {v1 : Nat} {h : AHeap} {v : Int32} {h1 : AHeap} (hf : Eng_masterTotal v0 v1 h = some (v, h1)) : CT l G kEng_masterTotal 0 0 [.ref v0, .ref v1] h (some (.int v)) h1 := by
  refine CT_of (ls := [some (.ref v0), some (.ref v1), none, none]) (Z := fun z => z = (v, h1)) (by decide +kernel) (Nat.le_of_ble_eq_true rfl) hf rfl ⟨rfl, rfl, trivial⟩ (fun E ok => ?_)
  unfold Eng_masterTotal
  refine J_aload_n (pc' := 1) ok (dOf dX3_masterTotal 0 rfl) rfl rfl rfl ?_
  refine J_aload_n (pc' := 2) ok (dOf dX3_masterTotal 1 rfl) rfl rfl rfl ?_
  refine J_getI (ci := 3) (kf := 6) (C := RX3) (T := TX3) (N := 12) (pc' := 5) ok (dOf dX3_masterTotal 2 rfl) rfl (by decide) rfl (by decide) win_3 wfl_X3_61 (fun x1 => ?_)
  refine J_callVi (k2 := kProg_feesOf) (ci := 6) (T := TX6) (N := 9) (as := [.int x1]) (pc' := 8) ok (dOf dX3_masterTotal 3 rfl) rfl (cw_Prog_feesOf (by decide) (by decide)) wml_X3_136 winst_X6_feesOf wsel_X6_feesOf rfl ⟨Nat.le_refl 0, Nat.le_refl 0⟩ (Nat.le_of_ble_eq_true rfl) rfl (fun _ _ hf => t_Prog_feesOf hf) (fun x3 h2 => ?_)
  refine J_istore_n (ls' := [some (.ref v0), some (.ref v1), some (.int x3), none]) (pc' := 9) ok (dOf dX3_masterTotal 4 rfl) rfl rfl (Nat.le_of_ble_eq_true rfl) rfl rfl ?_
  refine J_iconst (v := 0) (pc' := 10) ok (dOf dX3_masterTotal 5 rfl) rfl (by decide) ?_
  refine J_istore_n (ls' := [some (.ref v0), some (.ref v1), some (.int x3), some (.int 0)]) (pc' := 11) ok (dOf dX3_masterTotal 6 rfl) rfl rfl (Nat.le_of_ble_eq_true rfl) rfl rfl ?_
  refine J_iter (lf := fun z11 => [some (.ref v0), some (.ref v1), some (.int z11.1), some (.int z11.2)]) (sf := fun _ => []) (hf := fun z11 => h2) (px := (Sum.elim (fun (q11 : Int32 × Int32) => 29) (fun (q11 : Int32 × Int32) => 53))) (lx := (Sum.elim (fun (q11 : Int32 × Int32) => [some (.ref v0), some (.ref v1), some (.int q11.1), some (.int q11.2)]) (fun (q11 : Int32 × Int32) => [some (.ref v0), some (.ref v1), some (.int q11.1), some (.int q11.2)]))) (sx := (Sum.elim (fun (q11 : Int32 × Int32) => []) (fun (q11 : Int32 × Int32) => []))) (hx := (Sum.elim (fun (q11 : Int32 × Int32) => h2) (fun (q11 : Int32 × Int32) => h2))) (fun Y2 z11 m1 m2 => Eng_masterTotal_b11_J ok v0 v1 h2 m1 (fun q hq => m2 (Sum.inl q) hq) (fun q hq => m2 (Sum.inr q) hq) z11) (fun q11 => ?_) Lmax _
  rcases q11 with q11 | q11
  · show J E kEng_masterTotal (Eng_masterTotal_j29 v0 v1 q11.1 q11.2 h2) _ 29 [some (.ref v0), some (.ref v1), some (.int q11.1), some (.int q11.2)] [] h2 0 0
    exact Eng_masterTotal_j29_J ok v0 v1 q11.1 q11.2 h2
  · show J E kEng_masterTotal (Eng_masterTotal_j53 v0 v1 q11.1 q11.2 h2) _ 53 [some (.ref v0), some (.ref v1), some (.int q11.1), some (.int q11.2)] [] h2 0 0
    exact Eng_masterTotal_j53_J ok v0 v1 q11.1 q11.2 h2
-- X3_moveBounds
abbrev kEng_moveBounds : Cd := (yX3_moveBounds, cX3_moveBounds, 6, none, 3, 68)
theorem dX3_moveBounds : dcheck cX3_moveBounds [(0, .aload_n 0, 1), (1, .getfield 21, 3), (4, .aload_n 1, 1), (5, .aload_n 0, 1), (6, .getfield 61, 3), (9, .invokevirtual 114, 3), (12, .istore_n 3, 1), (13, .aload_n 0, 1), (14, .aload_n 2, 1), (15, .getfield 117, 3), (18, .iconst (-1), 1), (19, .if_icmp .eq 11, 3), (22, .iload_n 3, 1), (23, .aload_n 2, 1), (24, .getfield 117, 3), (27, .if_icmp .le 7, 3), (30, .iconst 1, 1), (31, .goto 4, 3), (34, .iconst 0, 1), (35, .putfield 120, 3), (38, .aload_n 0, 1), (39, .aload_n 0, 1), (40, .getfield 120, 3), (43, .ifCond .eq 7, 3), (46, .iload_n 3, 1), (47, .goto 7, 3), (50, .aload_n 2, 1), (51, .getfield 117, 3), (54, .putfield 124, 3), (57, .aload_n 0, 1), (58, .aload_n 1, 1), (59, .invokevirtual 125, 3), (62, .istore 4, 2), (64, .iload 4, 2), (66, .iconst (-1), 1), (67, .if_icmp .eq 24, 3), (70, .aload_n 2, 1), (71, .getfield 128, 3), (74, .iconst (-1), 1), (75, .if_icmp .eq 12, 3), (78, .iload 4, 2), (80, .aload_n 2, 1), (81, .getfield 128, 3), (84, .if_icmp .ge 7, 3), (87, .iconst 1, 1), (88, .goto 4, 3), (91, .iconst 0, 1), (92, .istore 5, 2), (94, .aload_n 0, 1), (95, .iload 5, 2), (97, .ifCond .eq 8, 3), (100, .iload 4, 2), (102, .goto 7, 3), (105, .aload_n 2, 1), (106, .getfield 128, 3), (109, .putfield 131, 3), (112, .aload_n 0, 1), (113, .iload 5, 2), (115, .ifCond .eq 10, 3), (118, .aload_n 0, 1), (119, .getfield 61, 3), (122, .goto 7, 3), (125, .aload_n 2, 1), (126, .getfield 132, 3), (129, .putfield 135, 3), (132, .return_, 1)] = true := by decide +kernel
theorem cw_Eng_moveBounds {k : Cd} (h1 : kEng_moveBounds.2.2.2.2.1 + 1 ≤ k.2.2.2.2.1) (h2 : 8 + (kEng_moveBounds.2.2.1 + 11) + kEng_moveBounds.2.2.2.2.2 ≤ k.2.2.2.2.2) : Cw k kEng_moveBounds 2 := ⟨wcode_X3_moveBounds, wini_SplitProgram_Engine, ⟨by decide, by decide, by decide +kernel⟩, h1, h2⟩
def Eng_moveBounds_j129 (v0 : Nat) (v1 : Nat) (v2 : Nat) (v3 : Int32) (v4 : Int32) (v5 : Int32) (t0 : Nat) (t1 : Int32) (h : AHeap) : Option (Unit × AHeap) :=
  (pfV h t0 3 10 (.int t1)).bind fun h16 => some ((), h16)
theorem Eng_moveBounds_j129_J {E : JE} {l : Launch} {G : GX} {h' : AHeap} (ok : JOK E l G kEng_moveBounds 0 0 none h') (v0 : Nat) (v1 : Nat) (v2 : Nat) (v3 : Int32) (v4 : Int32) (v5 : Int32) (t0 : Nat) (t1 : Int32) (h : AHeap) : J E kEng_moveBounds (Eng_moveBounds_j129 v0 v1 v2 v3 v4 v5 t0 t1 h) (fun z => z = ((), h')) 129 [some (.ref v0), some (.ref v1), some (.ref v2), some (.int v3), some (.int v4), some (.int v5)] [.int t1, .ref t0] h 0 0 := by
  unfold Eng_moveBounds_j129
  refine J_putI (ci := 3) (kf := 10) (C := RX3) (T := TX3) (N := 12) (pc' := 132) ok tyX3 (dOf dX3_moveBounds 64 rfl) rfl rfl (by decide) win_3 tyX3_ok nmX3 rfl rfl wfl_X3_135 (fun h16 _ => ?_)
  exact J_vreturn ok (dOf dX3_moveBounds 65 rfl) rfl (Eq.refl 0) (Nat.le_refl 0)
def Eng_moveBounds_j109 (v0 : Nat) (v1 : Nat) (v2 : Nat) (v3 : Int32) (v4 : Int32) (v5 : Int32) (t0 : Nat) (t1 : Int32) (h : AHeap) : Option (Unit × AHeap) :=
  (pfV h t0 3 9 (.int t1)).bind fun h14 => (if v5 = 0 then (gfI h14 v2 7 3).bind fun x15 => Eng_moveBounds_j129 v0 v1 v2 v3 v4 v5 v0 x15 h14 else (gfI h14 v0 3 6).bind fun x17 => Eng_moveBounds_j129 v0 v1 v2 v3 v4 v5 v0 x17 h14)
theorem Eng_moveBounds_j109_J {E : JE} {l : Launch} {G : GX} {h' : AHeap} (ok : JOK E l G kEng_moveBounds 0 0 none h') (v0 : Nat) (v1 : Nat) (v2 : Nat) (v3 : Int32) (v4 : Int32) (v5 : Int32) (t0 : Nat) (t1 : Int32) (h : AHeap) : J E kEng_moveBounds (Eng_moveBounds_j109 v0 v1 v2 v3 v4 v5 t0 t1 h) (fun z => z = ((), h')) 109 [some (.ref v0), some (.ref v1), some (.ref v2), some (.int v3), some (.int v4), some (.int v5)] [.int t1, .ref t0] h 0 0 := by
  unfold Eng_moveBounds_j109
  refine J_putI (ci := 3) (kf := 9) (C := RX3) (T := TX3) (N := 12) (pc' := 112) ok tyX3 (dOf dX3_moveBounds 55 rfl) rfl rfl (by decide) win_3 tyX3_ok nmX3 rfl rfl wfl_X3_131 (fun h14 _ => ?_)
  refine J_aload_n (pc' := 113) ok (dOf dX3_moveBounds 56 rfl) rfl rfl rfl ?_
  refine J_iload (pc' := 115) ok (dOf dX3_moveBounds 57 rfl) rfl rfl ?_
  refine J_if_eq (tgt := 125) (pc' := 118) ok (dOf dX3_moveBounds 58 rfl) rfl (by decide) ?_ ?_
  · refine J_aload_n (pc' := 126) ok (dOf dX3_moveBounds 62 rfl) rfl rfl rfl ?_
    refine J_getI (ci := 7) (kf := 3) (C := RX7) (T := TX7) (N := 7) (pc' := 129) ok (dOf dX3_moveBounds 63 rfl) rfl (by decide) rfl (by decide) win_7 wfl_X3_132 (fun x15 => ?_)
    exact Eng_moveBounds_j129_J ok v0 v1 v2 v3 v4 v5 v0 x15 h14
  · refine J_aload_n (pc' := 119) ok (dOf dX3_moveBounds 59 rfl) rfl rfl rfl ?_
    refine J_getI (ci := 3) (kf := 6) (C := RX3) (T := TX3) (N := 12) (pc' := 122) ok (dOf dX3_moveBounds 60 rfl) rfl (by decide) rfl (by decide) win_3 wfl_X3_61 (fun x17 => ?_)
    refine J_goto (tgt := 129) ok (dOf dX3_moveBounds 61 rfl) (by decide) ?_
    exact Eng_moveBounds_j129_J ok v0 v1 v2 v3 v4 v5 v0 x17 h14
def Eng_moveBounds_j92 (v0 : Nat) (v1 : Nat) (v2 : Nat) (v3 : Int32) (v4 : Int32) (t0 : Int32) (h : AHeap) : Option (Unit × AHeap) :=
  (if t0 = 0 then (gfI h v2 7 2).bind fun x13 => Eng_moveBounds_j109 v0 v1 v2 v3 v4 t0 v0 x13 h else Eng_moveBounds_j109 v0 v1 v2 v3 v4 t0 v0 v4 h)
theorem Eng_moveBounds_j92_J {E : JE} {l : Launch} {G : GX} {h' : AHeap} (ok : JOK E l G kEng_moveBounds 0 0 none h') (v0 : Nat) (v1 : Nat) (v2 : Nat) (v3 : Int32) (v4 : Int32) (t0 : Int32) (h : AHeap) : J E kEng_moveBounds (Eng_moveBounds_j92 v0 v1 v2 v3 v4 t0 h) (fun z => z = ((), h')) 92 [some (.ref v0), some (.ref v1), some (.ref v2), some (.int v3), some (.int v4), none] [.int t0] h 0 0 := by
  unfold Eng_moveBounds_j92
  refine J_istore (ls' := [some (.ref v0), some (.ref v1), some (.ref v2), some (.int v3), some (.int v4), some (.int t0)]) (pc' := 94) ok (dOf dX3_moveBounds 47 rfl) rfl (Nat.le_of_ble_eq_true rfl) rfl rfl ?_
  refine J_aload_n (pc' := 95) ok (dOf dX3_moveBounds 48 rfl) rfl rfl rfl ?_
  refine J_iload (pc' := 97) ok (dOf dX3_moveBounds 49 rfl) rfl rfl ?_
  refine J_if_eq (tgt := 105) (pc' := 100) ok (dOf dX3_moveBounds 50 rfl) rfl (by decide) ?_ ?_
  · refine J_aload_n (pc' := 106) ok (dOf dX3_moveBounds 53 rfl) rfl rfl rfl ?_
    refine J_getI (ci := 7) (kf := 2) (C := RX7) (T := TX7) (N := 7) (pc' := 109) ok (dOf dX3_moveBounds 54 rfl) rfl (by decide) rfl (by decide) win_7 wfl_X3_128 (fun x13 => ?_)
    exact Eng_moveBounds_j109_J ok v0 v1 v2 v3 v4 t0 v0 x13 h
  · refine J_iload (pc' := 102) ok (dOf dX3_moveBounds 51 rfl) rfl rfl ?_
    refine J_goto (tgt := 109) ok (dOf dX3_moveBounds 52 rfl) (by decide) ?_
    exact Eng_moveBounds_j109_J ok v0 v1 v2 v3 v4 t0 v0 v4 h
def Eng_moveBounds_j91 (v0 : Nat) (v1 : Nat) (v2 : Nat) (v3 : Int32) (v4 : Int32) (h : AHeap) : Option (Unit × AHeap) :=
  Eng_moveBounds_j92 v0 v1 v2 v3 v4 0 h
theorem Eng_moveBounds_j91_J {E : JE} {l : Launch} {G : GX} {h' : AHeap} (ok : JOK E l G kEng_moveBounds 0 0 none h') (v0 : Nat) (v1 : Nat) (v2 : Nat) (v3 : Int32) (v4 : Int32) (h : AHeap) : J E kEng_moveBounds (Eng_moveBounds_j91 v0 v1 v2 v3 v4 h) (fun z => z = ((), h')) 91 [some (.ref v0), some (.ref v1), some (.ref v2), some (.int v3), some (.int v4), none] [] h 0 0 := by
  unfold Eng_moveBounds_j91
  refine J_iconst (v := 0) (pc' := 92) ok (dOf dX3_moveBounds 46 rfl) rfl (by decide) ?_
  exact Eng_moveBounds_j92_J ok v0 v1 v2 v3 v4 0 h
def Eng_moveBounds_j87 (v0 : Nat) (v1 : Nat) (v2 : Nat) (v3 : Int32) (v4 : Int32) (h : AHeap) : Option (Unit × AHeap) :=
  Eng_moveBounds_j92 v0 v1 v2 v3 v4 1 h
theorem Eng_moveBounds_j87_J {E : JE} {l : Launch} {G : GX} {h' : AHeap} (ok : JOK E l G kEng_moveBounds 0 0 none h') (v0 : Nat) (v1 : Nat) (v2 : Nat) (v3 : Int32) (v4 : Int32) (h : AHeap) : J E kEng_moveBounds (Eng_moveBounds_j87 v0 v1 v2 v3 v4 h) (fun z => z = ((), h')) 87 [some (.ref v0), some (.ref v1), some (.ref v2), some (.int v3), some (.int v4), none] [] h 0 0 := by
  unfold Eng_moveBounds_j87
  refine J_iconst (v := 1) (pc' := 88) ok (dOf dX3_moveBounds 44 rfl) rfl (by decide) ?_
  refine J_goto (tgt := 92) ok (dOf dX3_moveBounds 45 rfl) (by decide) ?_
  exact Eng_moveBounds_j92_J ok v0 v1 v2 v3 v4 1 h
def Eng_moveBounds_j54 (v0 : Nat) (v1 : Nat) (v2 : Nat) (v3 : Int32) (t0 : Nat) (t1 : Int32) (h : AHeap) : Option (Unit × AHeap) :=
  (pfV h t0 3 8 (.int t1)).bind fun h10 => (chk h10 v0 3).bind fun _ => bnd2 (Eng_masterTotal v0 v1 h10) fun x12 h11 => (if x12 = (-1) then Eng_moveBounds_j91 v0 v1 v2 v3 x12 h11 else (gfI h11 v2 7 2).bind fun x18 => (if x18 = (-1) then Eng_moveBounds_j87 v0 v1 v2 v3 x12 h11 else (gfI h11 v2 7 2).bind fun x19 => (if x19 ≤ x12 then Eng_moveBounds_j91 v0 v1 v2 v3 x12 h11 else Eng_moveBounds_j87 v0 v1 v2 v3 x12 h11)))
theorem Eng_moveBounds_j54_J {E : JE} {l : Launch} {G : GX} {h' : AHeap} (ok : JOK E l G kEng_moveBounds 0 0 none h') (v0 : Nat) (v1 : Nat) (v2 : Nat) (v3 : Int32) (t0 : Nat) (t1 : Int32) (h : AHeap) : J E kEng_moveBounds (Eng_moveBounds_j54 v0 v1 v2 v3 t0 t1 h) (fun z => z = ((), h')) 54 [some (.ref v0), some (.ref v1), some (.ref v2), some (.int v3), none, none] [.int t1, .ref t0] h 0 0 := by
  unfold Eng_moveBounds_j54
  refine J_putI (ci := 3) (kf := 8) (C := RX3) (T := TX3) (N := 12) (pc' := 57) ok tyX3 (dOf dX3_moveBounds 28 rfl) rfl rfl (by decide) win_3 tyX3_ok nmX3 rfl rfl wfl_X3_124 (fun h10 _ => ?_)
  refine J_aload_n (pc' := 58) ok (dOf dX3_moveBounds 29 rfl) rfl rfl rfl ?_
  refine J_aload_n (pc' := 59) ok (dOf dX3_moveBounds 30 rfl) rfl rfl rfl ?_
  refine J_callVi (k2 := kEng_masterTotal) (ci := 3) (T := TX3) (N := 12) (as := [.ref v1]) (pc' := 62) ok (dOf dX3_moveBounds 31 rfl) rfl (cw_Eng_masterTotal (by decide) (by decide)) wml_X3_125 winst_X3_masterTotal wsel_X3_masterTotal rfl ⟨Nat.le_refl 0, Nat.le_refl 0⟩ (Nat.le_of_ble_eq_true rfl) rfl (fun _ _ hf => t_Eng_masterTotal hf) (fun x12 h11 => ?_)
  refine J_istore (ls' := [some (.ref v0), some (.ref v1), some (.ref v2), some (.int v3), some (.int x12), none]) (pc' := 64) ok (dOf dX3_moveBounds 32 rfl) rfl (Nat.le_of_ble_eq_true rfl) rfl rfl ?_
  refine J_iload (pc' := 66) ok (dOf dX3_moveBounds 33 rfl) rfl rfl ?_
  refine J_iconst (v := (-1)) (pc' := 67) ok (dOf dX3_moveBounds 34 rfl) rfl (by decide) ?_
  refine J_icmp_eq (tgt := 91) (pc' := 70) ok (dOf dX3_moveBounds 35 rfl) rfl (by decide) ?_ ?_
  · exact Eng_moveBounds_j91_J ok v0 v1 v2 v3 x12 h11
  · refine J_aload_n (pc' := 71) ok (dOf dX3_moveBounds 36 rfl) rfl rfl rfl ?_
    refine J_getI (ci := 7) (kf := 2) (C := RX7) (T := TX7) (N := 7) (pc' := 74) ok (dOf dX3_moveBounds 37 rfl) rfl (by decide) rfl (by decide) win_7 wfl_X3_128 (fun x18 => ?_)
    refine J_iconst (v := (-1)) (pc' := 75) ok (dOf dX3_moveBounds 38 rfl) rfl (by decide) ?_
    refine J_icmp_eq (tgt := 87) (pc' := 78) ok (dOf dX3_moveBounds 39 rfl) rfl (by decide) ?_ ?_
    · exact Eng_moveBounds_j87_J ok v0 v1 v2 v3 x12 h11
    · refine J_iload (pc' := 80) ok (dOf dX3_moveBounds 40 rfl) rfl rfl ?_
      refine J_aload_n (pc' := 81) ok (dOf dX3_moveBounds 41 rfl) rfl rfl rfl ?_
      refine J_getI (ci := 7) (kf := 2) (C := RX7) (T := TX7) (N := 7) (pc' := 84) ok (dOf dX3_moveBounds 42 rfl) rfl (by decide) rfl (by decide) win_7 wfl_X3_128 (fun x19 => ?_)
      refine J_icmp_ge (tgt := 91) (pc' := 87) ok (dOf dX3_moveBounds 43 rfl) rfl (by decide) ?_ ?_
      · exact Eng_moveBounds_j91_J ok v0 v1 v2 v3 x12 h11
      · exact Eng_moveBounds_j87_J ok v0 v1 v2 v3 x12 h11
def Eng_moveBounds_j35 (v0 : Nat) (v1 : Nat) (v2 : Nat) (v3 : Int32) (t0 : Nat) (t1 : Int32) (h : AHeap) : Option (Unit × AHeap) :=
  (bz t1).bind fun x7 => (pfV h t0 3 11 (.int x7)).bind fun h6 => (gfI h6 v0 3 11).bind fun x8 => (if x8 = 0 then (gfI h6 v2 7 1).bind fun x9 => Eng_moveBounds_j54 v0 v1 v2 v3 v0 x9 h6 else Eng_moveBounds_j54 v0 v1 v2 v3 v0 v3 h6)
theorem Eng_moveBounds_j35_J {E : JE} {l : Launch} {G : GX} {h' : AHeap} (ok : JOK E l G kEng_moveBounds 0 0 none h') (v0 : Nat) (v1 : Nat) (v2 : Nat) (v3 : Int32) (t0 : Nat) (t1 : Int32) (h : AHeap) : J E kEng_moveBounds (Eng_moveBounds_j35 v0 v1 v2 v3 t0 t1 h) (fun z => z = ((), h')) 35 [some (.ref v0), some (.ref v1), some (.ref v2), some (.int v3), none, none] [.int t1, .ref t0] h 0 0 := by
  unfold Eng_moveBounds_j35
  refine J_putZ (ci := 3) (kf := 11) (C := RX3) (T := TX3) (N := 12) (pc' := 38) ok tyX3 (dOf dX3_moveBounds 19 rfl) rfl rfl (by decide) win_3 tyX3_ok nmX3 rfl rfl wfl_X3_120 (fun h6 _ => ?_)
  refine J_aload_n (pc' := 39) ok (dOf dX3_moveBounds 20 rfl) rfl rfl rfl ?_
  refine J_aload_n (pc' := 40) ok (dOf dX3_moveBounds 21 rfl) rfl rfl rfl ?_
  refine J_getI (ci := 3) (kf := 11) (C := RX3) (T := TX3) (N := 12) (pc' := 43) ok (dOf dX3_moveBounds 22 rfl) rfl (by decide) rfl (by decide) win_3 wfl_X3_120 (fun x8 => ?_)
  refine J_if_eq (tgt := 50) (pc' := 46) ok (dOf dX3_moveBounds 23 rfl) rfl (by decide) ?_ ?_
  · refine J_aload_n (pc' := 51) ok (dOf dX3_moveBounds 26 rfl) rfl rfl rfl ?_
    refine J_getI (ci := 7) (kf := 1) (C := RX7) (T := TX7) (N := 7) (pc' := 54) ok (dOf dX3_moveBounds 27 rfl) rfl (by decide) rfl (by decide) win_7 wfl_X3_117 (fun x9 => ?_)
    exact Eng_moveBounds_j54_J ok v0 v1 v2 v3 v0 x9 h6
  · refine J_iload_n (pc' := 47) ok (dOf dX3_moveBounds 24 rfl) rfl rfl rfl ?_
    refine J_goto (tgt := 54) ok (dOf dX3_moveBounds 25 rfl) (by decide) ?_
    exact Eng_moveBounds_j54_J ok v0 v1 v2 v3 v0 v3 h6
def Eng_moveBounds_j30 (v0 : Nat) (v1 : Nat) (v2 : Nat) (v3 : Int32) (t0 : Nat) (h : AHeap) : Option (Unit × AHeap) :=
  Eng_moveBounds_j35 v0 v1 v2 v3 t0 1 h
theorem Eng_moveBounds_j30_J {E : JE} {l : Launch} {G : GX} {h' : AHeap} (ok : JOK E l G kEng_moveBounds 0 0 none h') (v0 : Nat) (v1 : Nat) (v2 : Nat) (v3 : Int32) (t0 : Nat) (h : AHeap) : J E kEng_moveBounds (Eng_moveBounds_j30 v0 v1 v2 v3 t0 h) (fun z => z = ((), h')) 30 [some (.ref v0), some (.ref v1), some (.ref v2), some (.int v3), none, none] [.ref t0] h 0 0 := by
  unfold Eng_moveBounds_j30
  refine J_iconst (v := 1) (pc' := 31) ok (dOf dX3_moveBounds 16 rfl) rfl (by decide) ?_
  refine J_goto (tgt := 35) ok (dOf dX3_moveBounds 17 rfl) (by decide) ?_
  exact Eng_moveBounds_j35_J ok v0 v1 v2 v3 t0 1 h
def Eng_moveBounds (v0 : Nat) (v1 : Nat) (v2 : Nat) (h : AHeap) : Option (Unit × AHeap) :=
  (gfR h v0 3 1).bind fun a1 => (gfI h v0 3 6).bind fun x2 => (chk h a1 1).bind fun _ => bnd2 (Bnds_floorAt a1 v1 x2 h) fun x4 h3 => (gfI h3 v2 7 1).bind fun x5 => (if x5 = (-1) then Eng_moveBounds_j30 v0 v1 v2 x4 v0 h3 else (gfI h3 v2 7 1).bind fun x20 => (if x4 ≤ x20 then Eng_moveBounds_j35 v0 v1 v2 x4 v0 0 h3 else Eng_moveBounds_j30 v0 v1 v2 x4 v0 h3))
theorem t_Eng_moveBounds {l : Launch} {G : GX} {v0 : Nat} {v1 : Nat} {v2 : Nat} {h : AHeap} {h1 : AHeap} (hf : Eng_moveBounds v0 v1 v2 h = some ((), h1)) : CT l G kEng_moveBounds 0 0 [.ref v0, .ref v1, .ref v2] h none h1 := by
  refine CT_of (ls := [some (.ref v0), some (.ref v1), some (.ref v2), none, none, none]) (Z := fun z => z = ((), h1)) (by decide +kernel) (Nat.le_of_ble_eq_true rfl) hf rfl ⟨rfl, rfl, rfl, trivial⟩ (fun E ok => ?_)
  unfold Eng_moveBounds
  refine J_aload_n (pc' := 1) ok (dOf dX3_moveBounds 0 rfl) rfl rfl rfl ?_
  refine J_getR (ci := 3) (kf := 1) (C := RX3) (T := TX3) (N := 12) (pc' := 4) ok (dOf dX3_moveBounds 1 rfl) rfl (by decide) rfl (by decide) win_3 wfl_X3_21 (fun a1 => ?_)
  refine J_aload_n (pc' := 5) ok (dOf dX3_moveBounds 2 rfl) rfl rfl rfl ?_
  refine J_aload_n (pc' := 6) ok (dOf dX3_moveBounds 3 rfl) rfl rfl rfl ?_
  refine J_getI (ci := 3) (kf := 6) (C := RX3) (T := TX3) (N := 12) (pc' := 9) ok (dOf dX3_moveBounds 4 rfl) rfl (by decide) rfl (by decide) win_3 wfl_X3_61 (fun x2 => ?_)
  refine J_callVi (k2 := kBnds_floorAt) (ci := 1) (T := TX1) (N := 3) (as := [.ref v1, .int x2]) (pc' := 12) ok (dOf dX3_moveBounds 5 rfl) rfl (cw_Bnds_floorAt (by decide) (by decide)) wml_X3_114 winst_X1_floorAt wsel_X1_floorAt rfl ⟨Nat.le_refl 0, Nat.le_refl 0⟩ (Nat.le_of_ble_eq_true rfl) rfl (fun _ _ hf => t_Bnds_floorAt hf) (fun x4 h3 => ?_)
  refine J_istore_n (ls' := [some (.ref v0), some (.ref v1), some (.ref v2), some (.int x4), none, none]) (pc' := 13) ok (dOf dX3_moveBounds 6 rfl) rfl rfl (Nat.le_of_ble_eq_true rfl) rfl rfl ?_
  refine J_aload_n (pc' := 14) ok (dOf dX3_moveBounds 7 rfl) rfl rfl rfl ?_
  refine J_aload_n (pc' := 15) ok (dOf dX3_moveBounds 8 rfl) rfl rfl rfl ?_
  refine J_getI (ci := 7) (kf := 1) (C := RX7) (T := TX7) (N := 7) (pc' := 18) ok (dOf dX3_moveBounds 9 rfl) rfl (by decide) rfl (by decide) win_7 wfl_X3_117 (fun x5 => ?_)
  refine J_iconst (v := (-1)) (pc' := 19) ok (dOf dX3_moveBounds 10 rfl) rfl (by decide) ?_
  refine J_icmp_eq (tgt := 30) (pc' := 22) ok (dOf dX3_moveBounds 11 rfl) rfl (by decide) ?_ ?_
  · exact Eng_moveBounds_j30_J ok v0 v1 v2 x4 v0 h3
  · refine J_iload_n (pc' := 23) ok (dOf dX3_moveBounds 12 rfl) rfl rfl rfl ?_
    refine J_aload_n (pc' := 24) ok (dOf dX3_moveBounds 13 rfl) rfl rfl rfl ?_
    refine J_getI (ci := 7) (kf := 1) (C := RX7) (T := TX7) (N := 7) (pc' := 27) ok (dOf dX3_moveBounds 14 rfl) rfl (by decide) rfl (by decide) win_7 wfl_X3_117 (fun x20 => ?_)
    refine J_icmp_le (tgt := 34) (pc' := 30) ok (dOf dX3_moveBounds 15 rfl) rfl (by decide) ?_ ?_
    · refine J_iconst (v := 0) (pc' := 35) ok (dOf dX3_moveBounds 18 rfl) rfl (by decide) ?_
      exact Eng_moveBounds_j35_J ok v0 v1 v2 x4 v0 0 h3
    · exact Eng_moveBounds_j30_J ok v0 v1 v2 x4 v0 h3
-- X10_gapBetween
abbrev kSp_gapBetween : Cd := (yX10_gapBetween, cX10_gapBetween, 2, (some .float), 0, 0)
theorem dX10_gapBetween : dcheck cX10_gapBetween [(0, .iload_n 1, 1), (1, .ifCond .gt 5, 3), (4, .fconst 0, 1), (5, .freturn, 1), (6, .iload_n 1, 1), (7, .iload_n 0, 1), (8, .isub, 1), (9, .i2f, 1), (10, .iload_n 1, 1), (11, .i2f, 1), (12, .fdiv, 1), (13, .freturn, 1)] = true := by decide +kernel
theorem cw_Sp_gapBetween {k : Cd} (h1 : kSp_gapBetween.2.2.2.2.1 + 1 ≤ k.2.2.2.2.1) (h2 : 8 + (kSp_gapBetween.2.2.1 + 11) + kSp_gapBetween.2.2.2.2.2 ≤ k.2.2.2.2.2) : Cw k kSp_gapBetween 2 := ⟨wcode_X10_gapBetween, wini_SplitProgram, ⟨by decide, by decide, by decide +kernel⟩, h1, h2⟩
def Sp_gapBetween (v0 : Int32) (v1 : Int32) (h : AHeap) : Option (UInt32 × AHeap) :=
  (if 0 < v1 then (n32 (FP.fdiv (FP.i2f (v1 - v0)) (FP.i2f v1))).bind fun x1 => some (x1, h) else some (FP.fconst0, h))
theorem t_Sp_gapBetween {l : Launch} {G : GX} {v0 : Int32} {v1 : Int32} {h : AHeap} {v : UInt32} {h1 : AHeap} (hf : Sp_gapBetween v0 v1 h = some (v, h1)) : CT l G kSp_gapBetween 0 0 [.int v0, .int v1] h (some (.float v)) h1 := by
  refine CT_of (ls := [some (.int v0), some (.int v1)]) (Z := fun z => z = (v, h1)) (by decide +kernel) (Nat.le_of_ble_eq_true rfl) hf rfl ⟨rfl, rfl, trivial⟩ (fun E ok => ?_)
  unfold Sp_gapBetween
  refine J_iload_n (pc' := 1) ok (dOf dX10_gapBetween 0 rfl) rfl rfl rfl ?_
  refine J_if_gt (tgt := 6) (pc' := 4) ok (dOf dX10_gapBetween 1 rfl) rfl (by decide) ?_ ?_
  · refine J_iload_n (pc' := 7) ok (dOf dX10_gapBetween 4 rfl) rfl rfl rfl ?_
    refine J_iload_n (pc' := 8) ok (dOf dX10_gapBetween 5 rfl) rfl rfl rfl ?_
    refine J_isub (pc' := 9) ok (dOf dX10_gapBetween 6 rfl) rfl ?_
    refine J_i2f (pc' := 10) ok (dOf dX10_gapBetween 7 rfl) rfl ?_
    refine J_iload_n (pc' := 11) ok (dOf dX10_gapBetween 8 rfl) rfl rfl rfl ?_
    refine J_i2f (pc' := 12) ok (dOf dX10_gapBetween 9 rfl) rfl ?_
    refine J_fdiv (pc' := 13) ok (dOf dX10_gapBetween 10 rfl) rfl ?_
    exact J_freturn ok (dOf dX10_gapBetween 11 rfl) rfl (Eq.refl 0) (Nat.le_refl 0)
  · refine J_fconst0 (pc' := 5) ok (dOf dX10_gapBetween 2 rfl) rfl ?_
    exact J_freturn ok (dOf dX10_gapBetween 3 rfl) rfl (Eq.refl 0) (Nat.le_refl 0)
-- X3_judge
abbrev kEng_judge : Cd := (yX3_judge, cX3_judge, 2, (some .int), 1, 21)
theorem dX3_judge : dcheck cX3_judge [(0, .aload_n 0, 1), (1, .getfield 131, 3), (4, .iconst (-1), 1), (5, .if_icmp .ne 5, 3), (8, .iconst 0, 1), (9, .ireturn, 1), (10, .aload_n 0, 1), (11, .getfield 124, 3), (14, .aload_n 0, 1), (15, .getfield 131, 3), (18, .if_icmp .lt 5, 3), (21, .iconst 1, 1), (22, .ireturn, 1), (23, .aload_n 0, 1), (24, .getfield 124, 3), (27, .aload_n 0, 1), (28, .getfield 131, 3), (31, .invokestatic 142, 3), (34, .iload_n 1, 1), (35, .i2f, 1), (36, .ldc 146, 2), (38, .fdiv, 1), (39, .fcmp .g, 1), (40, .ifCond .gt 7, 3), (43, .iconst 3, 1), (44, .goto 4, 3), (47, .iconst 0, 1), (48, .ireturn, 1)] = true := by decide +kernel
theorem cw_Eng_judge {k : Cd} (h1 : kEng_judge.2.2.2.2.1 + 1 ≤ k.2.2.2.2.1) (h2 : 8 + (kEng_judge.2.2.1 + 11) + kEng_judge.2.2.2.2.2 ≤ k.2.2.2.2.2) : Cw k kEng_judge 1 := ⟨wcode_X3_judge, wini_SplitProgram_Engine, ⟨by decide, by decide, by decide +kernel⟩, h1, h2⟩
def Eng_judge_j48 (v0 : Nat) (v1 : Int32) (t0 : Int32) (h : AHeap) : Option (Int32 × AHeap) :=
  some (t0, h)
theorem Eng_judge_j48_J {E : JE} {l : Launch} {G : GX} {v : Int32} {h' : AHeap} (ok : JOK E l G kEng_judge 0 0 (some (.int v)) h') (v0 : Nat) (v1 : Int32) (t0 : Int32) (h : AHeap) : J E kEng_judge (Eng_judge_j48 v0 v1 t0 h) (fun z => z = (v, h')) 48 [some (.ref v0), some (.int v1)] [.int t0] h 0 0 := by
  unfold Eng_judge_j48
  exact J_ireturn ok (dOf dX3_judge 27 rfl) rfl (Eq.refl 0) (Nat.le_refl 0)
def Eng_judge (v0 : Nat) (v1 : Int32) (h : AHeap) : Option (Int32 × AHeap) :=
  (gfI h v0 3 9).bind fun x1 => (if ¬ x1 = (-1) then (gfI h v0 3 8).bind fun x2 => (gfI h v0 3 9).bind fun x3 => (if x2 < x3 then (gfI h v0 3 8).bind fun x4 => (gfI h v0 3 9).bind fun x5 => bnd2 (Sp_gapBetween x4 x5 h) fun x7 h6 => (n32 (FP.fdiv (FP.i2f v1) 1148846080)).bind fun x8 => (if 0 < (Op.cmpValue (FP.fcmp x7 x8) .g) then Eng_judge_j48 v0 v1 0 h6 else Eng_judge_j48 v0 v1 3 h6) else some (1, h)) else some (0, h))
theorem t_Eng_judge {l : Launch} {G : GX} {v0 : Nat} {v1 : Int32} {h : AHeap} {v : Int32} {h1 : AHeap} (hf : Eng_judge v0 v1 h = some (v, h1)) : CT l G kEng_judge 0 0 [.ref v0, .int v1] h (some (.int v)) h1 := by
  refine CT_of (ls := [some (.ref v0), some (.int v1)]) (Z := fun z => z = (v, h1)) (by decide +kernel) (Nat.le_of_ble_eq_true rfl) hf rfl ⟨rfl, rfl, trivial⟩ (fun E ok => ?_)
  unfold Eng_judge
  refine J_aload_n (pc' := 1) ok (dOf dX3_judge 0 rfl) rfl rfl rfl ?_
  refine J_getI (ci := 3) (kf := 9) (C := RX3) (T := TX3) (N := 12) (pc' := 4) ok (dOf dX3_judge 1 rfl) rfl (by decide) rfl (by decide) win_3 wfl_X3_131 (fun x1 => ?_)
  refine J_iconst (v := (-1)) (pc' := 5) ok (dOf dX3_judge 2 rfl) rfl (by decide) ?_
  refine J_icmp_ne (tgt := 10) (pc' := 8) ok (dOf dX3_judge 3 rfl) rfl (by decide) ?_ ?_
  · refine J_aload_n (pc' := 11) ok (dOf dX3_judge 6 rfl) rfl rfl rfl ?_
    refine J_getI (ci := 3) (kf := 8) (C := RX3) (T := TX3) (N := 12) (pc' := 14) ok (dOf dX3_judge 7 rfl) rfl (by decide) rfl (by decide) win_3 wfl_X3_124 (fun x2 => ?_)
    refine J_aload_n (pc' := 15) ok (dOf dX3_judge 8 rfl) rfl rfl rfl ?_
    refine J_getI (ci := 3) (kf := 9) (C := RX3) (T := TX3) (N := 12) (pc' := 18) ok (dOf dX3_judge 9 rfl) rfl (by decide) rfl (by decide) win_3 wfl_X3_131 (fun x3 => ?_)
    refine J_icmp_lt (tgt := 23) (pc' := 21) ok (dOf dX3_judge 10 rfl) rfl (by decide) ?_ ?_
    · refine J_aload_n (pc' := 24) ok (dOf dX3_judge 13 rfl) rfl rfl rfl ?_
      refine J_getI (ci := 3) (kf := 8) (C := RX3) (T := TX3) (N := 12) (pc' := 27) ok (dOf dX3_judge 14 rfl) rfl (by decide) rfl (by decide) win_3 wfl_X3_124 (fun x4 => ?_)
      refine J_aload_n (pc' := 28) ok (dOf dX3_judge 15 rfl) rfl rfl rfl ?_
      refine J_getI (ci := 3) (kf := 9) (C := RX3) (T := TX3) (N := 12) (pc' := 31) ok (dOf dX3_judge 16 rfl) rfl (by decide) rfl (by decide) win_3 wfl_X3_131 (fun x5 => ?_)
      refine J_callSNf (k2 := kSp_gapBetween) (as := [.int x4, .int x5]) (pc' := 34) ok (dOf dX3_judge 17 rfl) rfl (cw_Sp_gapBetween (by decide) (by decide)) wmn_X3_142 wstat_X10_gapBetween ⟨Nat.le_refl 0, Nat.le_refl 0⟩ (Nat.le_of_ble_eq_true rfl) rfl (fun _ _ hf => t_Sp_gapBetween hf) (fun x7 h6 => ?_)
      refine J_iload_n (pc' := 35) ok (dOf dX3_judge 18 rfl) rfl rfl rfl ?_
      refine J_i2f (pc' := 36) ok (dOf dX3_judge 19 rfl) rfl ?_
      refine J_ldcf (v := 1148846080) (pc' := 38) ok (dOf dX3_judge 20 rfl) rfl wconf_X3_146 ?_
      refine J_fdiv (pc' := 39) ok (dOf dX3_judge 21 rfl) rfl ?_
      refine J_fcmp (pc' := 40) ok (dOf dX3_judge 22 rfl) rfl ?_
      refine J_if_gt (tgt := 47) (pc' := 43) ok (dOf dX3_judge 23 rfl) rfl (by decide) ?_ ?_
      · refine J_iconst (v := 0) (pc' := 48) ok (dOf dX3_judge 26 rfl) rfl (by decide) ?_
        exact Eng_judge_j48_J ok v0 v1 0 h6
      · refine J_iconst (v := 3) (pc' := 44) ok (dOf dX3_judge 24 rfl) rfl (by decide) ?_
        refine J_goto (tgt := 48) ok (dOf dX3_judge 25 rfl) (by decide) ?_
        exact Eng_judge_j48_J ok v0 v1 3 h6
    · refine J_iconst (v := 1) (pc' := 22) ok (dOf dX3_judge 11 rfl) rfl (by decide) ?_
      exact J_ireturn ok (dOf dX3_judge 12 rfl) rfl (Eq.refl 0) (Nat.le_refl 0)
  · refine J_iconst (v := 0) (pc' := 9) ok (dOf dX3_judge 4 rfl) rfl (by decide) ?_
    exact J_ireturn ok (dOf dX3_judge 5 rfl) rfl (Eq.refl 0) (Nat.le_refl 0)
-- X3_worstCase
abbrev kEng_worstCase : Cd := (yX3_worstCase, cX3_worstCase, 6, (some .int), 3, 74)
theorem dX3_worstCase : dcheck cX3_worstCase [(0, .iconst (-1), 1), (1, .istore_n 2, 1), (2, .iconst 0, 1), (3, .istore_n 3, 1), (4, .iconst 0, 1), (5, .istore 4, 2), (7, .iload 4, 2), (9, .aload_n 1, 1), (10, .getfield 65, 3), (13, .if_icmp .ge 55, 3), (16, .aload_n 0, 1), (17, .getfield 25, 3), (20, .iload 4, 2), (22, .iaload, 1), (23, .iconst (-1), 1), (24, .if_icmp .ne 23, 3), (27, .aload_n 0, 1), (28, .getfield 12, 3), (31, .getfield 150, 3), (34, .aload_n 1, 1), (35, .iload 4, 2), (37, .aload_n 0, 1), (38, .getfield 61, 3), (41, .invokevirtual 154, 3), (44, .goto 4, 3), (47, .iconst 0, 1), (48, .istore 5, 2), (50, .iload 5, 2), (52, .iload_n 3, 1), (53, .if_icmp .le 9, 3), (56, .iload 5, 2), (58, .istore_n 3, 1), (59, .iload 4, 2), (61, .istore_n 2, 1), (62, .iinc 4 1, 3), (65, .goto (-58), 3), (68, .iload_n 2, 1), (69, .iconst (-1), 1), (70, .if_icmp .eq 5, 3), (73, .iload_n 2, 1), (74, .ireturn, 1), (75, .iconst 0, 1), (76, .istore 4, 2), (78, .iload 4, 2), (80, .aload_n 1, 1), (81, .getfield 65, 3), (84, .if_icmp .ge 46, 3), (87, .aload_n 1, 1), (88, .getfield 139, 3), (91, .iload 4, 2), (93, .iaload, 1), (94, .aload_n 0, 1), (95, .getfield 25, 3), (98, .iload 4, 2), (100, .iaload, 1), (101, .aload_n 0, 1), (102, .getfield 29, 3), (105, .iload 4, 2), (107, .iaload, 1), (108, .isub, 1), (109, .imul, 1), (110, .istore 5, 2), (112, .iload 5, 2), (114, .iload_n 3, 1), (115, .if_icmp .le 9, 3), (118, .iload 5, 2), (120, .istore_n 3, 1), (121, .iload 4, 2), (123, .istore_n 2, 1), (124, .iinc 4 1, 3), (127, .goto (-49), 3), (130, .iload_n 2, 1), (131, .ireturn, 1)] = true := by decide +kernel
theorem cw_Eng_worstCase {k : Cd} (h1 : kEng_worstCase.2.2.2.2.1 + 1 ≤ k.2.2.2.2.1) (h2 : 8 + (kEng_worstCase.2.2.1 + 11) + kEng_worstCase.2.2.2.2.2 ≤ k.2.2.2.2.2) : Cw k kEng_worstCase 1 := ⟨wcode_X3_worstCase, wini_SplitProgram_Engine, ⟨by decide, by decide, by decide +kernel⟩, h1, h2⟩
def Eng_worstCase_j62 (v0 : Nat) (v1 : Nat) (v2 : Int32) (v3 : Int32) (v4 : Int32) (v5 : Int32) (h : AHeap) : Option ((Int32 × Int32 × Int32 × AHeap) ⊕ ((Int32 × Int32 × Int32 × AHeap))) :=
  some (Sum.inl (v2, v3, v4 + 1, h))
theorem Eng_worstCase_j62_J {E : JE} {l : Launch} {G : GX} {r : Option Value} {h' : AHeap} (ok : JOK E l G kEng_worstCase 0 0 r h') (v0 : Nat) (v1 : Nat) (v2 : Int32) (v3 : Int32) (v4 : Int32) (v5 : Int32) (h : AHeap) {Y : (Int32 × Int32 × Int32 × AHeap) ⊕ ((Int32 × Int32 × Int32 × AHeap)) → Prop} (k1 : ∀ s' : Int32 × Int32 × Int32 × AHeap, Y (.inl s') → JW E kEng_worstCase 7 [some (.ref v0), some (.ref v1), some (.int s'.1), some (.int s'.2.1), some (.int s'.2.2.1), none] [] s'.2.2.2 0 0) (kx68 : ∀ q : Int32 × Int32 × Int32 × AHeap, Y (.inr q) → JW E kEng_worstCase 68 [some (.ref v0), some (.ref v1), some (.int q.1), some (.int q.2.1), some (.int q.2.2.1), none] [] q.2.2.2 0 0) : J E kEng_worstCase (Eng_worstCase_j62 v0 v1 v2 v3 v4 v5 h) Y 62 [some (.ref v0), some (.ref v1), some (.int v2), some (.int v3), some (.int v4), some (.int v5)] [] h 0 0 := by
  unfold Eng_worstCase_j62
  refine J_iinc (v := v4 + 1) (ls' := [some (.ref v0), some (.ref v1), some (.int v2), some (.int v3), some (.int (v4 + 1)), some (.int v5)]) (pc' := 65) ok (dOf dX3_worstCase 34 rfl) rfl rfl (by rfl) (Nat.le_of_ble_eq_true rfl) rfl rfl ?_
  refine J_goto (tgt := 7) ok (dOf dX3_worstCase 35 rfl) (by decide) ?_
  refine J_weak (ls' := [some (.ref v0), some (.ref v1), some (.int v2), some (.int v3), some (.int (v4 + 1)), none]) ⟨rfl, rfl, rfl, rfl, rfl, trivial⟩ ?_
  exact J_fin (k1 (v2, v3, v4 + 1, h))
def Eng_worstCase_j48 (v0 : Nat) (v1 : Nat) (v2 : Int32) (v3 : Int32) (v4 : Int32) (t0 : Int32) (h : AHeap) : Option ((Int32 × Int32 × Int32 × AHeap) ⊕ ((Int32 × Int32 × Int32 × AHeap))) :=
  (if t0 ≤ v3 then Eng_worstCase_j62 v0 v1 v2 v3 v4 t0 h else Eng_worstCase_j62 v0 v1 v4 t0 v4 t0 h)
theorem Eng_worstCase_j48_J {E : JE} {l : Launch} {G : GX} {r : Option Value} {h' : AHeap} (ok : JOK E l G kEng_worstCase 0 0 r h') (v0 : Nat) (v1 : Nat) (v2 : Int32) (v3 : Int32) (v4 : Int32) (t0 : Int32) (h : AHeap) {Y : (Int32 × Int32 × Int32 × AHeap) ⊕ ((Int32 × Int32 × Int32 × AHeap)) → Prop} (k1 : ∀ s' : Int32 × Int32 × Int32 × AHeap, Y (.inl s') → JW E kEng_worstCase 7 [some (.ref v0), some (.ref v1), some (.int s'.1), some (.int s'.2.1), some (.int s'.2.2.1), none] [] s'.2.2.2 0 0) (kx68 : ∀ q : Int32 × Int32 × Int32 × AHeap, Y (.inr q) → JW E kEng_worstCase 68 [some (.ref v0), some (.ref v1), some (.int q.1), some (.int q.2.1), some (.int q.2.2.1), none] [] q.2.2.2 0 0) : J E kEng_worstCase (Eng_worstCase_j48 v0 v1 v2 v3 v4 t0 h) Y 48 [some (.ref v0), some (.ref v1), some (.int v2), some (.int v3), some (.int v4), none] [.int t0] h 0 0 := by
  unfold Eng_worstCase_j48
  refine J_istore (ls' := [some (.ref v0), some (.ref v1), some (.int v2), some (.int v3), some (.int v4), some (.int t0)]) (pc' := 50) ok (dOf dX3_worstCase 26 rfl) rfl (Nat.le_of_ble_eq_true rfl) rfl rfl ?_
  refine J_iload (pc' := 52) ok (dOf dX3_worstCase 27 rfl) rfl rfl ?_
  refine J_iload_n (pc' := 53) ok (dOf dX3_worstCase 28 rfl) rfl rfl rfl ?_
  refine J_icmp_le (tgt := 62) (pc' := 56) ok (dOf dX3_worstCase 29 rfl) rfl (by decide) ?_ ?_
  · exact Eng_worstCase_j62_J ok v0 v1 v2 v3 v4 t0 h k1 kx68
  · refine J_iload (pc' := 58) ok (dOf dX3_worstCase 30 rfl) rfl rfl ?_
    refine J_istore_n (ls' := [some (.ref v0), some (.ref v1), some (.int v2), some (.int t0), some (.int v4), some (.int t0)]) (pc' := 59) ok (dOf dX3_worstCase 31 rfl) rfl rfl (Nat.le_of_ble_eq_true rfl) rfl rfl ?_
    refine J_iload (pc' := 61) ok (dOf dX3_worstCase 32 rfl) rfl rfl ?_
    refine J_istore_n (ls' := [some (.ref v0), some (.ref v1), some (.int v4), some (.int t0), some (.int v4), some (.int t0)]) (pc' := 62) ok (dOf dX3_worstCase 33 rfl) rfl rfl (Nat.le_of_ble_eq_true rfl) rfl rfl ?_
    exact Eng_worstCase_j62_J ok v0 v1 v4 t0 v4 t0 h k1 kx68
def Eng_worstCase_b7 (v0 : Nat) (v1 : Nat) (s : Int32 × Int32 × Int32 × AHeap) : Option ((Int32 × Int32 × Int32 × AHeap) ⊕ ((Int32 × Int32 × Int32 × AHeap))) :=
  (gfI s.2.2.2 v1 6 2).bind fun x1 => (if x1 ≤ s.2.2.1 then some (Sum.inr (s.1, s.2.1, s.2.2.1, s.2.2.2)) else (gfR s.2.2.2 v0 3 2).bind fun a2 => (ald 0 s.2.2.2 a2 s.2.2.1).bind fun x3 => (if ¬ x3 = (-1) then Eng_worstCase_j48 v0 v1 s.1 s.2.1 s.2.2.1 0 s.2.2.2 else (gfR s.2.2.2 v0 3 0).bind fun a4 => (gfR s.2.2.2 a4 0 0).bind fun a5 => (gfI s.2.2.2 v0 3 6).bind fun x6 => (chk s.2.2.2 a5 4).bind fun _ => bnd2 (Frt_lackAt a5 v1 s.2.2.1 x6 s.2.2.2) fun x8 h7 => Eng_worstCase_j48 v0 v1 s.1 s.2.1 s.2.2.1 x8 h7))
theorem Eng_worstCase_b7_J {E : JE} {l : Launch} {G : GX} {r : Option Value} {h' : AHeap} (ok : JOK E l G kEng_worstCase 0 0 r h') (v0 : Nat) (v1 : Nat) {Y : (Int32 × Int32 × Int32 × AHeap) ⊕ ((Int32 × Int32 × Int32 × AHeap)) → Prop} (k1 : ∀ s' : Int32 × Int32 × Int32 × AHeap, Y (.inl s') → JW E kEng_worstCase 7 [some (.ref v0), some (.ref v1), some (.int s'.1), some (.int s'.2.1), some (.int s'.2.2.1), none] [] s'.2.2.2 0 0) (kx68 : ∀ q : Int32 × Int32 × Int32 × AHeap, Y (.inr q) → JW E kEng_worstCase 68 [some (.ref v0), some (.ref v1), some (.int q.1), some (.int q.2.1), some (.int q.2.2.1), none] [] q.2.2.2 0 0) (s : Int32 × Int32 × Int32 × AHeap) : J E kEng_worstCase (Eng_worstCase_b7 v0 v1 s) Y 7 [some (.ref v0), some (.ref v1), some (.int s.1), some (.int s.2.1), some (.int s.2.2.1), none] [] s.2.2.2 0 0 := by
  unfold Eng_worstCase_b7
  refine J_iload (pc' := 9) ok (dOf dX3_worstCase 6 rfl) rfl rfl ?_
  refine J_aload_n (pc' := 10) ok (dOf dX3_worstCase 7 rfl) rfl rfl rfl ?_
  refine J_getI (ci := 6) (kf := 2) (C := RX6) (T := TX6) (N := 9) (pc' := 13) ok (dOf dX3_worstCase 8 rfl) rfl (by decide) rfl (by decide) win_6 wfl_X3_65 (fun x1 => ?_)
  refine J_icmp_ge (tgt := 68) (pc' := 16) ok (dOf dX3_worstCase 9 rfl) rfl (by decide) ?_ ?_
  · exact J_fin (kx68 (s.1, s.2.1, s.2.2.1, s.2.2.2))
  · refine J_aload_n (pc' := 17) ok (dOf dX3_worstCase 10 rfl) rfl rfl rfl ?_
    refine J_getR (ci := 3) (kf := 2) (C := RX3) (T := TX3) (N := 12) (pc' := 20) ok (dOf dX3_worstCase 11 rfl) rfl (by decide) rfl (by decide) win_3 wfl_X3_25 (fun a2 => ?_)
    refine J_iload (pc' := 22) ok (dOf dX3_worstCase 12 rfl) rfl rfl ?_
    refine J_iald (pc' := 23) ok (dOf dX3_worstCase 13 rfl) rfl (fun x3 => ?_)
    refine J_iconst (v := (-1)) (pc' := 24) ok (dOf dX3_worstCase 14 rfl) rfl (by decide) ?_
    refine J_icmp_ne (tgt := 47) (pc' := 27) ok (dOf dX3_worstCase 15 rfl) rfl (by decide) ?_ ?_
    · refine J_iconst (v := 0) (pc' := 48) ok (dOf dX3_worstCase 25 rfl) rfl (by decide) ?_
      exact Eng_worstCase_j48_J ok v0 v1 s.1 s.2.1 s.2.2.1 0 s.2.2.2 k1 kx68
    · refine J_aload_n (pc' := 28) ok (dOf dX3_worstCase 16 rfl) rfl rfl rfl ?_
      refine J_getR (ci := 3) (kf := 0) (C := RX3) (T := TX3) (N := 12) (pc' := 31) ok (dOf dX3_worstCase 17 rfl) rfl (by decide) rfl (by decide) win_3 wfl_X3_12 (fun a4 => ?_)
      refine J_getR (ci := 0) (kf := 0) (C := RX0) (T := TX0) (N := 2) (pc' := 34) ok (dOf dX3_worstCase 18 rfl) rfl (by decide) rfl (by decide) win_0 wfl_X3_150 (fun a5 => ?_)
      refine J_aload_n (pc' := 35) ok (dOf dX3_worstCase 19 rfl) rfl rfl rfl ?_
      refine J_iload (pc' := 37) ok (dOf dX3_worstCase 20 rfl) rfl rfl ?_
      refine J_aload_n (pc' := 38) ok (dOf dX3_worstCase 21 rfl) rfl rfl rfl ?_
      refine J_getI (ci := 3) (kf := 6) (C := RX3) (T := TX3) (N := 12) (pc' := 41) ok (dOf dX3_worstCase 22 rfl) rfl (by decide) rfl (by decide) win_3 wfl_X3_61 (fun x6 => ?_)
      refine J_callVi (k2 := kFrt_lackAt) (ci := 4) (T := TX4) (N := 12) (as := [.ref v1, .int s.2.2.1, .int x6]) (pc' := 44) ok (dOf dX3_worstCase 23 rfl) rfl (cw_Frt_lackAt (by decide) (by decide)) wml_X3_154 winst_X4_lackAt wsel_X4_lackAt rfl ⟨Nat.le_refl 0, Nat.le_refl 0⟩ (Nat.le_of_ble_eq_true rfl) rfl (fun _ _ hf => t_Frt_lackAt hf) (fun x8 h7 => ?_)
      refine J_goto (tgt := 48) ok (dOf dX3_worstCase 24 rfl) (by decide) ?_
      exact Eng_worstCase_j48_J ok v0 v1 s.1 s.2.1 s.2.2.1 x8 h7 k1 kx68
def Eng_worstCase_j124 (v0 : Nat) (v1 : Nat) (v2 : Int32) (v3 : Int32) (v4 : Int32) (v5 : Int32) (h : AHeap) : Option ((Int32 × Int32 × Int32) ⊕ ((Int32 × Int32 × Int32))) :=
  some (Sum.inl (v2, v3, v4 + 1))
theorem Eng_worstCase_j124_J {E : JE} {l : Launch} {G : GX} {r : Option Value} {h' : AHeap} (ok : JOK E l G kEng_worstCase 0 0 r h') (v0 : Nat) (v1 : Nat) (v2 : Int32) (v3 : Int32) (v4 : Int32) (v5 : Int32) (h : AHeap) {Y : (Int32 × Int32 × Int32) ⊕ ((Int32 × Int32 × Int32)) → Prop} (k1 : ∀ s' : Int32 × Int32 × Int32, Y (.inl s') → JW E kEng_worstCase 78 [some (.ref v0), some (.ref v1), some (.int s'.1), some (.int s'.2.1), some (.int s'.2.2), none] [] h 0 0) (kx130 : ∀ q : Int32 × Int32 × Int32, Y (.inr q) → JW E kEng_worstCase 130 [some (.ref v0), some (.ref v1), some (.int q.1), some (.int q.2.1), some (.int q.2.2), none] [] h 0 0) : J E kEng_worstCase (Eng_worstCase_j124 v0 v1 v2 v3 v4 v5 h) Y 124 [some (.ref v0), some (.ref v1), some (.int v2), some (.int v3), some (.int v4), some (.int v5)] [] h 0 0 := by
  unfold Eng_worstCase_j124
  refine J_iinc (v := v4 + 1) (ls' := [some (.ref v0), some (.ref v1), some (.int v2), some (.int v3), some (.int (v4 + 1)), some (.int v5)]) (pc' := 127) ok (dOf dX3_worstCase 69 rfl) rfl rfl (by rfl) (Nat.le_of_ble_eq_true rfl) rfl rfl ?_
  refine J_goto (tgt := 78) ok (dOf dX3_worstCase 70 rfl) (by decide) ?_
  refine J_weak (ls' := [some (.ref v0), some (.ref v1), some (.int v2), some (.int v3), some (.int (v4 + 1)), none]) ⟨rfl, rfl, rfl, rfl, rfl, trivial⟩ ?_
  exact J_fin (k1 (v2, v3, v4 + 1))
def Eng_worstCase_b78 (v0 : Nat) (v1 : Nat) (h : AHeap) (s : Int32 × Int32 × Int32) : Option ((Int32 × Int32 × Int32) ⊕ ((Int32 × Int32 × Int32))) :=
  (gfI h v1 6 2).bind fun x9 => (if x9 ≤ s.2.2 then some (Sum.inr (s.1, s.2.1, s.2.2)) else (gfR h v1 6 7).bind fun a10 => (ald 0 h a10 s.2.2).bind fun x11 => (gfR h v0 3 2).bind fun a12 => (ald 0 h a12 s.2.2).bind fun x13 => (gfR h v0 3 3).bind fun a14 => (ald 0 h a14 s.2.2).bind fun x15 => (if (x11 * (x13 - x15)) ≤ s.2.1 then Eng_worstCase_j124 v0 v1 s.1 s.2.1 s.2.2 (x11 * (x13 - x15)) h else Eng_worstCase_j124 v0 v1 s.2.2 (x11 * (x13 - x15)) s.2.2 (x11 * (x13 - x15)) h))
theorem Eng_worstCase_b78_J {E : JE} {l : Launch} {G : GX} {r : Option Value} {h' : AHeap} (ok : JOK E l G kEng_worstCase 0 0 r h') (v0 : Nat) (v1 : Nat) (h : AHeap) {Y : (Int32 × Int32 × Int32) ⊕ ((Int32 × Int32 × Int32)) → Prop} (k1 : ∀ s' : Int32 × Int32 × Int32, Y (.inl s') → JW E kEng_worstCase 78 [some (.ref v0), some (.ref v1), some (.int s'.1), some (.int s'.2.1), some (.int s'.2.2), none] [] h 0 0) (kx130 : ∀ q : Int32 × Int32 × Int32, Y (.inr q) → JW E kEng_worstCase 130 [some (.ref v0), some (.ref v1), some (.int q.1), some (.int q.2.1), some (.int q.2.2), none] [] h 0 0) (s : Int32 × Int32 × Int32) : J E kEng_worstCase (Eng_worstCase_b78 v0 v1 h s) Y 78 [some (.ref v0), some (.ref v1), some (.int s.1), some (.int s.2.1), some (.int s.2.2), none] [] h 0 0 := by
  unfold Eng_worstCase_b78
  refine J_iload (pc' := 80) ok (dOf dX3_worstCase 43 rfl) rfl rfl ?_
  refine J_aload_n (pc' := 81) ok (dOf dX3_worstCase 44 rfl) rfl rfl rfl ?_
  refine J_getI (ci := 6) (kf := 2) (C := RX6) (T := TX6) (N := 9) (pc' := 84) ok (dOf dX3_worstCase 45 rfl) rfl (by decide) rfl (by decide) win_6 wfl_X3_65 (fun x9 => ?_)
  refine J_icmp_ge (tgt := 130) (pc' := 87) ok (dOf dX3_worstCase 46 rfl) rfl (by decide) ?_ ?_
  · exact J_fin (kx130 (s.1, s.2.1, s.2.2))
  · refine J_aload_n (pc' := 88) ok (dOf dX3_worstCase 47 rfl) rfl rfl rfl ?_
    refine J_getR (ci := 6) (kf := 7) (C := RX6) (T := TX6) (N := 9) (pc' := 91) ok (dOf dX3_worstCase 48 rfl) rfl (by decide) rfl (by decide) win_6 wfl_X3_139 (fun a10 => ?_)
    refine J_iload (pc' := 93) ok (dOf dX3_worstCase 49 rfl) rfl rfl ?_
    refine J_iald (pc' := 94) ok (dOf dX3_worstCase 50 rfl) rfl (fun x11 => ?_)
    refine J_aload_n (pc' := 95) ok (dOf dX3_worstCase 51 rfl) rfl rfl rfl ?_
    refine J_getR (ci := 3) (kf := 2) (C := RX3) (T := TX3) (N := 12) (pc' := 98) ok (dOf dX3_worstCase 52 rfl) rfl (by decide) rfl (by decide) win_3 wfl_X3_25 (fun a12 => ?_)
    refine J_iload (pc' := 100) ok (dOf dX3_worstCase 53 rfl) rfl rfl ?_
    refine J_iald (pc' := 101) ok (dOf dX3_worstCase 54 rfl) rfl (fun x13 => ?_)
    refine J_aload_n (pc' := 102) ok (dOf dX3_worstCase 55 rfl) rfl rfl rfl ?_
    refine J_getR (ci := 3) (kf := 3) (C := RX3) (T := TX3) (N := 12) (pc' := 105) ok (dOf dX3_worstCase 56 rfl) rfl (by decide) rfl (by decide) win_3 wfl_X3_29 (fun a14 => ?_)
    refine J_iload (pc' := 107) ok (dOf dX3_worstCase 57 rfl) rfl rfl ?_
    refine J_iald (pc' := 108) ok (dOf dX3_worstCase 58 rfl) rfl (fun x15 => ?_)
    refine J_isub (pc' := 109) ok (dOf dX3_worstCase 59 rfl) rfl ?_
    refine J_imul (pc' := 110) ok (dOf dX3_worstCase 60 rfl) rfl ?_
    refine J_istore (ls' := [some (.ref v0), some (.ref v1), some (.int s.1), some (.int s.2.1), some (.int s.2.2), some (.int (x11 * (x13 - x15)))]) (pc' := 112) ok (dOf dX3_worstCase 61 rfl) rfl (Nat.le_of_ble_eq_true rfl) rfl rfl ?_
    refine J_iload (pc' := 114) ok (dOf dX3_worstCase 62 rfl) rfl rfl ?_
    refine J_iload_n (pc' := 115) ok (dOf dX3_worstCase 63 rfl) rfl rfl rfl ?_
    refine J_icmp_le (tgt := 124) (pc' := 118) ok (dOf dX3_worstCase 64 rfl) rfl (by decide) ?_ ?_
    · exact Eng_worstCase_j124_J ok v0 v1 s.1 s.2.1 s.2.2 (x11 * (x13 - x15)) h k1 kx130
    · refine J_iload (pc' := 120) ok (dOf dX3_worstCase 65 rfl) rfl rfl ?_
      refine J_istore_n (ls' := [some (.ref v0), some (.ref v1), some (.int s.1), some (.int (x11 * (x13 - x15))), some (.int s.2.2), some (.int (x11 * (x13 - x15)))]) (pc' := 121) ok (dOf dX3_worstCase 66 rfl) rfl rfl (Nat.le_of_ble_eq_true rfl) rfl rfl ?_
      refine J_iload (pc' := 123) ok (dOf dX3_worstCase 67 rfl) rfl rfl ?_
      refine J_istore_n (ls' := [some (.ref v0), some (.ref v1), some (.int s.2.2), some (.int (x11 * (x13 - x15))), some (.int s.2.2), some (.int (x11 * (x13 - x15)))]) (pc' := 124) ok (dOf dX3_worstCase 68 rfl) rfl rfl (Nat.le_of_ble_eq_true rfl) rfl rfl ?_
      exact Eng_worstCase_j124_J ok v0 v1 s.2.2 (x11 * (x13 - x15)) s.2.2 (x11 * (x13 - x15)) h k1 kx130
def Eng_worstCase_j130 (v0 : Nat) (v1 : Nat) (v2 : Int32) (v3 : Int32) (v4 : Int32) (h : AHeap) : Option (Int32 × AHeap) :=
  some (v2, h)
theorem Eng_worstCase_j130_J {E : JE} {l : Launch} {G : GX} {v : Int32} {h' : AHeap} (ok : JOK E l G kEng_worstCase 0 0 (some (.int v)) h') (v0 : Nat) (v1 : Nat) (v2 : Int32) (v3 : Int32) (v4 : Int32) (h : AHeap) : J E kEng_worstCase (Eng_worstCase_j130 v0 v1 v2 v3 v4 h) (fun z => z = (v, h')) 130 [some (.ref v0), some (.ref v1), some (.int v2), some (.int v3), some (.int v4), none] [] h 0 0 := by
  unfold Eng_worstCase_j130
  refine J_iload_n (pc' := 131) ok (dOf dX3_worstCase 71 rfl) rfl rfl rfl ?_
  exact J_ireturn ok (dOf dX3_worstCase 72 rfl) rfl (Eq.refl 0) (Nat.le_refl 0)
def Eng_worstCase_j68 (v0 : Nat) (v1 : Nat) (v2 : Int32) (v3 : Int32) (v4 : Int32) (h : AHeap) : Option (Int32 × AHeap) :=
  (if v2 = (-1) then (iter (Eng_worstCase_b78 v0 v1 h) Lmax (v2, v3, 0)).bind (fun (q78 : Int32 × Int32 × Int32) => Eng_worstCase_j130 v0 v1 q78.1 q78.2.1 q78.2.2 h) else some (v2, h))
theorem Eng_worstCase_j68_J {E : JE} {l : Launch} {G : GX} {v : Int32} {h' : AHeap} (ok : JOK E l G kEng_worstCase 0 0 (some (.int v)) h') (v0 : Nat) (v1 : Nat) (v2 : Int32) (v3 : Int32) (v4 : Int32) (h : AHeap) : J E kEng_worstCase (Eng_worstCase_j68 v0 v1 v2 v3 v4 h) (fun z => z = (v, h')) 68 [some (.ref v0), some (.ref v1), some (.int v2), some (.int v3), some (.int v4), none] [] h 0 0 := by
  unfold Eng_worstCase_j68
  refine J_iload_n (pc' := 69) ok (dOf dX3_worstCase 36 rfl) rfl rfl rfl ?_
  refine J_iconst (v := (-1)) (pc' := 70) ok (dOf dX3_worstCase 37 rfl) rfl (by decide) ?_
  refine J_icmp_eq (tgt := 75) (pc' := 73) ok (dOf dX3_worstCase 38 rfl) rfl (by decide) ?_ ?_
  · refine J_iconst (v := 0) (pc' := 76) ok (dOf dX3_worstCase 41 rfl) rfl (by decide) ?_
    refine J_istore (ls' := [some (.ref v0), some (.ref v1), some (.int v2), some (.int v3), some (.int 0), none]) (pc' := 78) ok (dOf dX3_worstCase 42 rfl) rfl (Nat.le_of_ble_eq_true rfl) rfl rfl ?_
    refine J_iter (lf := fun z78 => [some (.ref v0), some (.ref v1), some (.int z78.1), some (.int z78.2.1), some (.int z78.2.2), none]) (sf := fun _ => []) (hf := fun z78 => h) (px := (fun (q78 : Int32 × Int32 × Int32) => 130)) (lx := (fun (q78 : Int32 × Int32 × Int32) => [some (.ref v0), some (.ref v1), some (.int q78.1), some (.int q78.2.1), some (.int q78.2.2), none])) (sx := (fun (q78 : Int32 × Int32 × Int32) => [])) (hx := (fun (q78 : Int32 × Int32 × Int32) => h)) (fun Y2 z78 m1 m2 => Eng_worstCase_b78_J ok v0 v1 h m1 m2 z78) (fun q78 => ?_) Lmax _
    exact Eng_worstCase_j130_J ok v0 v1 q78.1 q78.2.1 q78.2.2 h
  · refine J_iload_n (pc' := 74) ok (dOf dX3_worstCase 39 rfl) rfl rfl rfl ?_
    exact J_ireturn ok (dOf dX3_worstCase 40 rfl) rfl (Eq.refl 0) (Nat.le_refl 0)
def Eng_worstCase (v0 : Nat) (v1 : Nat) (h : AHeap) : Option (Int32 × AHeap) :=
  (iter (Eng_worstCase_b7 v0 v1) Lmax ((-1), 0, 0, h)).bind (fun (q7 : Int32 × Int32 × Int32 × AHeap) => Eng_worstCase_j68 v0 v1 q7.1 q7.2.1 q7.2.2.1 q7.2.2.2)
theorem t_Eng_worstCase {l : Launch} {G : GX} {v0 : Nat} {v1 : Nat} {h : AHeap} {v : Int32} {h1 : AHeap} (hf : Eng_worstCase v0 v1 h = some (v, h1)) : CT l G kEng_worstCase 0 0 [.ref v0, .ref v1] h (some (.int v)) h1 := by
  refine CT_of (ls := [some (.ref v0), some (.ref v1), none, none, none, none]) (Z := fun z => z = (v, h1)) (by decide +kernel) (Nat.le_of_ble_eq_true rfl) hf rfl ⟨rfl, rfl, trivial⟩ (fun E ok => ?_)
  unfold Eng_worstCase
  refine J_iconst (v := (-1)) (pc' := 1) ok (dOf dX3_worstCase 0 rfl) rfl (by decide) ?_
  refine J_istore_n (ls' := [some (.ref v0), some (.ref v1), some (.int (-1)), none, none, none]) (pc' := 2) ok (dOf dX3_worstCase 1 rfl) rfl rfl (Nat.le_of_ble_eq_true rfl) rfl rfl ?_
  refine J_iconst (v := 0) (pc' := 3) ok (dOf dX3_worstCase 2 rfl) rfl (by decide) ?_
  refine J_istore_n (ls' := [some (.ref v0), some (.ref v1), some (.int (-1)), some (.int 0), none, none]) (pc' := 4) ok (dOf dX3_worstCase 3 rfl) rfl rfl (Nat.le_of_ble_eq_true rfl) rfl rfl ?_
  refine J_iconst (v := 0) (pc' := 5) ok (dOf dX3_worstCase 4 rfl) rfl (by decide) ?_
  refine J_istore (ls' := [some (.ref v0), some (.ref v1), some (.int (-1)), some (.int 0), some (.int 0), none]) (pc' := 7) ok (dOf dX3_worstCase 5 rfl) rfl (Nat.le_of_ble_eq_true rfl) rfl rfl ?_
  refine J_iter (lf := fun z7 => [some (.ref v0), some (.ref v1), some (.int z7.1), some (.int z7.2.1), some (.int z7.2.2.1), none]) (sf := fun _ => []) (hf := fun z7 => z7.2.2.2) (px := (fun (q7 : Int32 × Int32 × Int32 × AHeap) => 68)) (lx := (fun (q7 : Int32 × Int32 × Int32 × AHeap) => [some (.ref v0), some (.ref v1), some (.int q7.1), some (.int q7.2.1), some (.int q7.2.2.1), none])) (sx := (fun (q7 : Int32 × Int32 × Int32 × AHeap) => [])) (hx := (fun (q7 : Int32 × Int32 × Int32 × AHeap) => q7.2.2.2)) (fun Y2 z7 m1 m2 => Eng_worstCase_b7_J ok v0 v1 m1 m2 z7) (fun q7 => ?_) Lmax _
  exact Eng_worstCase_j68_J ok v0 v1 q7.1 q7.2.1 q7.2.2.1 q7.2.2.2
