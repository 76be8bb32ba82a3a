-- X11_gapNow
abbrev kMod_gapNow : Cd := (yX11_gapNow, cX11_gapNow, 1, (some .float), 0, 0)
theorem dX11_gapNow : dcheck cX11_gapNow [(0, .aload_n 0, 1), (1, .getfield 22, 3), (4, .iconst 5, 1), (5, .iaload, 1), (6, .ifCond .ne 7, 3), (9, .fconst 0, 1), (10, .goto 25, 3), (13, .aload_n 0, 1), (14, .getfield 22, 3), (17, .iconst 5, 1), (18, .iaload, 1), (19, .aload_n 0, 1), (20, .getfield 22, 3), (23, .iconst 4, 1), (24, .iaload, 1), (25, .isub, 1), (26, .i2f, 1), (27, .aload_n 0, 1), (28, .getfield 22, 3), (31, .iconst 5, 1), (32, .iaload, 1), (33, .i2f, 1), (34, .fdiv, 1), (35, .freturn, 1)] = true := by decide +kernel
theorem cw_Mod_gapNow {k : Cd} (h1 : kMod_gapNow.2.2.2.2.1 + 1 ≤ k.2.2.2.2.1) (h2 : 8 + (kMod_gapNow.2.2.1 + 11) + kMod_gapNow.2.2.2.2.2 ≤ k.2.2.2.2.2) : Cw k kMod_gapNow 0 := ⟨wcode_X11_gapNow, wini_SplitProgramModel, ⟨by decide, by decide, by decide +kernel⟩, h1, h2⟩
def Mod_gapNow_j35 (v0 : Nat) (t0 : UInt32) (h : AHeap) : Option (UInt32 × AHeap) :=
  some (t0, h)
theorem Mod_gapNow_j35_J {E : JE} {l : Launch} {G : GX} {v : UInt32} {h' : AHeap} (ok : JOK E l G kMod_gapNow 0 0 (some (.float v)) h') (v0 : Nat) (t0 : UInt32) (h : AHeap) : J E kMod_gapNow (Mod_gapNow_j35 v0 t0 h) (fun z => z = (v, h')) 35 [some (.ref v0)] [.float t0] h 0 0 := by
  unfold Mod_gapNow_j35
  exact J_freturn ok (dOf dX11_gapNow 23 rfl) rfl (Eq.refl 0) (Nat.le_refl 0)
def Mod_gapNow (v0 : Nat) (h : AHeap) : Option (UInt32 × AHeap) :=
  (gfR h v0 11 5).bind fun a1 => (ald 0 h a1 5).bind fun x2 => (if ¬ x2 = 0 then (gfR h v0 11 5).bind fun a3 => (ald 0 h a3 5).bind fun x4 => (gfR h v0 11 5).bind fun a5 => (ald 0 h a5 4).bind fun x6 => (gfR h v0 11 5).bind fun a7 => (ald 0 h a7 5).bind fun x8 => (n32 (FP.fdiv (FP.i2f (x4 - x6)) (FP.i2f x8))).bind fun x9 => Mod_gapNow_j35 v0 x9 h else Mod_gapNow_j35 v0 FP.fconst0 h)
theorem t_Mod_gapNow {l : Launch} {G : GX} {v0 : Nat} {h : AHeap} {v : UInt32} {h1 : AHeap} (hf : Mod_gapNow v0 h = some (v, h1)) : CT l G kMod_gapNow 0 0 [.ref v0] h (some (.float v)) h1 := by
  refine CT_of (ls := [some (.ref v0)]) (Z := fun z => z = (v, h1)) (by decide +kernel) (Nat.le_of_ble_eq_true rfl) hf rfl ⟨rfl, trivial⟩ (fun E ok => ?_)
  unfold Mod_gapNow
  refine J_aload_n (pc' := 1) ok (dOf dX11_gapNow 0 rfl) rfl rfl rfl ?_
  refine J_getR (ci := 11) (kf := 5) (C := RX11) (T := TX11) (N := 29) (pc' := 4) ok (dOf dX11_gapNow 1 rfl) rfl (by decide) rfl (by decide) win_11 wfl_X11_22 (fun a1 => ?_)
  refine J_iconst (v := 5) (pc' := 5) ok (dOf dX11_gapNow 2 rfl) rfl (by decide) ?_
  refine J_iald (pc' := 6) ok (dOf dX11_gapNow 3 rfl) rfl (fun x2 => ?_)
  refine J_if_ne (tgt := 13) (pc' := 9) ok (dOf dX11_gapNow 4 rfl) rfl (by decide) ?_ ?_
  · refine J_aload_n (pc' := 14) ok (dOf dX11_gapNow 7 rfl) rfl rfl rfl ?_
    refine J_getR (ci := 11) (kf := 5) (C := RX11) (T := TX11) (N := 29) (pc' := 17) ok (dOf dX11_gapNow 8 rfl) rfl (by decide) rfl (by decide) win_11 wfl_X11_22 (fun a3 => ?_)
    refine J_iconst (v := 5) (pc' := 18) ok (dOf dX11_gapNow 9 rfl) rfl (by decide) ?_
    refine J_iald (pc' := 19) ok (dOf dX11_gapNow 10 rfl) rfl (fun x4 => ?_)
    refine J_aload_n (pc' := 20) ok (dOf dX11_gapNow 11 rfl) rfl rfl rfl ?_
    refine J_getR (ci := 11) (kf := 5) (C := RX11) (T := TX11) (N := 29) (pc' := 23) ok (dOf dX11_gapNow 12 rfl) rfl (by decide) rfl (by decide) win_11 wfl_X11_22 (fun a5 => ?_)
    refine J_iconst (v := 4) (pc' := 24) ok (dOf dX11_gapNow 13 rfl) rfl (by decide) ?_
    refine J_iald (pc' := 25) ok (dOf dX11_gapNow 14 rfl) rfl (fun x6 => ?_)
    refine J_isub (pc' := 26) ok (dOf dX11_gapNow 15 rfl) rfl ?_
    refine J_i2f (pc' := 27) ok (dOf dX11_gapNow 16 rfl) rfl ?_
    refine J_aload_n (pc' := 28) ok (dOf dX11_gapNow 17 rfl) rfl rfl rfl ?_
    refine J_getR (ci := 11) (kf := 5) (C := RX11) (T := TX11) (N := 29) (pc' := 31) ok (dOf dX11_gapNow 18 rfl) rfl (by decide) rfl (by decide) win_11 wfl_X11_22 (fun a7 => ?_)
    refine J_iconst (v := 5) (pc' := 32) ok (dOf dX11_gapNow 19 rfl) rfl (by decide) ?_
    refine J_iald (pc' := 33) ok (dOf dX11_gapNow 20 rfl) rfl (fun x8 => ?_)
    refine J_i2f (pc' := 34) ok (dOf dX11_gapNow 21 rfl) rfl ?_
    refine J_fdiv (pc' := 35) ok (dOf dX11_gapNow 22 rfl) rfl ?_
    exact Mod_gapNow_j35_J ok v0 (FP.fdiv (FP.i2f (x4 - x6)) (FP.i2f x8)) h
  · refine J_fconst0 (pc' := 10) ok (dOf dX11_gapNow 5 rfl) rfl ?_
    refine J_goto (tgt := 35) ok (dOf dX11_gapNow 6 rfl) (by decide) ?_
    exact Mod_gapNow_j35_J ok v0 FP.fconst0 h
-- X11_goesRound
abbrev kMod_goesRound : Cd := (yX11_goesRound, cX11_goesRound, 7, (some .int), 8, 195)
theorem dX11_goesRound : dcheck cX11_goesRound [(0, .aload_n 0, 1), (1, .getfield 22, 3), (4, .bipush 8, 2), (6, .dup2, 1), (7, .iaload, 1), (8, .iconst 1, 1), (9, .iadd, 1), (10, .iastore, 1), (11, .aload_n 0, 1), (12, .invokevirtual 280, 3), (15, .istore_n 1, 1), (16, .aload_n 0, 1), (17, .getfield 22, 3), (20, .bipush 7, 2), (22, .iload_n 1, 1), (23, .iastore, 1), (24, .iload_n 1, 1), (25, .iconst (-1), 1), (26, .if_icmp .ne 12, 3), (29, .aload_n 0, 1), (30, .getfield 22, 3), (33, .iconst 3, 1), (34, .iconst 2, 1), (35, .iastore, 1), (36, .iconst 0, 1), (37, .ireturn, 1), (38, .aload_n 0, 1), (39, .iload_n 1, 1), (40, .invokevirtual 283, 3), (43, .aload_n 0, 1), (44, .iload_n 1, 1), (45, .invokevirtual 277, 3), (48, .istore_n 2, 1), (49, .aload_n 0, 1), (50, .getfield 22, 3), (53, .iconst 4, 1), (54, .iaload, 1), (55, .iconst (-1), 1), (56, .if_icmp .eq 13, 3), (59, .iload_n 2, 1), (60, .aload_n 0, 1), (61, .getfield 22, 3), (64, .iconst 4, 1), (65, .iaload, 1), (66, .if_icmp .le 7, 3), (69, .iconst 1, 1), (70, .goto 4, 3), (73, .iconst 0, 1), (74, .istore_n 3, 1), (75, .iload_n 3, 1), (76, .ifCond .eq 10, 3), (79, .aload_n 0, 1), (80, .getfield 22, 3), (83, .iconst 4, 1), (84, .iload_n 2, 1), (85, .iastore, 1), (86, .aload_n 0, 1), (87, .iload_n 1, 1), (88, .invokevirtual 286, 3), (91, .istore 4, 2), (93, .iload 4, 2), (95, .iconst (-1), 1), (96, .if_icmp .eq 40, 3), (99, .aload_n 0, 1), (100, .getfield 22, 3), (103, .iconst 5, 1), (104, .iaload, 1), (105, .iconst (-1), 1), (106, .if_icmp .eq 14, 3), (109, .iload 4, 2), (111, .aload_n 0, 1), (112, .getfield 22, 3), (115, .iconst 5, 1), (116, .iaload, 1), (117, .if_icmp .ge 19, 3), (120, .aload_n 0, 1), (121, .getfield 22, 3), (124, .iconst 5, 1), (125, .iload 4, 2), (127, .iastore, 1), (128, .aload_n 0, 1), (129, .getfield 22, 3), (132, .bipush 6, 2), (134, .iload_n 1, 1), (135, .iastore, 1), (136, .aload_n 0, 1), (137, .iload_n 1, 1), (138, .invokevirtual 289, 3), (141, .aload_n 0, 1), (142, .getfield 22, 3), (145, .iconst 5, 1), (146, .iaload, 1), (147, .iconst (-1), 1), (148, .if_icmp .eq 27, 3), (151, .aload_n 0, 1), (152, .getfield 22, 3), (155, .iconst 4, 1), (156, .iaload, 1), (157, .aload_n 0, 1), (158, .getfield 22, 3), (161, .iconst 5, 1), (162, .iaload, 1), (163, .if_icmp .lt 12, 3), (166, .aload_n 0, 1), (167, .getfield 22, 3), (170, .iconst 3, 1), (171, .iconst 1, 1), (172, .iastore, 1), (173, .iconst 0, 1), (174, .ireturn, 1), (175, .aload_n 0, 1), (176, .getfield 22, 3), (179, .iconst 5, 1), (180, .iaload, 1), (181, .iconst (-1), 1), (182, .if_icmp .eq 31, 3), (185, .aload_n 0, 1), (186, .invokevirtual 292, 3), (189, .aload_n 0, 1), (190, .getfield 13, 3), (193, .iconst 2, 1), (194, .iaload, 1), (195, .i2f, 1), (196, .ldc_w 296, 3), (199, .fdiv, 1), (200, .fcmp .g, 1), (201, .ifCond .gt 12, 3), (204, .aload_n 0, 1), (205, .getfield 22, 3), (208, .iconst 3, 1), (209, .iconst 3, 1), (210, .iastore, 1), (211, .iconst 0, 1), (212, .ireturn, 1), (213, .iload_n 3, 1), (214, .ifCond .eq 32, 3), (217, .aload_n 0, 1), (218, .getfield 13, 3), (221, .iconst 1, 1), (222, .iaload, 1), (223, .ifCond .eq 23, 3), (226, .aload_n 0, 1), (227, .getfield 22, 3), (230, .bipush 10, 2), (232, .dup2, 1), (233, .iaload, 1), (234, .aload_n 0, 1), (235, .aload_n 0, 1), (236, .getfield 13, 3), (239, .iconst 1, 1), (240, .iaload, 1), (241, .invokevirtual 184, 3), (244, .iadd, 1), (245, .iastore, 1), (246, .aload_n 0, 1), (247, .getfield 22, 3), (250, .bipush 9, 2), (252, .iaload, 1), (253, .aload_n 0, 1), (254, .getfield 267, 3), (257, .iadd, 1), (258, .aload_n 0, 1), (259, .getfield 13, 3), (262, .iconst 3, 1), (263, .iaload, 1), (264, .if_icmp .le 6, 3), (267, .bipush (-5), 2), (269, .ireturn, 1), (270, .bipush 75, 2), (272, .bipush 13, 2), (274, .aload_n 0, 1), (275, .getfield 22, 3), (278, .bipush 9, 2), (280, .iaload, 1), (281, .imul, 1), (282, .iadd, 1), (283, .istore 5, 2), (285, .iconst 0, 1), (286, .istore 6, 2), (288, .iload 6, 2), (290, .bipush 13, 2), (292, .aload_n 0, 1), (293, .getfield 267, 3), (296, .imul, 1), (297, .if_icmp .ge 26, 3), (300, .aload_n 0, 1), (301, .getfield 22, 3), (304, .iload 5, 2), (306, .iload 6, 2), (308, .iadd, 1), (309, .aload_n 0, 1), (310, .getfield 60, 3), (313, .iload 6, 2), (315, .iaload, 1), (316, .iastore, 1), (317, .iinc 6 1, 3), (320, .goto (-32), 3), (323, .aload_n 0, 1), (324, .getfield 22, 3), (327, .bipush 9, 2), (329, .dup2, 1), (330, .iaload, 1), (331, .aload_n 0, 1), (332, .getfield 267, 3), (335, .iadd, 1), (336, .iastore, 1), (337, .aload_n 0, 1), (338, .getfield 267, 3), (341, .ireturn, 1)] = true := by decide +kernel
theorem cw_Mod_goesRound {k : Cd} (h1 : kMod_goesRound.2.2.2.2.1 + 1 ≤ k.2.2.2.2.1) (h2 : 8 + (kMod_goesRound.2.2.1 + 11) + kMod_goesRound.2.2.2.2.2 ≤ k.2.2.2.2.2) : Cw k kMod_goesRound 0 := ⟨wcode_X11_goesRound, wini_SplitProgramModel, ⟨by decide, by decide, by decide +kernel⟩, h1, h2⟩
def Mod_goesRound_b288 (v0 : Nat) (v1 : Int32) (v2 : Int32) (v3 : Int32) (v4 : Int32) (v5 : Int32) (s : Int32 × AHeap) : Option ((Int32 × AHeap) ⊕ ((Int32 × AHeap))) :=
  (gfI s.2 v0 11 27).bind fun x27 => (if (13 * x27) ≤ s.1 then some (Sum.inr (s.1, s.2)) else (gfR s.2 v0 11 5).bind fun a28 => (gfR s.2 v0 11 26).bind fun a29 => (ald 0 s.2 a29 s.1).bind fun x30 => (ast 0 s.2 a28 (v5 + s.1) x30).bind fun h31 => some (Sum.inl (s.1 + 1, h31)))
theorem Mod_goesRound_b288_J {E : JE} {l : Launch} {G : GX} {r : Option Value} {h' : AHeap} (ok : JOK E l G kMod_goesRound 0 0 r h') (v0 : Nat) (v1 : Int32) (v2 : Int32) (v3 : Int32) (v4 : Int32) (v5 : Int32) {Y : (Int32 × AHeap) ⊕ ((Int32 × AHeap)) → Prop} (k1 : ∀ s' : Int32 × AHeap, Y (.inl s') → JW E kMod_goesRound 288 [some (.ref v0), some (.int v1), some (.int v2), some (.int v3), some (.int v4), some (.int v5), some (.int s'.1)] [] s'.2 0 0) (kx323 : ∀ q : Int32 × AHeap, Y (.inr q) → JW E kMod_goesRound 323 [some (.ref v0), some (.int v1), some (.int v2), some (.int v3), some (.int v4), some (.int v5), some (.int q.1)] [] q.2 0 0) (s : Int32 × AHeap) : J E kMod_goesRound (Mod_goesRound_b288 v0 v1 v2 v3 v4 v5 s) Y 288 [some (.ref v0), some (.int v1), some (.int v2), some (.int v3), some (.int v4), some (.int v5), some (.int s.1)] [] s.2 0 0 := by
  unfold Mod_goesRound_b288
  refine J_iload (pc' := 290) ok (dOf dX11_goesRound 179 rfl) rfl rfl ?_
  refine J_bipush (v := 13) (pc' := 292) ok (dOf dX11_goesRound 180 rfl) rfl (by decide) ?_
  refine J_aload_n (pc' := 293) ok (dOf dX11_goesRound 181 rfl) rfl rfl rfl ?_
  refine J_getI (ci := 11) (kf := 27) (C := RX11) (T := TX11) (N := 29) (pc' := 296) ok (dOf dX11_goesRound 182 rfl) rfl (by decide) rfl (by decide) win_11 wfl_X11_267 (fun x27 => ?_)
  refine J_imul (pc' := 297) ok (dOf dX11_goesRound 183 rfl) rfl ?_
  refine J_icmp_ge (tgt := 323) (pc' := 300) ok (dOf dX11_goesRound 184 rfl) rfl (by decide) ?_ ?_
  · exact J_fin (kx323 (s.1, s.2))
  · refine J_aload_n (pc' := 301) ok (dOf dX11_goesRound 185 rfl) rfl rfl rfl ?_
    refine J_getR (ci := 11) (kf := 5) (C := RX11) (T := TX11) (N := 29) (pc' := 304) ok (dOf dX11_goesRound 186 rfl) rfl (by decide) rfl (by decide) win_11 wfl_X11_22 (fun a28 => ?_)
    refine J_iload (pc' := 306) ok (dOf dX11_goesRound 187 rfl) rfl rfl ?_
    refine J_iload (pc' := 308) ok (dOf dX11_goesRound 188 rfl) rfl rfl ?_
    refine J_iadd (pc' := 309) ok (dOf dX11_goesRound 189 rfl) rfl ?_
    refine J_aload_n (pc' := 310) ok (dOf dX11_goesRound 190 rfl) rfl rfl rfl ?_
    refine J_getR (ci := 11) (kf := 26) (C := RX11) (T := TX11) (N := 29) (pc' := 313) ok (dOf dX11_goesRound 191 rfl) rfl (by decide) rfl (by decide) win_11 wfl_X11_60 (fun a29 => ?_)
    refine J_iload (pc' := 315) ok (dOf dX11_goesRound 192 rfl) rfl rfl ?_
    refine J_iald (pc' := 316) ok (dOf dX11_goesRound 193 rfl) rfl (fun x30 => ?_)
    refine J_iast (pc' := 317) ok (dOf dX11_goesRound 194 rfl) rfl (fun h31 _ => ?_)
    refine J_iinc (v := s.1 + 1) (ls' := [some (.ref v0), some (.int v1), some (.int v2), some (.int v3), some (.int v4), some (.int v5), some (.int (s.1 + 1))]) (pc' := 320) ok (dOf dX11_goesRound 195 rfl) rfl rfl (by rfl) (Nat.le_of_ble_eq_true rfl) rfl rfl ?_
    refine J_goto (tgt := 288) ok (dOf dX11_goesRound 196 rfl) (by decide) ?_
    exact J_fin (k1 (s.1 + 1, h31))
def Mod_goesRound_j323 (v0 : Nat) (v1 : Int32) (v2 : Int32) (v3 : Int32) (v4 : Int32) (v5 : Int32) (v6 : Int32) (h : AHeap) : Option (Int32 × AHeap) :=
  (gfR h v0 11 5).bind fun a32 => (ald 0 h a32 9).bind fun x33 => (gfI h v0 11 27).bind fun x34 => (ast 0 h a32 9 (x33 + x34)).bind fun h35 => (gfI h35 v0 11 27).bind fun x36 => some (x36, h35)
theorem Mod_goesRound_j323_J {E : JE} {l : Launch} {G : GX} {v : Int32} {h' : AHeap} (ok : JOK E l G kMod_goesRound 0 0 (some (.int v)) h') (v0 : Nat) (v1 : Int32) (v2 : Int32) (v3 : Int32) (v4 : Int32) (v5 : Int32) (v6 : Int32) (h : AHeap) : J E kMod_goesRound (Mod_goesRound_j323 v0 v1 v2 v3 v4 v5 v6 h) (fun z => z = (v, h')) 323 [some (.ref v0), some (.int v1), some (.int v2), some (.int v3), some (.int v4), some (.int v5), some (.int v6)] [] h 0 0 := by
  unfold Mod_goesRound_j323
  refine J_aload_n (pc' := 324) ok (dOf dX11_goesRound 197 rfl) rfl rfl rfl ?_
  refine J_getR (ci := 11) (kf := 5) (C := RX11) (T := TX11) (N := 29) (pc' := 327) ok (dOf dX11_goesRound 198 rfl) rfl (by decide) rfl (by decide) win_11 wfl_X11_22 (fun a32 => ?_)
  refine J_bipush (v := 9) (pc' := 329) ok (dOf dX11_goesRound 199 rfl) rfl (by decide) ?_
  refine J_dup2 (pc' := 330) ok (dOf dX11_goesRound 200 rfl) rfl rfl rfl ?_
  refine J_iald (pc' := 331) ok (dOf dX11_goesRound 201 rfl) rfl (fun x33 => ?_)
  refine J_aload_n (pc' := 332) ok (dOf dX11_goesRound 202 rfl) rfl rfl rfl ?_
  refine J_getI (ci := 11) (kf := 27) (C := RX11) (T := TX11) (N := 29) (pc' := 335) ok (dOf dX11_goesRound 203 rfl) rfl (by decide) rfl (by decide) win_11 wfl_X11_267 (fun x34 => ?_)
  refine J_iadd (pc' := 336) ok (dOf dX11_goesRound 204 rfl) rfl ?_
  refine J_iast (pc' := 337) ok (dOf dX11_goesRound 205 rfl) rfl (fun h35 _ => ?_)
  refine J_aload_n (pc' := 338) ok (dOf dX11_goesRound 206 rfl) rfl rfl rfl ?_
  refine J_getI (ci := 11) (kf := 27) (C := RX11) (T := TX11) (N := 29) (pc' := 341) ok (dOf dX11_goesRound 207 rfl) rfl (by decide) rfl (by decide) win_11 wfl_X11_267 (fun x36 => ?_)
  exact J_ireturn ok (dOf dX11_goesRound 208 rfl) rfl (Eq.refl 0) (Nat.le_refl 0)
def Mod_goesRound_j246 (v0 : Nat) (v1 : Int32) (v2 : Int32) (v3 : Int32) (v4 : Int32) (h : AHeap) : Option (Int32 × AHeap) :=
  (gfR h v0 11 5).bind fun a20 => (ald 0 h a20 9).bind fun x21 => (gfI h v0 11 27).bind fun x22 => (gfR h v0 11 2).bind fun a23 => (ald 0 h a23 3).bind fun x24 => (if (x21 + x22) ≤ x24 then (gfR h v0 11 5).bind fun a25 => (ald 0 h a25 9).bind fun x26 => (iter (Mod_goesRound_b288 v0 v1 v2 v3 v4 (75 + (13 * x26))) Lmax (0, h)).bind (fun (q288 : Int32 × AHeap) => Mod_goesRound_j323 v0 v1 v2 v3 v4 (75 + (13 * x26)) q288.1 q288.2) else some ((-5), h))
theorem Mod_goesRound_j246_J {E : JE} {l : Launch} {G : GX} {v : Int32} {h' : AHeap} (ok : JOK E l G kMod_goesRound 0 0 (some (.int v)) h') (v0 : Nat) (v1 : Int32) (v2 : Int32) (v3 : Int32) (v4 : Int32) (h : AHeap) : J E kMod_goesRound (Mod_goesRound_j246 v0 v1 v2 v3 v4 h) (fun z => z = (v, h')) 246 [some (.ref v0), some (.int v1), some (.int v2), some (.int v3), some (.int v4), none, none] [] h 0 0 := by
  unfold Mod_goesRound_j246
  refine J_aload_n (pc' := 247) ok (dOf dX11_goesRound 154 rfl) rfl rfl rfl ?_
  refine J_getR (ci := 11) (kf := 5) (C := RX11) (T := TX11) (N := 29) (pc' := 250) ok (dOf dX11_goesRound 155 rfl) rfl (by decide) rfl (by decide) win_11 wfl_X11_22 (fun a20 => ?_)
  refine J_bipush (v := 9) (pc' := 252) ok (dOf dX11_goesRound 156 rfl) rfl (by decide) ?_
  refine J_iald (pc' := 253) ok (dOf dX11_goesRound 157 rfl) rfl (fun x21 => ?_)
  refine J_aload_n (pc' := 254) ok (dOf dX11_goesRound 158 rfl) rfl rfl rfl ?_
  refine J_getI (ci := 11) (kf := 27) (C := RX11) (T := TX11) (N := 29) (pc' := 257) ok (dOf dX11_goesRound 159 rfl) rfl (by decide) rfl (by decide) win_11 wfl_X11_267 (fun x22 => ?_)
  refine J_iadd (pc' := 258) ok (dOf dX11_goesRound 160 rfl) rfl ?_
  refine J_aload_n (pc' := 259) ok (dOf dX11_goesRound 161 rfl) rfl rfl rfl ?_
  refine J_getR (ci := 11) (kf := 2) (C := RX11) (T := TX11) (N := 29) (pc' := 262) ok (dOf dX11_goesRound 162 rfl) rfl (by decide) rfl (by decide) win_11 wfl_X11_13 (fun a23 => ?_)
  refine J_iconst (v := 3) (pc' := 263) ok (dOf dX11_goesRound 163 rfl) rfl (by decide) ?_
  refine J_iald (pc' := 264) ok (dOf dX11_goesRound 164 rfl) rfl (fun x24 => ?_)
  refine J_icmp_le (tgt := 270) (pc' := 267) ok (dOf dX11_goesRound 165 rfl) rfl (by decide) ?_ ?_
  · refine J_bipush (v := 75) (pc' := 272) ok (dOf dX11_goesRound 168 rfl) rfl (by decide) ?_
    refine J_bipush (v := 13) (pc' := 274) ok (dOf dX11_goesRound 169 rfl) rfl (by decide) ?_
    refine J_aload_n (pc' := 275) ok (dOf dX11_goesRound 170 rfl) rfl rfl rfl ?_
    refine J_getR (ci := 11) (kf := 5) (C := RX11) (T := TX11) (N := 29) (pc' := 278) ok (dOf dX11_goesRound 171 rfl) rfl (by decide) rfl (by decide) win_11 wfl_X11_22 (fun a25 => ?_)
    refine J_bipush (v := 9) (pc' := 280) ok (dOf dX11_goesRound 172 rfl) rfl (by decide) ?_
    refine J_iald (pc' := 281) ok (dOf dX11_goesRound 173 rfl) rfl (fun x26 => ?_)
    refine J_imul (pc' := 282) ok (dOf dX11_goesRound 174 rfl) rfl ?_
    refine J_iadd (pc' := 283) ok (dOf dX11_goesRound 175 rfl) rfl ?_
    refine J_istore (ls' := [some (.ref v0), some (.int v1), some (.int v2), some (.int v3), some (.int v4), some (.int (75 + (13 * x26))), none]) (pc' := 285) ok (dOf dX11_goesRound 176 rfl) rfl (Nat.le_of_ble_eq_true rfl) rfl rfl ?_
    refine J_iconst (v := 0) (pc' := 286) ok (dOf dX11_goesRound 177 rfl) rfl (by decide) ?_
    refine J_istore (ls' := [some (.ref v0), some (.int v1), some (.int v2), some (.int v3), some (.int v4), some (.int (75 + (13 * x26))), some (.int 0)]) (pc' := 288) ok (dOf dX11_goesRound 178 rfl) rfl (Nat.le_of_ble_eq_true rfl) rfl rfl ?_
    refine J_iter (lf := fun z288 => [some (.ref v0), some (.int v1), some (.int v2), some (.int v3), some (.int v4), some (.int (75 + (13 * x26))), some (.int z288.1)]) (sf := fun _ => []) (hf := fun z288 => z288.2) (px := (fun (q288 : Int32 × AHeap) => 323)) (lx := (fun (q288 : Int32 × AHeap) => [some (.ref v0), some (.int v1), some (.int v2), some (.int v3), some (.int v4), some (.int (75 + (13 * x26))), some (.int q288.1)])) (sx := (fun (q288 : Int32 × AHeap) => [])) (hx := (fun (q288 : Int32 × AHeap) => q288.2)) (fun Y2 z288 m1 m2 => Mod_goesRound_b288_J ok v0 v1 v2 v3 v4 (75 + (13 * x26)) m1 m2 z288) (fun q288 => ?_) Lmax _
    exact Mod_goesRound_j323_J ok v0 v1 v2 v3 v4 (75 + (13 * x26)) q288.1 q288.2
  · refine J_bipush (v := (-5)) (pc' := 269) ok (dOf dX11_goesRound 166 rfl) rfl (by decide) ?_
    exact J_ireturn ok (dOf dX11_goesRound 167 rfl) rfl (Eq.refl 0) (Nat.le_refl 0)
def Mod_goesRound_j213 (v0 : Nat) (v1 : Int32) (v2 : Int32) (v3 : Int32) (v4 : Int32) (h : AHeap) : Option (Int32 × AHeap) :=
  (if v3 = 0 then Mod_goesRound_j246 v0 v1 v2 v3 v4 h else (gfR h v0 11 2).bind fun a37 => (ald 0 h a37 1).bind fun x38 => (if x38 = 0 then Mod_goesRound_j246 v0 v1 v2 v3 v4 h else (gfR h v0 11 5).bind fun a39 => (ald 0 h a39 10).bind fun x40 => (gfR h v0 11 2).bind fun a41 => (ald 0 h a41 1).bind fun x42 => (chk h v0 11).bind fun _ => bnd2 (Mod_goes v0 x42 h) fun x44 h43 => (ast 0 h43 a39 10 (x40 + x44)).bind fun h45 => Mod_goesRound_j246 v0 v1 v2 v3 v4 h45))
theorem Mod_goesRound_j213_J {E : JE} {l : Launch} {G : GX} {v : Int32} {h' : AHeap} (ok : JOK E l G kMod_goesRound 0 0 (some (.int v)) h') (v0 : Nat) (v1 : Int32) (v2 : Int32) (v3 : Int32) (v4 : Int32) (h : AHeap) : J E kMod_goesRound (Mod_goesRound_j213 v0 v1 v2 v3 v4 h) (fun z => z = (v, h')) 213 [some (.ref v0), some (.int v1), some (.int v2), some (.int v3), some (.int v4), none, none] [] h 0 0 := by
  unfold Mod_goesRound_j213
  refine J_iload_n (pc' := 214) ok (dOf dX11_goesRound 134 rfl) rfl rfl rfl ?_
  refine J_if_eq (tgt := 246) (pc' := 217) ok (dOf dX11_goesRound 135 rfl) rfl (by decide) ?_ ?_
  · exact Mod_goesRound_j246_J ok v0 v1 v2 v3 v4 h
  · refine J_aload_n (pc' := 218) ok (dOf dX11_goesRound 136 rfl) rfl rfl rfl ?_
    refine J_getR (ci := 11) (kf := 2) (C := RX11) (T := TX11) (N := 29) (pc' := 221) ok (dOf dX11_goesRound 137 rfl) rfl (by decide) rfl (by decide) win_11 wfl_X11_13 (fun a37 => ?_)
    refine J_iconst (v := 1) (pc' := 222) ok (dOf dX11_goesRound 138 rfl) rfl (by decide) ?_
    refine J_iald (pc' := 223) ok (dOf dX11_goesRound 139 rfl) rfl (fun x38 => ?_)
    refine J_if_eq (tgt := 246) (pc' := 226) ok (dOf dX11_goesRound 140 rfl) rfl (by decide) ?_ ?_
    · exact Mod_goesRound_j246_J ok v0 v1 v2 v3 v4 h
    · refine J_aload_n (pc' := 227) ok (dOf dX11_goesRound 141 rfl) rfl rfl rfl ?_
      refine J_getR (ci := 11) (kf := 5) (C := RX11) (T := TX11) (N := 29) (pc' := 230) ok (dOf dX11_goesRound 142 rfl) rfl (by decide) rfl (by decide) win_11 wfl_X11_22 (fun a39 => ?_)
      refine J_bipush (v := 10) (pc' := 232) ok (dOf dX11_goesRound 143 rfl) rfl (by decide) ?_
      refine J_dup2 (pc' := 233) ok (dOf dX11_goesRound 144 rfl) rfl rfl rfl ?_
      refine J_iald (pc' := 234) ok (dOf dX11_goesRound 145 rfl) rfl (fun x40 => ?_)
      refine J_aload_n (pc' := 235) ok (dOf dX11_goesRound 146 rfl) rfl rfl rfl ?_
      refine J_aload_n (pc' := 236) ok (dOf dX11_goesRound 147 rfl) rfl rfl rfl ?_
      refine J_getR (ci := 11) (kf := 2) (C := RX11) (T := TX11) (N := 29) (pc' := 239) ok (dOf dX11_goesRound 148 rfl) rfl (by decide) rfl (by decide) win_11 wfl_X11_13 (fun a41 => ?_)
      refine J_iconst (v := 1) (pc' := 240) ok (dOf dX11_goesRound 149 rfl) rfl (by decide) ?_
      refine J_iald (pc' := 241) ok (dOf dX11_goesRound 150 rfl) rfl (fun x42 => ?_)
      refine J_callVi (k2 := kMod_goes) (ci := 11) (T := TX11) (N := 29) (as := [.int x42]) (pc' := 244) ok (dOf dX11_goesRound 151 rfl) rfl (cw_Mod_goes (by decide) (by decide)) wml_X11_184 winst_X11_goes wsel_X11_goes rfl ⟨Nat.le_refl 0, Nat.le_refl 0⟩ (Nat.le_of_ble_eq_true rfl) rfl (fun _ _ hf => t_Mod_goes hf) (fun x44 h43 => ?_)
      refine J_iadd (pc' := 245) ok (dOf dX11_goesRound 152 rfl) rfl ?_
      refine J_iast (pc' := 246) ok (dOf dX11_goesRound 153 rfl) rfl (fun h45 _ => ?_)
      exact Mod_goesRound_j246_J ok v0 v1 v2 v3 v4 h45
def Mod_goesRound_j175 (v0 : Nat) (v1 : Int32) (v2 : Int32) (v3 : Int32) (v4 : Int32) (h : AHeap) : Option (Int32 × AHeap) :=
  (gfR h v0 11 5).bind fun a18 => (ald 0 h a18 5).bind fun x19 => (if x19 = (-1) then Mod_goesRound_j213 v0 v1 v2 v3 v4 h else (chk h v0 11).bind fun _ => bnd2 (Mod_gapNow v0 h) fun x47 h46 => (gfR h46 v0 11 2).bind fun a48 => (ald 0 h46 a48 2).bind fun x49 => (n32 (FP.fdiv (FP.i2f x49) 1148846080)).bind fun x50 => (if 0 < (Op.cmpValue (FP.fcmp x47 x50) .g) then Mod_goesRound_j213 v0 v1 v2 v3 v4 h46 else (gfR h46 v0 11 5).bind fun a51 => (ast 0 h46 a51 3 3).bind fun h52 => some (0, h52)))
theorem Mod_goesRound_j175_J {E : JE} {l : Launch} {G : GX} {v : Int32} {h' : AHeap} (ok : JOK E l G kMod_goesRound 0 0 (some (.int v)) h') (v0 : Nat) (v1 : Int32) (v2 : Int32) (v3 : Int32) (v4 : Int32) (h : AHeap) : J E kMod_goesRound (Mod_goesRound_j175 v0 v1 v2 v3 v4 h) (fun z => z = (v, h')) 175 [some (.ref v0), some (.int v1), some (.int v2), some (.int v3), some (.int v4), none, none] [] h 0 0 := by
  unfold Mod_goesRound_j175
  refine J_aload_n (pc' := 176) ok (dOf dX11_goesRound 110 rfl) rfl rfl rfl ?_
  refine J_getR (ci := 11) (kf := 5) (C := RX11) (T := TX11) (N := 29) (pc' := 179) ok (dOf dX11_goesRound 111 rfl) rfl (by decide) rfl (by decide) win_11 wfl_X11_22 (fun a18 => ?_)
  refine J_iconst (v := 5) (pc' := 180) ok (dOf dX11_goesRound 112 rfl) rfl (by decide) ?_
  refine J_iald (pc' := 181) ok (dOf dX11_goesRound 113 rfl) rfl (fun x19 => ?_)
  refine J_iconst (v := (-1)) (pc' := 182) ok (dOf dX11_goesRound 114 rfl) rfl (by decide) ?_
  refine J_icmp_eq (tgt := 213) (pc' := 185) ok (dOf dX11_goesRound 115 rfl) rfl (by decide) ?_ ?_
  · exact Mod_goesRound_j213_J ok v0 v1 v2 v3 v4 h
  · refine J_aload_n (pc' := 186) ok (dOf dX11_goesRound 116 rfl) rfl rfl rfl ?_
    refine J_callVf (k2 := kMod_gapNow) (ci := 11) (T := TX11) (N := 29) (as := []) (pc' := 189) ok (dOf dX11_goesRound 117 rfl) rfl (cw_Mod_gapNow (by decide) (by decide)) wml_X11_292 winst_X11_gapNow wsel_X11_gapNow rfl ⟨Nat.le_refl 0, Nat.le_refl 0⟩ (Nat.le_of_ble_eq_true rfl) rfl (fun _ _ hf => t_Mod_gapNow hf) (fun x47 h46 => ?_)
    refine J_aload_n (pc' := 190) ok (dOf dX11_goesRound 118 rfl) rfl rfl rfl ?_
    refine J_getR (ci := 11) (kf := 2) (C := RX11) (T := TX11) (N := 29) (pc' := 193) ok (dOf dX11_goesRound 119 rfl) rfl (by decide) rfl (by decide) win_11 wfl_X11_13 (fun a48 => ?_)
    refine J_iconst (v := 2) (pc' := 194) ok (dOf dX11_goesRound 120 rfl) rfl (by decide) ?_
    refine J_iald (pc' := 195) ok (dOf dX11_goesRound 121 rfl) rfl (fun x49 => ?_)
    refine J_i2f (pc' := 196) ok (dOf dX11_goesRound 122 rfl) rfl ?_
    refine J_ldcwf (v := 1148846080) (pc' := 199) ok (dOf dX11_goesRound 123 rfl) rfl wconf_X11_296 ?_
    refine J_fdiv (pc' := 200) ok (dOf dX11_goesRound 124 rfl) rfl ?_
    refine J_fcmp (pc' := 201) ok (dOf dX11_goesRound 125 rfl) rfl ?_
    refine J_if_gt (tgt := 213) (pc' := 204) ok (dOf dX11_goesRound 126 rfl) rfl (by decide) ?_ ?_
    · exact Mod_goesRound_j213_J ok v0 v1 v2 v3 v4 h46
    · refine J_aload_n (pc' := 205) ok (dOf dX11_goesRound 127 rfl) rfl rfl rfl ?_
      refine J_getR (ci := 11) (kf := 5) (C := RX11) (T := TX11) (N := 29) (pc' := 208) ok (dOf dX11_goesRound 128 rfl) rfl (by decide) rfl (by decide) win_11 wfl_X11_22 (fun a51 => ?_)
      refine J_iconst (v := 3) (pc' := 209) ok (dOf dX11_goesRound 129 rfl) rfl (by decide) ?_
      refine J_iconst (v := 3) (pc' := 210) ok (dOf dX11_goesRound 130 rfl) rfl (by decide) ?_
      refine J_iast (pc' := 211) ok (dOf dX11_goesRound 131 rfl) rfl (fun h52 _ => ?_)
      refine J_iconst (v := 0) (pc' := 212) ok (dOf dX11_goesRound 132 rfl) rfl (by decide) ?_
      exact J_ireturn ok (dOf dX11_goesRound 133 rfl) rfl (Eq.refl 0) (Nat.le_refl 0)
def Mod_goesRound_j136 (v0 : Nat) (v1 : Int32) (v2 : Int32) (v3 : Int32) (v4 : Int32) (h : AHeap) : Option (Int32 × AHeap) :=
  (chk h v0 11).bind fun _ => bnd2 (Mod_finds v0 v1 h) fun _ h15 => (gfR h15 v0 11 5).bind fun a16 => (ald 0 h15 a16 5).bind fun x17 => (if x17 = (-1) then Mod_goesRound_j175 v0 v1 v2 v3 v4 h15 else (gfR h15 v0 11 5).bind fun a53 => (ald 0 h15 a53 4).bind fun x54 => (gfR h15 v0 11 5).bind fun a55 => (ald 0 h15 a55 5).bind fun x56 => (if x54 < x56 then Mod_goesRound_j175 v0 v1 v2 v3 v4 h15 else (gfR h15 v0 11 5).bind fun a57 => (ast 0 h15 a57 3 1).bind fun h58 => some (0, h58)))
theorem Mod_goesRound_j136_J {E : JE} {l : Launch} {G : GX} {v : Int32} {h' : AHeap} (ok : JOK E l G kMod_goesRound 0 0 (some (.int v)) h') (v0 : Nat) (v1 : Int32) (v2 : Int32) (v3 : Int32) (v4 : Int32) (h : AHeap) : J E kMod_goesRound (Mod_goesRound_j136 v0 v1 v2 v3 v4 h) (fun z => z = (v, h')) 136 [some (.ref v0), some (.int v1), some (.int v2), some (.int v3), some (.int v4), none, none] [] h 0 0 := by
  unfold Mod_goesRound_j136
  refine J_aload_n (pc' := 137) ok (dOf dX11_goesRound 85 rfl) rfl rfl rfl ?_
  refine J_iload_n (pc' := 138) ok (dOf dX11_goesRound 86 rfl) rfl rfl rfl ?_
  refine J_callVv (k2 := kMod_finds) (ci := 11) (T := TX11) (N := 29) (as := [.int v1]) (pc' := 141) ok (dOf dX11_goesRound 87 rfl) rfl (cw_Mod_finds (by decide) (by decide)) wml_X11_289 winst_X11_finds wsel_X11_finds rfl ⟨Nat.le_refl 0, Nat.le_refl 0⟩ (Nat.le_of_ble_eq_true rfl) rfl (fun _ _ hf => t_Mod_finds hf) (fun _ h15 => ?_)
  refine J_aload_n (pc' := 142) ok (dOf dX11_goesRound 88 rfl) rfl rfl rfl ?_
  refine J_getR (ci := 11) (kf := 5) (C := RX11) (T := TX11) (N := 29) (pc' := 145) ok (dOf dX11_goesRound 89 rfl) rfl (by decide) rfl (by decide) win_11 wfl_X11_22 (fun a16 => ?_)
  refine J_iconst (v := 5) (pc' := 146) ok (dOf dX11_goesRound 90 rfl) rfl (by decide) ?_
  refine J_iald (pc' := 147) ok (dOf dX11_goesRound 91 rfl) rfl (fun x17 => ?_)
  refine J_iconst (v := (-1)) (pc' := 148) ok (dOf dX11_goesRound 92 rfl) rfl (by decide) ?_
  refine J_icmp_eq (tgt := 175) (pc' := 151) ok (dOf dX11_goesRound 93 rfl) rfl (by decide) ?_ ?_
  · exact Mod_goesRound_j175_J ok v0 v1 v2 v3 v4 h15
  · refine J_aload_n (pc' := 152) ok (dOf dX11_goesRound 94 rfl) rfl rfl rfl ?_
    refine J_getR (ci := 11) (kf := 5) (C := RX11) (T := TX11) (N := 29) (pc' := 155) ok (dOf dX11_goesRound 95 rfl) rfl (by decide) rfl (by decide) win_11 wfl_X11_22 (fun a53 => ?_)
    refine J_iconst (v := 4) (pc' := 156) ok (dOf dX11_goesRound 96 rfl) rfl (by decide) ?_
    refine J_iald (pc' := 157) ok (dOf dX11_goesRound 97 rfl) rfl (fun x54 => ?_)
    refine J_aload_n (pc' := 158) ok (dOf dX11_goesRound 98 rfl) rfl rfl rfl ?_
    refine J_getR (ci := 11) (kf := 5) (C := RX11) (T := TX11) (N := 29) (pc' := 161) ok (dOf dX11_goesRound 99 rfl) rfl (by decide) rfl (by decide) win_11 wfl_X11_22 (fun a55 => ?_)
    refine J_iconst (v := 5) (pc' := 162) ok (dOf dX11_goesRound 100 rfl) rfl (by decide) ?_
    refine J_iald (pc' := 163) ok (dOf dX11_goesRound 101 rfl) rfl (fun x56 => ?_)
    refine J_icmp_lt (tgt := 175) (pc' := 166) ok (dOf dX11_goesRound 102 rfl) rfl (by decide) ?_ ?_
    · exact Mod_goesRound_j175_J ok v0 v1 v2 v3 v4 h15
    · refine J_aload_n (pc' := 167) ok (dOf dX11_goesRound 103 rfl) rfl rfl rfl ?_
      refine J_getR (ci := 11) (kf := 5) (C := RX11) (T := TX11) (N := 29) (pc' := 170) ok (dOf dX11_goesRound 104 rfl) rfl (by decide) rfl (by decide) win_11 wfl_X11_22 (fun a57 => ?_)
      refine J_iconst (v := 3) (pc' := 171) ok (dOf dX11_goesRound 105 rfl) rfl (by decide) ?_
      refine J_iconst (v := 1) (pc' := 172) ok (dOf dX11_goesRound 106 rfl) rfl (by decide) ?_
      refine J_iast (pc' := 173) ok (dOf dX11_goesRound 107 rfl) rfl (fun h58 _ => ?_)
      refine J_iconst (v := 0) (pc' := 174) ok (dOf dX11_goesRound 108 rfl) rfl (by decide) ?_
      exact J_ireturn ok (dOf dX11_goesRound 109 rfl) rfl (Eq.refl 0) (Nat.le_refl 0)
def Mod_goesRound_j120 (v0 : Nat) (v1 : Int32) (v2 : Int32) (v3 : Int32) (v4 : Int32) (h : AHeap) : Option (Int32 × AHeap) :=
  (gfR h v0 11 5).bind fun a61 => (ast 0 h a61 5 v4).bind fun h62 => (gfR h62 v0 11 5).bind fun a63 => (ast 0 h62 a63 6 v1).bind fun h64 => Mod_goesRound_j136 v0 v1 v2 v3 v4 h64
theorem Mod_goesRound_j120_J {E : JE} {l : Launch} {G : GX} {v : Int32} {h' : AHeap} (ok : JOK E l G kMod_goesRound 0 0 (some (.int v)) h') (v0 : Nat) (v1 : Int32) (v2 : Int32) (v3 : Int32) (v4 : Int32) (h : AHeap) : J E kMod_goesRound (Mod_goesRound_j120 v0 v1 v2 v3 v4 h) (fun z => z = (v, h')) 120 [some (.ref v0), some (.int v1), some (.int v2), some (.int v3), some (.int v4), none, none] [] h 0 0 := by
  unfold Mod_goesRound_j120
  refine J_aload_n (pc' := 121) ok (dOf dX11_goesRound 75 rfl) rfl rfl rfl ?_
  refine J_getR (ci := 11) (kf := 5) (C := RX11) (T := TX11) (N := 29) (pc' := 124) ok (dOf dX11_goesRound 76 rfl) rfl (by decide) rfl (by decide) win_11 wfl_X11_22 (fun a61 => ?_)
  refine J_iconst (v := 5) (pc' := 125) ok (dOf dX11_goesRound 77 rfl) rfl (by decide) ?_
  refine J_iload (pc' := 127) ok (dOf dX11_goesRound 78 rfl) rfl rfl ?_
  refine J_iast (pc' := 128) ok (dOf dX11_goesRound 79 rfl) rfl (fun h62 _ => ?_)
  refine J_aload_n (pc' := 129) ok (dOf dX11_goesRound 80 rfl) rfl rfl rfl ?_
  refine J_getR (ci := 11) (kf := 5) (C := RX11) (T := TX11) (N := 29) (pc' := 132) ok (dOf dX11_goesRound 81 rfl) rfl (by decide) rfl (by decide) win_11 wfl_X11_22 (fun a63 => ?_)
  refine J_bipush (v := 6) (pc' := 134) ok (dOf dX11_goesRound 82 rfl) rfl (by decide) ?_
  refine J_iload_n (pc' := 135) ok (dOf dX11_goesRound 83 rfl) rfl rfl rfl ?_
  refine J_iast (pc' := 136) ok (dOf dX11_goesRound 84 rfl) rfl (fun h64 _ => ?_)
  exact Mod_goesRound_j136_J ok v0 v1 v2 v3 v4 h64
def Mod_goesRound_j86 (v0 : Nat) (v1 : Int32) (v2 : Int32) (v3 : Int32) (h : AHeap) : Option (Int32 × AHeap) :=
  (chk h v0 11).bind fun _ => bnd2 (Mod_totalOf v0 v1 h) fun x14 h13 => (if x14 = (-1) then Mod_goesRound_j136 v0 v1 v2 v3 x14 h13 else (gfR h13 v0 11 5).bind fun a59 => (ald 0 h13 a59 5).bind fun x60 => (if x60 = (-1) then Mod_goesRound_j120 v0 v1 v2 v3 x14 h13 else (gfR h13 v0 11 5).bind fun a65 => (ald 0 h13 a65 5).bind fun x66 => (if x66 ≤ x14 then Mod_goesRound_j136 v0 v1 v2 v3 x14 h13 else Mod_goesRound_j120 v0 v1 v2 v3 x14 h13)))
theorem Mod_goesRound_j86_J {E : JE} {l : Launch} {G : GX} {v : Int32} {h' : AHeap} (ok : JOK E l G kMod_goesRound 0 0 (some (.int v)) h') (v0 : Nat) (v1 : Int32) (v2 : Int32) (v3 : Int32) (h : AHeap) : J E kMod_goesRound (Mod_goesRound_j86 v0 v1 v2 v3 h) (fun z => z = (v, h')) 86 [some (.ref v0), some (.int v1), some (.int v2), some (.int v3), none, none, none] [] h 0 0 := by
  unfold Mod_goesRound_j86
  refine J_aload_n (pc' := 87) ok (dOf dX11_goesRound 56 rfl) rfl rfl rfl ?_
  refine J_iload_n (pc' := 88) ok (dOf dX11_goesRound 57 rfl) rfl rfl rfl ?_
  refine J_callVi (k2 := kMod_totalOf) (ci := 11) (T := TX11) (N := 29) (as := [.int v1]) (pc' := 91) ok (dOf dX11_goesRound 58 rfl) rfl (cw_Mod_totalOf (by decide) (by decide)) wml_X11_286 winst_X11_totalOf wsel_X11_totalOf rfl ⟨Nat.le_refl 0, Nat.le_refl 0⟩ (Nat.le_of_ble_eq_true rfl) rfl (fun _ _ hf => t_Mod_totalOf hf) (fun x14 h13 => ?_)
  refine J_istore (ls' := [some (.ref v0), some (.int v1), some (.int v2), some (.int v3), some (.int x14), none, none]) (pc' := 93) ok (dOf dX11_goesRound 59 rfl) rfl (Nat.le_of_ble_eq_true rfl) rfl rfl ?_
  refine J_iload (pc' := 95) ok (dOf dX11_goesRound 60 rfl) rfl rfl ?_
  refine J_iconst (v := (-1)) (pc' := 96) ok (dOf dX11_goesRound 61 rfl) rfl (by decide) ?_
  refine J_icmp_eq (tgt := 136) (pc' := 99) ok (dOf dX11_goesRound 62 rfl) rfl (by decide) ?_ ?_
  · exact Mod_goesRound_j136_J ok v0 v1 v2 v3 x14 h13
  · refine J_aload_n (pc' := 100) ok (dOf dX11_goesRound 63 rfl) rfl rfl rfl ?_
    refine J_getR (ci := 11) (kf := 5) (C := RX11) (T := TX11) (N := 29) (pc' := 103) ok (dOf dX11_goesRound 64 rfl) rfl (by decide) rfl (by decide) win_11 wfl_X11_22 (fun a59 => ?_)
    refine J_iconst (v := 5) (pc' := 104) ok (dOf dX11_goesRound 65 rfl) rfl (by decide) ?_
    refine J_iald (pc' := 105) ok (dOf dX11_goesRound 66 rfl) rfl (fun x60 => ?_)
    refine J_iconst (v := (-1)) (pc' := 106) ok (dOf dX11_goesRound 67 rfl) rfl (by decide) ?_
    refine J_icmp_eq (tgt := 120) (pc' := 109) ok (dOf dX11_goesRound 68 rfl) rfl (by decide) ?_ ?_
    · exact Mod_goesRound_j120_J ok v0 v1 v2 v3 x14 h13
    · refine J_iload (pc' := 111) ok (dOf dX11_goesRound 69 rfl) rfl rfl ?_
      refine J_aload_n (pc' := 112) ok (dOf dX11_goesRound 70 rfl) rfl rfl rfl ?_
      refine J_getR (ci := 11) (kf := 5) (C := RX11) (T := TX11) (N := 29) (pc' := 115) ok (dOf dX11_goesRound 71 rfl) rfl (by decide) rfl (by decide) win_11 wfl_X11_22 (fun a65 => ?_)
      refine J_iconst (v := 5) (pc' := 116) ok (dOf dX11_goesRound 72 rfl) rfl (by decide) ?_
      refine J_iald (pc' := 117) ok (dOf dX11_goesRound 73 rfl) rfl (fun x66 => ?_)
      refine J_icmp_ge (tgt := 136) (pc' := 120) ok (dOf dX11_goesRound 74 rfl) rfl (by decide) ?_ ?_
      · exact Mod_goesRound_j136_J ok v0 v1 v2 v3 x14 h13
      · exact Mod_goesRound_j120_J ok v0 v1 v2 v3 x14 h13
def Mod_goesRound_j74 (v0 : Nat) (v1 : Int32) (v2 : Int32) (t0 : Int32) (h : AHeap) : Option (Int32 × AHeap) :=
  (if t0 = 0 then Mod_goesRound_j86 v0 v1 v2 t0 h else (gfR h v0 11 5).bind fun a67 => (ast 0 h a67 4 v2).bind fun h68 => Mod_goesRound_j86 v0 v1 v2 t0 h68)
theorem Mod_goesRound_j74_J {E : JE} {l : Launch} {G : GX} {v : Int32} {h' : AHeap} (ok : JOK E l G kMod_goesRound 0 0 (some (.int v)) h') (v0 : Nat) (v1 : Int32) (v2 : Int32) (t0 : Int32) (h : AHeap) : J E kMod_goesRound (Mod_goesRound_j74 v0 v1 v2 t0 h) (fun z => z = (v, h')) 74 [some (.ref v0), some (.int v1), some (.int v2), none, none, none, none] [.int t0] h 0 0 := by
  unfold Mod_goesRound_j74
  refine J_istore_n (ls' := [some (.ref v0), some (.int v1), some (.int v2), some (.int t0), none, none, none]) (pc' := 75) ok (dOf dX11_goesRound 48 rfl) rfl rfl (Nat.le_of_ble_eq_true rfl) rfl rfl ?_
  refine J_iload_n (pc' := 76) ok (dOf dX11_goesRound 49 rfl) rfl rfl rfl ?_
  refine J_if_eq (tgt := 86) (pc' := 79) ok (dOf dX11_goesRound 50 rfl) rfl (by decide) ?_ ?_
  · exact Mod_goesRound_j86_J ok v0 v1 v2 t0 h
  · refine J_aload_n (pc' := 80) ok (dOf dX11_goesRound 51 rfl) rfl rfl rfl ?_
    refine J_getR (ci := 11) (kf := 5) (C := RX11) (T := TX11) (N := 29) (pc' := 83) ok (dOf dX11_goesRound 52 rfl) rfl (by decide) rfl (by decide) win_11 wfl_X11_22 (fun a67 => ?_)
    refine J_iconst (v := 4) (pc' := 84) ok (dOf dX11_goesRound 53 rfl) rfl (by decide) ?_
    refine J_iload_n (pc' := 85) ok (dOf dX11_goesRound 54 rfl) rfl rfl rfl ?_
    refine J_iast (pc' := 86) ok (dOf dX11_goesRound 55 rfl) rfl (fun h68 _ => ?_)
    exact Mod_goesRound_j86_J ok v0 v1 v2 t0 h68
def Mod_goesRound_j69 (v0 : Nat) (v1 : Int32) (v2 : Int32) (h : AHeap) : Option (Int32 × AHeap) :=
  Mod_goesRound_j74 v0 v1 v2 1 h
theorem Mod_goesRound_j69_J {E : JE} {l : Launch} {G : GX} {v : Int32} {h' : AHeap} (ok : JOK E l G kMod_goesRound 0 0 (some (.int v)) h') (v0 : Nat) (v1 : Int32) (v2 : Int32) (h : AHeap) : J E kMod_goesRound (Mod_goesRound_j69 v0 v1 v2 h) (fun z => z = (v, h')) 69 [some (.ref v0), some (.int v1), some (.int v2), none, none, none, none] [] h 0 0 := by
  unfold Mod_goesRound_j69
  refine J_iconst (v := 1) (pc' := 70) ok (dOf dX11_goesRound 45 rfl) rfl (by decide) ?_
  refine J_goto (tgt := 74) ok (dOf dX11_goesRound 46 rfl) (by decide) ?_
  exact Mod_goesRound_j74_J ok v0 v1 v2 1 h
def Mod_goesRound (v0 : Nat) (h : AHeap) : Option (Int32 × AHeap) :=
  (gfR h v0 11 5).bind fun a1 => (ald 0 h a1 8).bind fun x2 => (ast 0 h a1 8 (x2 + 1)).bind fun h3 => (chk h3 v0 11).bind fun _ => bnd2 (Mod_masterOf v0 h3) fun x5 h4 => (gfR h4 v0 11 5).bind fun a6 => (ast 0 h4 a6 7 x5).bind fun h7 => (if ¬ x5 = (-1) then (chk h7 v0 11).bind fun _ => bnd2 (Mod_ages v0 x5 h7) fun _ h8 => (chk h8 v0 11).bind fun _ => bnd2 (Mod_floorOf v0 x5 h8) fun x10 h9 => (gfR h9 v0 11 5).bind fun a11 => (ald 0 h9 a11 4).bind fun x12 => (if x12 = (-1) then Mod_goesRound_j69 v0 x5 x10 h9 else (gfR h9 v0 11 5).bind fun a69 => (ald 0 h9 a69 4).bind fun x70 => (if x10 ≤ x70 then Mod_goesRound_j74 v0 x5 x10 0 h9 else Mod_goesRound_j69 v0 x5 x10 h9)) else (gfR h7 v0 11 5).bind fun a71 => (ast 0 h7 a71 3 2).bind fun h72 => some (0, h72))
theorem t_Mod_goesRound {l : Launch} {G : GX} {v0 : Nat} {h : AHeap} {v : Int32} {h1 : AHeap} (hf : Mod_goesRound v0 h = some (v, h1)) : CT l G kMod_goesRound 0 0 [.ref v0] h (some (.int v)) h1 := by
  refine CT_of (ls := [some (.ref v0), none, none, none, none, none, none]) (Z := fun z => z = (v, h1)) (by decide +kernel) (Nat.le_of_ble_eq_true rfl) hf rfl ⟨rfl, trivial⟩ (fun E ok => ?_)
  unfold Mod_goesRound
  refine J_aload_n (pc' := 1) ok (dOf dX11_goesRound 0 rfl) rfl rfl rfl ?_
  refine J_getR (ci := 11) (kf := 5) (C := RX11) (T := TX11) (N := 29) (pc' := 4) ok (dOf dX11_goesRound 1 rfl) rfl (by decide) rfl (by decide) win_11 wfl_X11_22 (fun a1 => ?_)
  refine J_bipush (v := 8) (pc' := 6) ok (dOf dX11_goesRound 2 rfl) rfl (by decide) ?_
  refine J_dup2 (pc' := 7) ok (dOf dX11_goesRound 3 rfl) rfl rfl rfl ?_
  refine J_iald (pc' := 8) ok (dOf dX11_goesRound 4 rfl) rfl (fun x2 => ?_)
  refine J_iconst (v := 1) (pc' := 9) ok (dOf dX11_goesRound 5 rfl) rfl (by decide) ?_
  refine J_iadd (pc' := 10) ok (dOf dX11_goesRound 6 rfl) rfl ?_
  refine J_iast (pc' := 11) ok (dOf dX11_goesRound 7 rfl) rfl (fun h3 _ => ?_)
  refine J_aload_n (pc' := 12) ok (dOf dX11_goesRound 8 rfl) rfl rfl rfl ?_
  refine J_callVi (k2 := kMod_masterOf) (ci := 11) (T := TX11) (N := 29) (as := []) (pc' := 15) ok (dOf dX11_goesRound 9 rfl) rfl (cw_Mod_masterOf (by decide) (by decide)) wml_X11_280 winst_X11_masterOf wsel_X11_masterOf rfl ⟨Nat.le_refl 0, Nat.le_refl 0⟩ (Nat.le_of_ble_eq_true rfl) rfl (fun _ _ hf => t_Mod_masterOf hf) (fun x5 h4 => ?_)
  refine J_istore_n (ls' := [some (.ref v0), some (.int x5), none, none, none, none, none]) (pc' := 16) ok (dOf dX11_goesRound 10 rfl) rfl rfl (Nat.le_of_ble_eq_true rfl) rfl rfl ?_
  refine J_aload_n (pc' := 17) ok (dOf dX11_goesRound 11 rfl) rfl rfl rfl ?_
  refine J_getR (ci := 11) (kf := 5) (C := RX11) (T := TX11) (N := 29) (pc' := 20) ok (dOf dX11_goesRound 12 rfl) rfl (by decide) rfl (by decide) win_11 wfl_X11_22 (fun a6 => ?_)
  refine J_bipush (v := 7) (pc' := 22) ok (dOf dX11_goesRound 13 rfl) rfl (by decide) ?_
  refine J_iload_n (pc' := 23) ok (dOf dX11_goesRound 14 rfl) rfl rfl rfl ?_
  refine J_iast (pc' := 24) ok (dOf dX11_goesRound 15 rfl) rfl (fun h7 _ => ?_)
  refine J_iload_n (pc' := 25) ok (dOf dX11_goesRound 16 rfl) rfl rfl rfl ?_
  refine J_iconst (v := (-1)) (pc' := 26) ok (dOf dX11_goesRound 17 rfl) rfl (by decide) ?_
  refine J_icmp_ne (tgt := 38) (pc' := 29) ok (dOf dX11_goesRound 18 rfl) rfl (by decide) ?_ ?_
  · refine J_aload_n (pc' := 39) ok (dOf dX11_goesRound 26 rfl) rfl rfl rfl ?_
    refine J_iload_n (pc' := 40) ok (dOf dX11_goesRound 27 rfl) rfl rfl rfl ?_
    refine J_callVv (k2 := kMod_ages) (ci := 11) (T := TX11) (N := 29) (as := [.int x5]) (pc' := 43) ok (dOf dX11_goesRound 28 rfl) rfl (cw_Mod_ages (by decide) (by decide)) wml_X11_283 winst_X11_ages wsel_X11_ages rfl ⟨Nat.le_refl 0, Nat.le_refl 0⟩ (Nat.le_of_ble_eq_true rfl) rfl (fun _ _ hf => t_Mod_ages hf) (fun _ h8 => ?_)
    refine J_aload_n (pc' := 44) ok (dOf dX11_goesRound 29 rfl) rfl rfl rfl ?_
    refine J_iload_n (pc' := 45) ok (dOf dX11_goesRound 30 rfl) rfl rfl rfl ?_
    refine J_callVi (k2 := kMod_floorOf) (ci := 11) (T := TX11) (N := 29) (as := [.int x5]) (pc' := 48) ok (dOf dX11_goesRound 31 rfl) rfl (cw_Mod_floorOf (by decide) (by decide)) wml_X11_277 winst_X11_floorOf wsel_X11_floorOf rfl ⟨Nat.le_refl 0, Nat.le_refl 0⟩ (Nat.le_of_ble_eq_true rfl) rfl (fun _ _ hf => t_Mod_floorOf hf) (fun x10 h9 => ?_)
    refine J_istore_n (ls' := [some (.ref v0), some (.int x5), some (.int x10), none, none, none, none]) (pc' := 49) ok (dOf dX11_goesRound 32 rfl) rfl rfl (Nat.le_of_ble_eq_true rfl) rfl rfl ?_
    refine J_aload_n (pc' := 50) ok (dOf dX11_goesRound 33 rfl) rfl rfl rfl ?_
    refine J_getR (ci := 11) (kf := 5) (C := RX11) (T := TX11) (N := 29) (pc' := 53) ok (dOf dX11_goesRound 34 rfl) rfl (by decide) rfl (by decide) win_11 wfl_X11_22 (fun a11 => ?_)
    refine J_iconst (v := 4) (pc' := 54) ok (dOf dX11_goesRound 35 rfl) rfl (by decide) ?_
    refine J_iald (pc' := 55) ok (dOf dX11_goesRound 36 rfl) rfl (fun x12 => ?_)
    refine J_iconst (v := (-1)) (pc' := 56) ok (dOf dX11_goesRound 37 rfl) rfl (by decide) ?_
    refine J_icmp_eq (tgt := 69) (pc' := 59) ok (dOf dX11_goesRound 38 rfl) rfl (by decide) ?_ ?_
    · exact Mod_goesRound_j69_J ok v0 x5 x10 h9
    · refine J_iload_n (pc' := 60) ok (dOf dX11_goesRound 39 rfl) rfl rfl rfl ?_
      refine J_aload_n (pc' := 61) ok (dOf dX11_goesRound 40 rfl) rfl rfl rfl ?_
      refine J_getR (ci := 11) (kf := 5) (C := RX11) (T := TX11) (N := 29) (pc' := 64) ok (dOf dX11_goesRound 41 rfl) rfl (by decide) rfl (by decide) win_11 wfl_X11_22 (fun a69 => ?_)
      refine J_iconst (v := 4) (pc' := 65) ok (dOf dX11_goesRound 42 rfl) rfl (by decide) ?_
      refine J_iald (pc' := 66) ok (dOf dX11_goesRound 43 rfl) rfl (fun x70 => ?_)
      refine J_icmp_le (tgt := 73) (pc' := 69) ok (dOf dX11_goesRound 44 rfl) rfl (by decide) ?_ ?_
      · refine J_iconst (v := 0) (pc' := 74) ok (dOf dX11_goesRound 47 rfl) rfl (by decide) ?_
        exact Mod_goesRound_j74_J ok v0 x5 x10 0 h9
      · exact Mod_goesRound_j69_J ok v0 x5 x10 h9
  · refine J_aload_n (pc' := 30) ok (dOf dX11_goesRound 19 rfl) rfl rfl rfl ?_
    refine J_getR (ci := 11) (kf := 5) (C := RX11) (T := TX11) (N := 29) (pc' := 33) ok (dOf dX11_goesRound 20 rfl) rfl (by decide) rfl (by decide) win_11 wfl_X11_22 (fun a71 => ?_)
    refine J_iconst (v := 3) (pc' := 34) ok (dOf dX11_goesRound 21 rfl) rfl (by decide) ?_
    refine J_iconst (v := 2) (pc' := 35) ok (dOf dX11_goesRound 22 rfl) rfl (by decide) ?_
    refine J_iast (pc' := 36) ok (dOf dX11_goesRound 23 rfl) rfl (fun h72 _ => ?_)
    refine J_iconst (v := 0) (pc' := 37) ok (dOf dX11_goesRound 24 rfl) rfl (by decide) ?_
    exact J_ireturn ok (dOf dX11_goesRound 25 rfl) rfl (Eq.refl 0) (Nat.le_refl 0)
-- X11_comesBack
abbrev kMod_comesBack : Cd := (yX11_comesBack, cX11_comesBack, 3, none, 0, 0)
theorem dX11_comesBack : dcheck cX11_comesBack [(0, .iconst 0, 1), (1, .istore_n 2, 1), (2, .iload_n 2, 1), (3, .sipush 1427, 3), (6, .if_icmp .ge 18, 3), (9, .aload_n 0, 1), (10, .getfield 22, 3), (13, .iload_n 2, 1), (14, .aload_n 1, 1), (15, .iload_n 2, 1), (16, .iaload, 1), (17, .iastore, 1), (18, .iinc 2 1, 3), (21, .goto (-19), 3), (24, .return_, 1)] = true := by decide +kernel
theorem cw_Mod_comesBack {k : Cd} (h1 : kMod_comesBack.2.2.2.2.1 + 1 ≤ k.2.2.2.2.1) (h2 : 8 + (kMod_comesBack.2.2.1 + 11) + kMod_comesBack.2.2.2.2.2 ≤ k.2.2.2.2.2) : Cw k kMod_comesBack 1 := ⟨wcode_X11_comesBack, wini_SplitProgramModel, ⟨by decide, by decide, by decide +kernel⟩, h1, h2⟩
def Mod_comesBack_b2 (v0 : Nat) (v1 : Nat) (s : Int32 × AHeap) : Option ((Int32 × AHeap) ⊕ ((Int32 × AHeap))) :=
  (if 1427 ≤ s.1 then some (Sum.inr (s.1, s.2)) else (gfR s.2 v0 11 5).bind fun a1 => (ald 0 s.2 v1 s.1).bind fun x2 => (ast 0 s.2 a1 s.1 x2).bind fun h3 => some (Sum.inl (s.1 + 1, h3)))
theorem Mod_comesBack_b2_J {E : JE} {l : Launch} {G : GX} {r : Option Value} {h' : AHeap} (ok : JOK E l G kMod_comesBack 0 0 r h') (v0 : Nat) (v1 : Nat) {Y : (Int32 × AHeap) ⊕ ((Int32 × AHeap)) → Prop} (k1 : ∀ s' : Int32 × AHeap, Y (.inl s') → JW E kMod_comesBack 2 [some (.ref v0), some (.ref v1), some (.int s'.1)] [] s'.2 0 0) (kx24 : ∀ q : Int32 × AHeap, Y (.inr q) → JW E kMod_comesBack 24 [some (.ref v0), some (.ref v1), some (.int q.1)] [] q.2 0 0) (s : Int32 × AHeap) : J E kMod_comesBack (Mod_comesBack_b2 v0 v1 s) Y 2 [some (.ref v0), some (.ref v1), some (.int s.1)] [] s.2 0 0 := by
  unfold Mod_comesBack_b2
  refine J_iload_n (pc' := 3) ok (dOf dX11_comesBack 2 rfl) rfl rfl rfl ?_
  refine J_sipush (v := 1427) (pc' := 6) ok (dOf dX11_comesBack 3 rfl) rfl (by decide) ?_
  refine J_icmp_ge (tgt := 24) (pc' := 9) ok (dOf dX11_comesBack 4 rfl) rfl (by decide) ?_ ?_
  · exact J_fin (kx24 (s.1, s.2))
  · refine J_aload_n (pc' := 10) ok (dOf dX11_comesBack 5 rfl) rfl rfl rfl ?_
    refine J_getR (ci := 11) (kf := 5) (C := RX11) (T := TX11) (N := 29) (pc' := 13) ok (dOf dX11_comesBack 6 rfl) rfl (by decide) rfl (by decide) win_11 wfl_X11_22 (fun a1 => ?_)
    refine J_iload_n (pc' := 14) ok (dOf dX11_comesBack 7 rfl) rfl rfl rfl ?_
    refine J_aload_n (pc' := 15) ok (dOf dX11_comesBack 8 rfl) rfl rfl rfl ?_
    refine J_iload_n (pc' := 16) ok (dOf dX11_comesBack 9 rfl) rfl rfl rfl ?_
    refine J_iald (pc' := 17) ok (dOf dX11_comesBack 10 rfl) rfl (fun x2 => ?_)
    refine J_iast (pc' := 18) ok (dOf dX11_comesBack 11 rfl) rfl (fun h3 _ => ?_)
    refine J_iinc (v := s.1 + 1) (ls' := [some (.ref v0), some (.ref v1), some (.int (s.1 + 1))]) (pc' := 21) ok (dOf dX11_comesBack 12 rfl) rfl rfl (by rfl) (Nat.le_of_ble_eq_true rfl) rfl rfl ?_
    refine J_goto (tgt := 2) ok (dOf dX11_comesBack 13 rfl) (by decide) ?_
    exact J_fin (k1 (s.1 + 1, h3))
def Mod_comesBack_j24 (v0 : Nat) (v1 : Nat) (v2 : Int32) (h : AHeap) : Option (Unit × AHeap) :=
  some ((), h)
theorem Mod_comesBack_j24_J {E : JE} {l : Launch} {G : GX} {h' : AHeap} (ok : JOK E l G kMod_comesBack 0 0 none h') (v0 : Nat) (v1 : Nat) (v2 : Int32) (h : AHeap) : J E kMod_comesBack (Mod_comesBack_j24 v0 v1 v2 h) (fun z => z = ((), h')) 24 [some (.ref v0), some (.ref v1), some (.int v2)] [] h 0 0 := by
  unfold Mod_comesBack_j24
  exact J_vreturn ok (dOf dX11_comesBack 14 rfl) rfl (Eq.refl 0) (Nat.le_refl 0)
def Mod_comesBack (v0 : Nat) (v1 : Nat) (h : AHeap) : Option (Unit × AHeap) :=
  (iter (Mod_comesBack_b2 v0 v1) Lmax (0, h)).bind (fun (q2 : Int32 × AHeap) => Mod_comesBack_j24 v0 v1 q2.1 q2.2)
theorem t_Mod_comesBack {l : Launch} {G : GX} {v0 : Nat} {v1 : Nat} {h : AHeap} {h1 : AHeap} (hf : Mod_comesBack v0 v1 h = some ((), h1)) : CT l G kMod_comesBack 0 0 [.ref v0, .ref v1] h none h1 := by
  refine CT_of (ls := [some (.ref v0), some (.ref v1), none]) (Z := fun z => z = ((), h1)) (by decide +kernel) (Nat.le_of_ble_eq_true rfl) hf rfl ⟨rfl, rfl, trivial⟩ (fun E ok => ?_)
  unfold Mod_comesBack
  refine J_iconst (v := 0) (pc' := 1) ok (dOf dX11_comesBack 0 rfl) rfl (by decide) ?_
  refine J_istore_n (ls' := [some (.ref v0), some (.ref v1), some (.int 0)]) (pc' := 2) ok (dOf dX11_comesBack 1 rfl) rfl rfl (Nat.le_of_ble_eq_true rfl) rfl rfl ?_
  refine J_iter (lf := fun z2 => [some (.ref v0), some (.ref v1), some (.int z2.1)]) (sf := fun _ => []) (hf := fun z2 => z2.2) (px := (fun (q2 : Int32 × AHeap) => 24)) (lx := (fun (q2 : Int32 × AHeap) => [some (.ref v0), some (.ref v1), some (.int q2.1)])) (sx := (fun (q2 : Int32 × AHeap) => [])) (hx := (fun (q2 : Int32 × AHeap) => q2.2)) (fun Y2 z2 m1 m2 => Mod_comesBack_b2_J ok v0 v1 m1 m2 z2) (fun q2 => ?_) Lmax _
  exact Mod_comesBack_j24_J ok v0 v1 q2.1 q2.2
-- X11_round
abbrev kMod_round : Cd := (yX11_round, cX11_round, 2, (some .int), 9, 221)
theorem dX11_round : dcheck cX11_round [(0, .aload_n 0, 1), (1, .getfield 22, 3), (4, .iconst 3, 1), (5, .iaload, 1), (6, .ifCond .eq 10, 3), (9, .aload_n 0, 1), (10, .bipush (-3), 2), (12, .invokevirtual 85, 3), (15, .ireturn, 1), (16, .aload_n 0, 1), (17, .invokevirtual 172, 3), (20, .aload_n 0, 1), (21, .invokevirtual 297, 3), (24, .istore_n 1, 1), (25, .iload_n 1, 1), (26, .ifCond .ge 18, 3), (29, .aload_n 0, 1), (30, .aload_n 0, 1), (31, .getfield 25, 3), (34, .invokevirtual 300, 3), (37, .aload_n 0, 1), (38, .bipush (-5), 2), (40, .invokevirtual 85, 3), (43, .ireturn, 1), (44, .aload_n 0, 1), (45, .bipush 7, 2), (47, .invokevirtual 178, 3), (50, .aload_n 0, 1), (51, .iload_n 1, 1), (52, .invokevirtual 89, 3), (55, .ireturn, 1)] = true := by decide +kernel
theorem cw_Mod_round {k : Cd} (h1 : kMod_round.2.2.2.2.1 + 1 ≤ k.2.2.2.2.1) (h2 : 8 + (kMod_round.2.2.1 + 11) + kMod_round.2.2.2.2.2 ≤ k.2.2.2.2.2) : Cw k kMod_round 0 := ⟨wcode_X11_round, wini_SplitProgramModel, ⟨by decide, by decide, by decide +kernel⟩, h1, h2⟩
def Mod_round (v0 : Nat) (h : AHeap) : Option (Int32 × AHeap) :=
  (gfR h v0 11 5).bind fun a1 => (ald 0 h a1 3).bind fun x2 => (if x2 = 0 then (chk h v0 11).bind fun _ => bnd2 (Mod_keepsAhead v0 h) fun _ h3 => (chk h3 v0 11).bind fun _ => bnd2 (Mod_goesRound v0 h3) fun x5 h4 => (if 0 ≤ x5 then (chk h4 v0 11).bind fun _ => bnd2 (Mod_keeps v0 7 h4) fun _ h6 => (chk h6 v0 11).bind fun _ => bnd2 (Mod_tells v0 x5 h6) fun x8 h7 => some (x8, h7) else (gfR h4 v0 11 6).bind fun a9 => (chk h4 v0 11).bind fun _ => bnd2 (Mod_comesBack v0 a9 h4) fun _ h10 => (chk h10 v0 11).bind fun _ => bnd2 (Mod_refuses v0 (-5) h10) fun x12 h11 => some (x12, h11)) else (chk h v0 11).bind fun _ => bnd2 (Mod_refuses v0 (-3) h) fun x14 h13 => some (x14, h13))
theorem t_Mod_round {l : Launch} {G : GX} {v0 : Nat} {h : AHeap} {v : Int32} {h1 : AHeap} (hf : Mod_round v0 h = some (v, h1)) : CT l G kMod_round 0 0 [.ref v0] h (some (.int v)) h1 := by
  refine CT_of (ls := [some (.ref v0), none]) (Z := fun z => z = (v, h1)) (by decide +kernel) (Nat.le_of_ble_eq_true rfl) hf rfl ⟨rfl, trivial⟩ (fun E ok => ?_)
  unfold Mod_round
  refine J_aload_n (pc' := 1) ok (dOf dX11_round 0 rfl) rfl rfl rfl ?_
  refine J_getR (ci := 11) (kf := 5) (C := RX11) (T := TX11) (N := 29) (pc' := 4) ok (dOf dX11_round 1 rfl) rfl (by decide) rfl (by decide) win_11 wfl_X11_22 (fun a1 => ?_)
  refine J_iconst (v := 3) (pc' := 5) ok (dOf dX11_round 2 rfl) rfl (by decide) ?_
  refine J_iald (pc' := 6) ok (dOf dX11_round 3 rfl) rfl (fun x2 => ?_)
  refine J_if_eq (tgt := 16) (pc' := 9) ok (dOf dX11_round 4 rfl) rfl (by decide) ?_ ?_
  · refine J_aload_n (pc' := 17) ok (dOf dX11_round 9 rfl) rfl rfl rfl ?_
    refine J_callVv (k2 := kMod_keepsAhead) (ci := 11) (T := TX11) (N := 29) (as := []) (pc' := 20) ok (dOf dX11_round 10 rfl) rfl (cw_Mod_keepsAhead (by decide) (by decide)) wml_X11_172 winst_X11_keepsAhead wsel_X11_keepsAhead rfl ⟨Nat.le_refl 0, Nat.le_refl 0⟩ (Nat.le_of_ble_eq_true rfl) rfl (fun _ _ hf => t_Mod_keepsAhead hf) (fun _ h3 => ?_)
    refine J_aload_n (pc' := 21) ok (dOf dX11_round 11 rfl) rfl rfl rfl ?_
    refine J_callVi (k2 := kMod_goesRound) (ci := 11) (T := TX11) (N := 29) (as := []) (pc' := 24) ok (dOf dX11_round 12 rfl) rfl (cw_Mod_goesRound (by decide) (by decide)) wml_X11_297 winst_X11_goesRound wsel_X11_goesRound rfl ⟨Nat.le_refl 0, Nat.le_refl 0⟩ (Nat.le_of_ble_eq_true rfl) rfl (fun _ _ hf => t_Mod_goesRound hf) (fun x5 h4 => ?_)
    refine J_istore_n (ls' := [some (.ref v0), some (.int x5)]) (pc' := 25) ok (dOf dX11_round 13 rfl) rfl rfl (Nat.le_of_ble_eq_true rfl) rfl rfl ?_
    refine J_iload_n (pc' := 26) ok (dOf dX11_round 14 rfl) rfl rfl rfl ?_
    refine J_if_ge (tgt := 44) (pc' := 29) ok (dOf dX11_round 15 rfl) rfl (by decide) ?_ ?_
    · refine J_aload_n (pc' := 45) ok (dOf dX11_round 24 rfl) rfl rfl rfl ?_
      refine J_bipush (v := 7) (pc' := 47) ok (dOf dX11_round 25 rfl) rfl (by decide) ?_
      refine J_callVv (k2 := kMod_keeps) (ci := 11) (T := TX11) (N := 29) (as := [.int 7]) (pc' := 50) ok (dOf dX11_round 26 rfl) rfl (cw_Mod_keeps (by decide) (by decide)) wml_X11_178 winst_X11_keeps wsel_X11_keeps rfl ⟨Nat.le_refl 0, Nat.le_refl 0⟩ (Nat.le_of_ble_eq_true rfl) rfl (fun _ _ hf => t_Mod_keeps hf) (fun _ h6 => ?_)
      refine J_aload_n (pc' := 51) ok (dOf dX11_round 27 rfl) rfl rfl rfl ?_
      refine J_iload_n (pc' := 52) ok (dOf dX11_round 28 rfl) rfl rfl rfl ?_
      refine J_callVi (k2 := kMod_tells) (ci := 11) (T := TX11) (N := 29) (as := [.int x5]) (pc' := 55) ok (dOf dX11_round 29 rfl) rfl (cw_Mod_tells (by decide) (by decide)) wml_X11_89 winst_X11_tells wsel_X11_tells rfl ⟨Nat.le_refl 0, Nat.le_refl 0⟩ (Nat.le_of_ble_eq_true rfl) rfl (fun _ _ hf => t_Mod_tells hf) (fun x8 h7 => ?_)
      exact J_ireturn ok (dOf dX11_round 30 rfl) rfl (Eq.refl 0) (Nat.le_refl 0)
    · refine J_aload_n (pc' := 30) ok (dOf dX11_round 16 rfl) rfl rfl rfl ?_
      refine J_aload_n (pc' := 31) ok (dOf dX11_round 17 rfl) rfl rfl rfl ?_
      refine J_getR (ci := 11) (kf := 6) (C := RX11) (T := TX11) (N := 29) (pc' := 34) ok (dOf dX11_round 18 rfl) rfl (by decide) rfl (by decide) win_11 wfl_X11_25 (fun a9 => ?_)
      refine J_callVv (k2 := kMod_comesBack) (ci := 11) (T := TX11) (N := 29) (as := [.ref a9]) (pc' := 37) ok (dOf dX11_round 19 rfl) rfl (cw_Mod_comesBack (by decide) (by decide)) wml_X11_300 winst_X11_comesBack wsel_X11_comesBack rfl ⟨Nat.le_refl 0, Nat.le_refl 0⟩ (Nat.le_of_ble_eq_true rfl) rfl (fun _ _ hf => t_Mod_comesBack hf) (fun _ h10 => ?_)
      refine J_aload_n (pc' := 38) ok (dOf dX11_round 20 rfl) rfl rfl rfl ?_
      refine J_bipush (v := (-5)) (pc' := 40) ok (dOf dX11_round 21 rfl) rfl (by decide) ?_
      refine J_callVi (k2 := kMod_refuses) (ci := 11) (T := TX11) (N := 29) (as := [.int (-5)]) (pc' := 43) ok (dOf dX11_round 22 rfl) rfl (cw_Mod_refuses (by decide) (by decide)) wml_X11_85 winst_X11_refuses wsel_X11_refuses rfl ⟨Nat.le_refl 0, Nat.le_refl 0⟩ (Nat.le_of_ble_eq_true rfl) rfl (fun _ _ hf => t_Mod_refuses hf) (fun x12 h11 => ?_)
      exact J_ireturn ok (dOf dX11_round 23 rfl) rfl (Eq.refl 0) (Nat.le_refl 0)
  · refine J_aload_n (pc' := 10) ok (dOf dX11_round 5 rfl) rfl rfl rfl ?_
    refine J_bipush (v := (-3)) (pc' := 12) ok (dOf dX11_round 6 rfl) rfl (by decide) ?_
    refine J_callVi (k2 := kMod_refuses) (ci := 11) (T := TX11) (N := 29) (as := [.int (-3)]) (pc' := 15) ok (dOf dX11_round 7 rfl) rfl (cw_Mod_refuses (by decide) (by decide)) wml_X11_85 winst_X11_refuses wsel_X11_refuses rfl ⟨Nat.le_refl 0, Nat.le_refl 0⟩ (Nat.le_of_ble_eq_true rfl) rfl (fun _ _ hf => t_Mod_refuses hf) (fun x14 h13 => ?_)
    exact J_ireturn ok (dOf dX11_round 8 rfl) rfl (Eq.refl 0) (Nat.le_refl 0)
-- X11_go
abbrev kMod_go : Cd := (yX11_go, cX11_go, 5, (some .int), 9, 221)
theorem dX11_go : dcheck cX11_go [(0, .iload_n 1, 1), (1, .iconst 1, 1), (2, .bipush 99, 2), (4, .invokestatic 75, 3), (7, .ifCond .ne 9, 3), (10, .aload_n 0, 1), (11, .iconst (-1), 1), (12, .invokevirtual 85, 3), (15, .ireturn, 1), (16, .aload_n 0, 1), (17, .getfield 22, 3), (20, .iconst 3, 1), (21, .iaload, 1), (22, .ifCond .eq 10, 3), (25, .aload_n 0, 1), (26, .bipush (-3), 2), (28, .invokevirtual 85, 3), (31, .ireturn, 1), (32, .aload_n 0, 1), (33, .invokevirtual 172, 3), (36, .iconst 0, 1), (37, .istore_n 2, 1), (38, .iconst 1, 1), (39, .istore_n 3, 1), (40, .iload_n 3, 1), (41, .ifCond .eq 82, 3), (44, .iload_n 2, 1), (45, .iload_n 1, 1), (46, .if_icmp .ge 77, 3), (49, .aload_n 0, 1), (50, .getfield 22, 3), (53, .iconst 3, 1), (54, .iaload, 1), (55, .ifCond .ne 68, 3), (58, .iconst 0, 1), (59, .istore 4, 2), (61, .iload 4, 2), (63, .sipush 1427, 3), (66, .if_icmp .ge 23, 3), (69, .aload_n 0, 1), (70, .getfield 28, 3), (73, .iload 4, 2), (75, .aload_n 0, 1), (76, .getfield 22, 3), (79, .iload 4, 2), (81, .iaload, 1), (82, .iastore, 1), (83, .iinc 4 1, 3), (86, .goto (-25), 3), (89, .aload_n 0, 1), (90, .invokevirtual 297, 3), (93, .ifCond .lt 7, 3), (96, .iconst 1, 1), (97, .goto 4, 3), (100, .iconst 0, 1), (101, .istore_n 3, 1), (102, .iload_n 3, 1), (103, .ifCond .eq 9, 3), (106, .iinc 2 1, 3), (109, .goto (-69), 3), (112, .aload_n 0, 1), (113, .aload_n 0, 1), (114, .getfield 28, 3), (117, .invokevirtual 300, 3), (120, .goto (-80), 3), (123, .iload_n 2, 1), (124, .ifCond .ne 10, 3), (127, .aload_n 0, 1), (128, .bipush (-5), 2), (130, .invokevirtual 85, 3), (133, .ireturn, 1), (134, .aload_n 0, 1), (135, .bipush 8, 2), (137, .invokevirtual 178, 3), (140, .aload_n 0, 1), (141, .iload_n 2, 1), (142, .invokevirtual 89, 3), (145, .ireturn, 1)] = true := by decide +kernel
theorem cw_Mod_go {k : Cd} (h1 : kMod_go.2.2.2.2.1 + 1 ≤ k.2.2.2.2.1) (h2 : 8 + (kMod_go.2.2.1 + 11) + kMod_go.2.2.2.2.2 ≤ k.2.2.2.2.2) : Cw k kMod_go 1 := ⟨wcode_X11_go, wini_SplitProgramModel, ⟨by decide, by decide, by decide +kernel⟩, h1, h2⟩
def Mod_go_b61 (v0 : Nat) (v1 : Int32) (v2 : Int32) (v3 : Int32) (s : Int32 × AHeap) : Option ((Int32 × AHeap) ⊕ ((Int32 × AHeap))) :=
  (if 1427 ≤ s.1 then some (Sum.inr (s.1, s.2)) else (gfR s.2 v0 11 7).bind fun a8 => (gfR s.2 v0 11 5).bind fun a9 => (ald 0 s.2 a9 s.1).bind fun x10 => (ast 0 s.2 a8 s.1 x10).bind fun h11 => some (Sum.inl (s.1 + 1, h11)))
theorem Mod_go_b61_J {E : JE} {l : Launch} {G : GX} {r : Option Value} {h' : AHeap} (ok : JOK E l G kMod_go 0 0 r h') (v0 : Nat) (v1 : Int32) (v2 : Int32) (v3 : Int32) {Y : (Int32 × AHeap) ⊕ ((Int32 × AHeap)) → Prop} (k1 : ∀ s' : Int32 × AHeap, Y (.inl s') → JW E kMod_go 61 [some (.ref v0), some (.int v1), some (.int v2), some (.int v3), some (.int s'.1)] [] s'.2 0 0) (kx89 : ∀ q : Int32 × AHeap, Y (.inr q) → JW E kMod_go 89 [some (.ref v0), some (.int v1), some (.int v2), some (.int v3), some (.int q.1)] [] q.2 0 0) (s : Int32 × AHeap) : J E kMod_go (Mod_go_b61 v0 v1 v2 v3 s) Y 61 [some (.ref v0), some (.int v1), some (.int v2), some (.int v3), some (.int s.1)] [] s.2 0 0 := by
  unfold Mod_go_b61
  refine J_iload (pc' := 63) ok (dOf dX11_go 36 rfl) rfl rfl ?_
  refine J_sipush (v := 1427) (pc' := 66) ok (dOf dX11_go 37 rfl) rfl (by decide) ?_
  refine J_icmp_ge (tgt := 89) (pc' := 69) ok (dOf dX11_go 38 rfl) rfl (by decide) ?_ ?_
  · exact J_fin (kx89 (s.1, s.2))
  · refine J_aload_n (pc' := 70) ok (dOf dX11_go 39 rfl) rfl rfl rfl ?_
    refine J_getR (ci := 11) (kf := 7) (C := RX11) (T := TX11) (N := 29) (pc' := 73) ok (dOf dX11_go 40 rfl) rfl (by decide) rfl (by decide) win_11 wfl_X11_28 (fun a8 => ?_)
    refine J_iload (pc' := 75) ok (dOf dX11_go 41 rfl) rfl rfl ?_
    refine J_aload_n (pc' := 76) ok (dOf dX11_go 42 rfl) rfl rfl rfl ?_
    refine J_getR (ci := 11) (kf := 5) (C := RX11) (T := TX11) (N := 29) (pc' := 79) ok (dOf dX11_go 43 rfl) rfl (by decide) rfl (by decide) win_11 wfl_X11_22 (fun a9 => ?_)
    refine J_iload (pc' := 81) ok (dOf dX11_go 44 rfl) rfl rfl ?_
    refine J_iald (pc' := 82) ok (dOf dX11_go 45 rfl) rfl (fun x10 => ?_)
    refine J_iast (pc' := 83) ok (dOf dX11_go 46 rfl) rfl (fun h11 _ => ?_)
    refine J_iinc (v := s.1 + 1) (ls' := [some (.ref v0), some (.int v1), some (.int v2), some (.int v3), some (.int (s.1 + 1))]) (pc' := 86) ok (dOf dX11_go 47 rfl) rfl rfl (by rfl) (Nat.le_of_ble_eq_true rfl) rfl rfl ?_
    refine J_goto (tgt := 61) ok (dOf dX11_go 48 rfl) (by decide) ?_
    exact J_fin (k1 (s.1 + 1, h11))
def Mod_go_j101 (v0 : Nat) (v1 : Int32) (v2 : Int32) (v3 : Int32) (v4 : Int32) (t0 : Int32) (h : AHeap) : Option ((Int32 × Int32 × AHeap) ⊕ ((Int32 × Int32 × AHeap))) :=
  (if t0 = 0 then (gfR h v0 11 7).bind fun a14 => (chk h v0 11).bind fun _ => bnd2 (Mod_comesBack v0 a14 h) fun _ h15 => some (Sum.inl (v2, t0, h15)) else some (Sum.inl (v2 + 1, t0, h)))
theorem Mod_go_j101_J {E : JE} {l : Launch} {G : GX} {r : Option Value} {h' : AHeap} (ok : JOK E l G kMod_go 0 0 r h') (v0 : Nat) (v1 : Int32) (v2 : Int32) (v3 : Int32) (v4 : Int32) (t0 : Int32) (h : AHeap) {Y : (Int32 × Int32 × AHeap) ⊕ ((Int32 × Int32 × AHeap)) → Prop} (k1 : ∀ s' : Int32 × Int32 × AHeap, Y (.inl s') → JW E kMod_go 40 [some (.ref v0), some (.int v1), some (.int s'.1), some (.int s'.2.1), none] [] s'.2.2 0 0) (kx123 : ∀ q : Int32 × Int32 × AHeap, Y (.inr q) → JW E kMod_go 123 [some (.ref v0), some (.int v1), some (.int q.1), some (.int q.2.1), none] [] q.2.2 0 0) : J E kMod_go (Mod_go_j101 v0 v1 v2 v3 v4 t0 h) Y 101 [some (.ref v0), some (.int v1), some (.int v2), some (.int v3), some (.int v4)] [.int t0] h 0 0 := by
  unfold Mod_go_j101
  refine J_istore_n (ls' := [some (.ref v0), some (.int v1), some (.int v2), some (.int t0), some (.int v4)]) (pc' := 102) ok (dOf dX11_go 55 rfl) rfl rfl (Nat.le_of_ble_eq_true rfl) rfl rfl ?_
  refine J_iload_n (pc' := 103) ok (dOf dX11_go 56 rfl) rfl rfl rfl ?_
  refine J_if_eq (tgt := 112) (pc' := 106) ok (dOf dX11_go 57 rfl) rfl (by decide) ?_ ?_
  · refine J_aload_n (pc' := 113) ok (dOf dX11_go 60 rfl) rfl rfl rfl ?_
    refine J_aload_n (pc' := 114) ok (dOf dX11_go 61 rfl) rfl rfl rfl ?_
    refine J_getR (ci := 11) (kf := 7) (C := RX11) (T := TX11) (N := 29) (pc' := 117) ok (dOf dX11_go 62 rfl) rfl (by decide) rfl (by decide) win_11 wfl_X11_28 (fun a14 => ?_)
    refine J_callVv (k2 := kMod_comesBack) (ci := 11) (T := TX11) (N := 29) (as := [.ref a14]) (pc' := 120) ok (dOf dX11_go 63 rfl) rfl (cw_Mod_comesBack (by decide) (by decide)) wml_X11_300 winst_X11_comesBack wsel_X11_comesBack rfl ⟨Nat.le_refl 0, Nat.le_refl 0⟩ (Nat.le_of_ble_eq_true rfl) rfl (fun _ _ hf => t_Mod_comesBack hf) (fun _ h15 => ?_)
    refine J_goto (tgt := 40) ok (dOf dX11_go 64 rfl) (by decide) ?_
    refine J_weak (ls' := [some (.ref v0), some (.int v1), some (.int v2), some (.int t0), none]) ⟨rfl, rfl, rfl, rfl, trivial⟩ ?_
    exact J_fin (k1 (v2, t0, h15))
  · refine J_iinc (v := v2 + 1) (ls' := [some (.ref v0), some (.int v1), some (.int (v2 + 1)), some (.int t0), some (.int v4)]) (pc' := 109) ok (dOf dX11_go 58 rfl) rfl rfl (by rfl) (Nat.le_of_ble_eq_true rfl) rfl rfl ?_
    refine J_goto (tgt := 40) ok (dOf dX11_go 59 rfl) (by decide) ?_
    refine J_weak (ls' := [some (.ref v0), some (.int v1), some (.int (v2 + 1)), some (.int t0), none]) ⟨rfl, rfl, rfl, rfl, trivial⟩ ?_
    exact J_fin (k1 (v2 + 1, t0, h))
def Mod_go_j89 (v0 : Nat) (v1 : Int32) (v2 : Int32) (v3 : Int32) (v4 : Int32) (h : AHeap) : Option ((Int32 × Int32 × AHeap) ⊕ ((Int32 × Int32 × AHeap))) :=
  (chk h v0 11).bind fun _ => bnd2 (Mod_goesRound v0 h) fun x13 h12 => (if x13 < 0 then Mod_go_j101 v0 v1 v2 v3 v4 0 h12 else Mod_go_j101 v0 v1 v2 v3 v4 1 h12)
theorem Mod_go_j89_J {E : JE} {l : Launch} {G : GX} {r : Option Value} {h' : AHeap} (ok : JOK E l G kMod_go 0 0 r h') (v0 : Nat) (v1 : Int32) (v2 : Int32) (v3 : Int32) (v4 : Int32) (h : AHeap) {Y : (Int32 × Int32 × AHeap) ⊕ ((Int32 × Int32 × AHeap)) → Prop} (k1 : ∀ s' : Int32 × Int32 × AHeap, Y (.inl s') → JW E kMod_go 40 [some (.ref v0), some (.int v1), some (.int s'.1), some (.int s'.2.1), none] [] s'.2.2 0 0) (kx123 : ∀ q : Int32 × Int32 × AHeap, Y (.inr q) → JW E kMod_go 123 [some (.ref v0), some (.int v1), some (.int q.1), some (.int q.2.1), none] [] q.2.2 0 0) : J E kMod_go (Mod_go_j89 v0 v1 v2 v3 v4 h) Y 89 [some (.ref v0), some (.int v1), some (.int v2), some (.int v3), some (.int v4)] [] h 0 0 := by
  unfold Mod_go_j89
  refine J_aload_n (pc' := 90) ok (dOf dX11_go 49 rfl) rfl rfl rfl ?_
  refine J_callVi (k2 := kMod_goesRound) (ci := 11) (T := TX11) (N := 29) (as := []) (pc' := 93) ok (dOf dX11_go 50 rfl) rfl (cw_Mod_goesRound (by decide) (by decide)) wml_X11_297 winst_X11_goesRound wsel_X11_goesRound rfl ⟨Nat.le_refl 0, Nat.le_refl 0⟩ (Nat.le_of_ble_eq_true rfl) rfl (fun _ _ hf => t_Mod_goesRound hf) (fun x13 h12 => ?_)
  refine J_if_lt (tgt := 100) (pc' := 96) ok (dOf dX11_go 51 rfl) rfl (by decide) ?_ ?_
  · refine J_iconst (v := 0) (pc' := 101) ok (dOf dX11_go 54 rfl) rfl (by decide) ?_
    exact Mod_go_j101_J ok v0 v1 v2 v3 v4 0 h12 k1 kx123
  · refine J_iconst (v := 1) (pc' := 97) ok (dOf dX11_go 52 rfl) rfl (by decide) ?_
    refine J_goto (tgt := 101) ok (dOf dX11_go 53 rfl) (by decide) ?_
    exact Mod_go_j101_J ok v0 v1 v2 v3 v4 1 h12 k1 kx123
def Mod_go_b40 (v0 : Nat) (v1 : Int32) (s : Int32 × Int32 × AHeap) : Option ((Int32 × Int32 × AHeap) ⊕ ((Int32 × Int32 × AHeap))) :=
  (if s.2.1 = 0 then some (Sum.inr (s.1, s.2.1, s.2.2)) else (if v1 ≤ s.1 then some (Sum.inr (s.1, s.2.1, s.2.2)) else (gfR s.2.2 v0 11 5).bind fun a6 => (ald 0 s.2.2 a6 3).bind fun x7 => (if ¬ x7 = 0 then some (Sum.inr (s.1, s.2.1, s.2.2)) else (iter (Mod_go_b61 v0 v1 s.1 s.2.1) Lmax (0, s.2.2)).bind (fun (q61 : Int32 × AHeap) => Mod_go_j89 v0 v1 s.1 s.2.1 q61.1 q61.2))))
theorem Mod_go_b40_J {E : JE} {l : Launch} {G : GX} {r : Option Value} {h' : AHeap} (ok : JOK E l G kMod_go 0 0 r h') (v0 : Nat) (v1 : Int32) {Y : (Int32 × Int32 × AHeap) ⊕ ((Int32 × Int32 × AHeap)) → Prop} (k1 : ∀ s' : Int32 × Int32 × AHeap, Y (.inl s') → JW E kMod_go 40 [some (.ref v0), some (.int v1), some (.int s'.1), some (.int s'.2.1), none] [] s'.2.2 0 0) (kx123 : ∀ q : Int32 × Int32 × AHeap, Y (.inr q) → JW E kMod_go 123 [some (.ref v0), some (.int v1), some (.int q.1), some (.int q.2.1), none] [] q.2.2 0 0) (s : Int32 × Int32 × AHeap) : J E kMod_go (Mod_go_b40 v0 v1 s) Y 40 [some (.ref v0), some (.int v1), some (.int s.1), some (.int s.2.1), none] [] s.2.2 0 0 := by
  unfold Mod_go_b40
  refine J_iload_n (pc' := 41) ok (dOf dX11_go 24 rfl) rfl rfl rfl ?_
  refine J_if_eq (tgt := 123) (pc' := 44) ok (dOf dX11_go 25 rfl) rfl (by decide) ?_ ?_
  · exact J_fin (kx123 (s.1, s.2.1, s.2.2))
  · refine J_iload_n (pc' := 45) ok (dOf dX11_go 26 rfl) rfl rfl rfl ?_
    refine J_iload_n (pc' := 46) ok (dOf dX11_go 27 rfl) rfl rfl rfl ?_
    refine J_icmp_ge (tgt := 123) (pc' := 49) ok (dOf dX11_go 28 rfl) rfl (by decide) ?_ ?_
    · exact J_fin (kx123 (s.1, s.2.1, s.2.2))
    · refine J_aload_n (pc' := 50) ok (dOf dX11_go 29 rfl) rfl rfl rfl ?_
      refine J_getR (ci := 11) (kf := 5) (C := RX11) (T := TX11) (N := 29) (pc' := 53) ok (dOf dX11_go 30 rfl) rfl (by decide) rfl (by decide) win_11 wfl_X11_22 (fun a6 => ?_)
      refine J_iconst (v := 3) (pc' := 54) ok (dOf dX11_go 31 rfl) rfl (by decide) ?_
      refine J_iald (pc' := 55) ok (dOf dX11_go 32 rfl) rfl (fun x7 => ?_)
      refine J_if_ne (tgt := 123) (pc' := 58) ok (dOf dX11_go 33 rfl) rfl (by decide) ?_ ?_
      · exact J_fin (kx123 (s.1, s.2.1, s.2.2))
      · refine J_iconst (v := 0) (pc' := 59) ok (dOf dX11_go 34 rfl) rfl (by decide) ?_
        refine J_istore (ls' := [some (.ref v0), some (.int v1), some (.int s.1), some (.int s.2.1), some (.int 0)]) (pc' := 61) ok (dOf dX11_go 35 rfl) rfl (Nat.le_of_ble_eq_true rfl) rfl rfl ?_
        refine J_iter (lf := fun z61 => [some (.ref v0), some (.int v1), some (.int s.1), some (.int s.2.1), some (.int z61.1)]) (sf := fun _ => []) (hf := fun z61 => z61.2) (px := (fun (q61 : Int32 × AHeap) => 89)) (lx := (fun (q61 : Int32 × AHeap) => [some (.ref v0), some (.int v1), some (.int s.1), some (.int s.2.1), some (.int q61.1)])) (sx := (fun (q61 : Int32 × AHeap) => [])) (hx := (fun (q61 : Int32 × AHeap) => q61.2)) (fun Y2 z61 m1 m2 => Mod_go_b61_J ok v0 v1 s.1 s.2.1 m1 m2 z61) (fun q61 => ?_) Lmax _
        exact Mod_go_j89_J ok v0 v1 s.1 s.2.1 q61.1 q61.2 k1 kx123
def Mod_go_j123 (v0 : Nat) (v1 : Int32) (v2 : Int32) (v3 : Int32) (h : AHeap) : Option (Int32 × AHeap) :=
  (if ¬ v2 = 0 then (chk h v0 11).bind fun _ => bnd2 (Mod_keeps v0 8 h) fun _ h16 => (chk h16 v0 11).bind fun _ => bnd2 (Mod_tells v0 v2 h16) fun x18 h17 => some (x18, h17) else (chk h v0 11).bind fun _ => bnd2 (Mod_refuses v0 (-5) h) fun x20 h19 => some (x20, h19))
theorem Mod_go_j123_J {E : JE} {l : Launch} {G : GX} {v : Int32} {h' : AHeap} (ok : JOK E l G kMod_go 0 0 (some (.int v)) h') (v0 : Nat) (v1 : Int32) (v2 : Int32) (v3 : Int32) (h : AHeap) : J E kMod_go (Mod_go_j123 v0 v1 v2 v3 h) (fun z => z = (v, h')) 123 [some (.ref v0), some (.int v1), some (.int v2), some (.int v3), none] [] h 0 0 := by
  unfold Mod_go_j123
  refine J_iload_n (pc' := 124) ok (dOf dX11_go 65 rfl) rfl rfl rfl ?_
  refine J_if_ne (tgt := 134) (pc' := 127) ok (dOf dX11_go 66 rfl) rfl (by decide) ?_ ?_
  · refine J_aload_n (pc' := 135) ok (dOf dX11_go 71 rfl) rfl rfl rfl ?_
    refine J_bipush (v := 8) (pc' := 137) ok (dOf dX11_go 72 rfl) rfl (by decide) ?_
    refine J_callVv (k2 := kMod_keeps) (ci := 11) (T := TX11) (N := 29) (as := [.int 8]) (pc' := 140) ok (dOf dX11_go 73 rfl) rfl (cw_Mod_keeps (by decide) (by decide)) wml_X11_178 winst_X11_keeps wsel_X11_keeps rfl ⟨Nat.le_refl 0, Nat.le_refl 0⟩ (Nat.le_of_ble_eq_true rfl) rfl (fun _ _ hf => t_Mod_keeps hf) (fun _ h16 => ?_)
    refine J_aload_n (pc' := 141) ok (dOf dX11_go 74 rfl) rfl rfl rfl ?_
    refine J_iload_n (pc' := 142) ok (dOf dX11_go 75 rfl) rfl rfl rfl ?_
    refine J_callVi (k2 := kMod_tells) (ci := 11) (T := TX11) (N := 29) (as := [.int v2]) (pc' := 145) ok (dOf dX11_go 76 rfl) rfl (cw_Mod_tells (by decide) (by decide)) wml_X11_89 winst_X11_tells wsel_X11_tells rfl ⟨Nat.le_refl 0, Nat.le_refl 0⟩ (Nat.le_of_ble_eq_true rfl) rfl (fun _ _ hf => t_Mod_tells hf) (fun x18 h17 => ?_)
    exact J_ireturn ok (dOf dX11_go 77 rfl) rfl (Eq.refl 0) (Nat.le_refl 0)
  · refine J_aload_n (pc' := 128) ok (dOf dX11_go 67 rfl) rfl rfl rfl ?_
    refine J_bipush (v := (-5)) (pc' := 130) ok (dOf dX11_go 68 rfl) rfl (by decide) ?_
    refine J_callVi (k2 := kMod_refuses) (ci := 11) (T := TX11) (N := 29) (as := [.int (-5)]) (pc' := 133) ok (dOf dX11_go 69 rfl) rfl (cw_Mod_refuses (by decide) (by decide)) wml_X11_85 winst_X11_refuses wsel_X11_refuses rfl ⟨Nat.le_refl 0, Nat.le_refl 0⟩ (Nat.le_of_ble_eq_true rfl) rfl (fun _ _ hf => t_Mod_refuses hf) (fun x20 h19 => ?_)
    exact J_ireturn ok (dOf dX11_go 70 rfl) rfl (Eq.refl 0) (Nat.le_refl 0)
def Mod_go (v0 : Nat) (v1 : Int32) (h : AHeap) : Option (Int32 × AHeap) :=
  bnd2 (Mod_isIn v1 1 99 h) fun x2 h1 => (if ¬ x2 = 0 then (gfR h1 v0 11 5).bind fun a3 => (ald 0 h1 a3 3).bind fun x4 => (if x4 = 0 then (chk h1 v0 11).bind fun _ => bnd2 (Mod_keepsAhead v0 h1) fun _ h5 => (iter (Mod_go_b40 v0 v1) Lmax (0, 1, h5)).bind (fun (q40 : Int32 × Int32 × AHeap) => Mod_go_j123 v0 v1 q40.1 q40.2.1 q40.2.2) else (chk h1 v0 11).bind fun _ => bnd2 (Mod_refuses v0 (-3) h1) fun x22 h21 => some (x22, h21)) else (chk h1 v0 11).bind fun _ => bnd2 (Mod_refuses v0 (-1) h1) fun x24 h23 => some (x24, h23))
theorem t_Mod_go {l : Launch} {G : GX} {v0 : Nat} {v1 : Int32} {h : AHeap} {v : Int32} {h1 : AHeap} (hf : Mod_go v0 v1 h = some (v, h1)) : CT l G kMod_go 0 0 [.ref v0, .int v1] h (some (.int v)) h1 := by
  refine CT_of (ls := [some (.ref v0), some (.int v1), none, none, none]) (Z := fun z => z = (v, h1)) (by decide +kernel) (Nat.le_of_ble_eq_true rfl) hf rfl ⟨rfl, rfl, trivial⟩ (fun E ok => ?_)
  unfold Mod_go
  refine J_iload_n (pc' := 1) ok (dOf dX11_go 0 rfl) rfl rfl rfl ?_
  refine J_iconst (v := 1) (pc' := 2) ok (dOf dX11_go 1 rfl) rfl (by decide) ?_
  refine J_bipush (v := 99) (pc' := 4) ok (dOf dX11_go 2 rfl) rfl (by decide) ?_
  refine J_callSi (k2 := kMod_isIn) (as := [.int v1, .int 1, .int 99]) (pc' := 7) ok (dOf dX11_go 3 rfl) rfl (cw_Mod_isIn (by decide) (by decide)) wml_X11_75 wstat_X11_isIn ⟨Nat.le_refl 0, Nat.le_refl 0⟩ (Nat.le_of_ble_eq_true rfl) rfl (fun _ _ hf => t_Mod_isIn hf) (fun x2 h1 => ?_)
  refine J_if_ne (tgt := 16) (pc' := 10) ok (dOf dX11_go 4 rfl) rfl (by decide) ?_ ?_
  · refine J_aload_n (pc' := 17) ok (dOf dX11_go 9 rfl) rfl rfl rfl ?_
    refine J_getR (ci := 11) (kf := 5) (C := RX11) (T := TX11) (N := 29) (pc' := 20) ok (dOf dX11_go 10 rfl) rfl (by decide) rfl (by decide) win_11 wfl_X11_22 (fun a3 => ?_)
    refine J_iconst (v := 3) (pc' := 21) ok (dOf dX11_go 11 rfl) rfl (by decide) ?_
    refine J_iald (pc' := 22) ok (dOf dX11_go 12 rfl) rfl (fun x4 => ?_)
    refine J_if_eq (tgt := 32) (pc' := 25) ok (dOf dX11_go 13 rfl) rfl (by decide) ?_ ?_
    · refine J_aload_n (pc' := 33) ok (dOf dX11_go 18 rfl) rfl rfl rfl ?_
      refine J_callVv (k2 := kMod_keepsAhead) (ci := 11) (T := TX11) (N := 29) (as := []) (pc' := 36) ok (dOf dX11_go 19 rfl) rfl (cw_Mod_keepsAhead (by decide) (by decide)) wml_X11_172 winst_X11_keepsAhead wsel_X11_keepsAhead rfl ⟨Nat.le_refl 0, Nat.le_refl 0⟩ (Nat.le_of_ble_eq_true rfl) rfl (fun _ _ hf => t_Mod_keepsAhead hf) (fun _ h5 => ?_)
      refine J_iconst (v := 0) (pc' := 37) ok (dOf dX11_go 20 rfl) rfl (by decide) ?_
      refine J_istore_n (ls' := [some (.ref v0), some (.int v1), some (.int 0), none, none]) (pc' := 38) ok (dOf dX11_go 21 rfl) rfl rfl (Nat.le_of_ble_eq_true rfl) rfl rfl ?_
      refine J_iconst (v := 1) (pc' := 39) ok (dOf dX11_go 22 rfl) rfl (by decide) ?_
      refine J_istore_n (ls' := [some (.ref v0), some (.int v1), some (.int 0), some (.int 1), none]) (pc' := 40) ok (dOf dX11_go 23 rfl) rfl rfl (Nat.le_of_ble_eq_true rfl) rfl rfl ?_
      refine J_iter (lf := fun z40 => [some (.ref v0), some (.int v1), some (.int z40.1), some (.int z40.2.1), none]) (sf := fun _ => []) (hf := fun z40 => z40.2.2) (px := (fun (q40 : Int32 × Int32 × AHeap) => 123)) (lx := (fun (q40 : Int32 × Int32 × AHeap) => [some (.ref v0), some (.int v1), some (.int q40.1), some (.int q40.2.1), none])) (sx := (fun (q40 : Int32 × Int32 × AHeap) => [])) (hx := (fun (q40 : Int32 × Int32 × AHeap) => q40.2.2)) (fun Y2 z40 m1 m2 => Mod_go_b40_J ok v0 v1 m1 m2 z40) (fun q40 => ?_) Lmax _
      exact Mod_go_j123_J ok v0 v1 q40.1 q40.2.1 q40.2.2
    · refine J_aload_n (pc' := 26) ok (dOf dX11_go 14 rfl) rfl rfl rfl ?_
      refine J_bipush (v := (-3)) (pc' := 28) ok (dOf dX11_go 15 rfl) rfl (by decide) ?_
      refine J_callVi (k2 := kMod_refuses) (ci := 11) (T := TX11) (N := 29) (as := [.int (-3)]) (pc' := 31) ok (dOf dX11_go 16 rfl) rfl (cw_Mod_refuses (by decide) (by decide)) wml_X11_85 winst_X11_refuses wsel_X11_refuses rfl ⟨Nat.le_refl 0, Nat.le_refl 0⟩ (Nat.le_of_ble_eq_true rfl) rfl (fun _ _ hf => t_Mod_refuses hf) (fun x22 h21 => ?_)
      exact J_ireturn ok (dOf dX11_go 17 rfl) rfl (Eq.refl 0) (Nat.le_refl 0)
  · refine J_aload_n (pc' := 11) ok (dOf dX11_go 5 rfl) rfl rfl rfl ?_
    refine J_iconst (v := (-1)) (pc' := 12) ok (dOf dX11_go 6 rfl) rfl (by decide) ?_
    refine J_callVi (k2 := kMod_refuses) (ci := 11) (T := TX11) (N := 29) (as := [.int (-1)]) (pc' := 15) ok (dOf dX11_go 7 rfl) rfl (cw_Mod_refuses (by decide) (by decide)) wml_X11_85 winst_X11_refuses wsel_X11_refuses rfl ⟨Nat.le_refl 0, Nat.le_refl 0⟩ (Nat.le_of_ble_eq_true rfl) rfl (fun _ _ hf => t_Mod_refuses hf) (fun x24 h23 => ?_)
    exact J_ireturn ok (dOf dX11_go 8 rfl) rfl (Eq.refl 0) (Nat.le_refl 0)
-- X11_clear
abbrev kMod_clear : Cd := (yX11_clear, cX11_clear, 2, (some .int), 1, 22)
theorem dX11_clear : dcheck cX11_clear [(0, .aload_n 0, 1), (1, .invokevirtual 172, 3), (4, .aload_n 0, 1), (5, .getfield 22, 3), (8, .bipush 9, 2), (10, .iaload, 1), (11, .istore_n 1, 1), (12, .aload_n 0, 1), (13, .getfield 22, 3), (16, .bipush 9, 2), (18, .iconst 0, 1), (19, .iastore, 1), (20, .aload_n 0, 1), (21, .invokevirtual 69, 3), (24, .aload_n 0, 1), (25, .bipush 9, 2), (27, .invokevirtual 178, 3), (30, .iload_n 1, 1), (31, .ireturn, 1)] = true := by decide +kernel
theorem cw_Mod_clear {k : Cd} (h1 : kMod_clear.2.2.2.2.1 + 1 ≤ k.2.2.2.2.1) (h2 : 8 + (kMod_clear.2.2.1 + 11) + kMod_clear.2.2.2.2.2 ≤ k.2.2.2.2.2) : Cw k kMod_clear 0 := ⟨wcode_X11_clear, wini_SplitProgramModel, ⟨by decide, by decide, by decide +kernel⟩, h1, h2⟩
def Mod_clear (v0 : Nat) (h : AHeap) : Option (Int32 × AHeap) :=
  (chk h v0 11).bind fun _ => bnd2 (Mod_keepsAhead v0 h) fun _ h1 => (gfR h1 v0 11 5).bind fun a2 => (ald 0 h1 a2 9).bind fun x3 => (gfR h1 v0 11 5).bind fun a4 => (ast 0 h1 a4 9 0).bind fun h5 => (chk h5 v0 11).bind fun _ => bnd2 (Mod_forgets v0 h5) fun _ h6 => (chk h6 v0 11).bind fun _ => bnd2 (Mod_keeps v0 9 h6) fun _ h7 => some (x3, h7)
theorem t_Mod_clear {l : Launch} {G : GX} {v0 : Nat} {h : AHeap} {v : Int32} {h1 : AHeap} (hf : Mod_clear v0 h = some (v, h1)) : CT l G kMod_clear 0 0 [.ref v0] h (some (.int v)) h1 := by
  refine CT_of (ls := [some (.ref v0), none]) (Z := fun z => z = (v, h1)) (by decide +kernel) (Nat.le_of_ble_eq_true rfl) hf rfl ⟨rfl, trivial⟩ (fun E ok => ?_)
  unfold Mod_clear
  refine J_aload_n (pc' := 1) ok (dOf dX11_clear 0 rfl) rfl rfl rfl ?_
  refine J_callVv (k2 := kMod_keepsAhead) (ci := 11) (T := TX11) (N := 29) (as := []) (pc' := 4) ok (dOf dX11_clear 1 rfl) rfl (cw_Mod_keepsAhead (by decide) (by decide)) wml_X11_172 winst_X11_keepsAhead wsel_X11_keepsAhead rfl ⟨Nat.le_refl 0, Nat.le_refl 0⟩ (Nat.le_of_ble_eq_true rfl) rfl (fun _ _ hf => t_Mod_keepsAhead hf) (fun _ h1 => ?_)
  refine J_aload_n (pc' := 5) ok (dOf dX11_clear 2 rfl) rfl rfl rfl ?_
  refine J_getR (ci := 11) (kf := 5) (C := RX11) (T := TX11) (N := 29) (pc' := 8) ok (dOf dX11_clear 3 rfl) rfl (by decide) rfl (by decide) win_11 wfl_X11_22 (fun a2 => ?_)
  refine J_bipush (v := 9) (pc' := 10) ok (dOf dX11_clear 4 rfl) rfl (by decide) ?_
  refine J_iald (pc' := 11) ok (dOf dX11_clear 5 rfl) rfl (fun x3 => ?_)
  refine J_istore_n (ls' := [some (.ref v0), some (.int x3)]) (pc' := 12) ok (dOf dX11_clear 6 rfl) rfl rfl (Nat.le_of_ble_eq_true rfl) rfl rfl ?_
  refine J_aload_n (pc' := 13) ok (dOf dX11_clear 7 rfl) rfl rfl rfl ?_
  refine J_getR (ci := 11) (kf := 5) (C := RX11) (T := TX11) (N := 29) (pc' := 16) ok (dOf dX11_clear 8 rfl) rfl (by decide) rfl (by decide) win_11 wfl_X11_22 (fun a4 => ?_)
  refine J_bipush (v := 9) (pc' := 18) ok (dOf dX11_clear 9 rfl) rfl (by decide) ?_
  refine J_iconst (v := 0) (pc' := 19) ok (dOf dX11_clear 10 rfl) rfl (by decide) ?_
  refine J_iast (pc' := 20) ok (dOf dX11_clear 11 rfl) rfl (fun h5 _ => ?_)
  refine J_aload_n (pc' := 21) ok (dOf dX11_clear 12 rfl) rfl rfl rfl ?_
  refine J_callVv (k2 := kMod_forgets) (ci := 11) (T := TX11) (N := 29) (as := []) (pc' := 24) ok (dOf dX11_clear 13 rfl) rfl (cw_Mod_forgets (by decide) (by decide)) wml_X11_69 winst_X11_forgets wsel_X11_forgets rfl ⟨Nat.le_refl 0, Nat.le_refl 0⟩ (Nat.le_of_ble_eq_true rfl) rfl (fun _ _ hf => t_Mod_forgets hf) (fun _ h6 => ?_)
  refine J_aload_n (pc' := 25) ok (dOf dX11_clear 14 rfl) rfl rfl rfl ?_
  refine J_bipush (v := 9) (pc' := 27) ok (dOf dX11_clear 15 rfl) rfl (by decide) ?_
  refine J_callVv (k2 := kMod_keeps) (ci := 11) (T := TX11) (N := 29) (as := [.int 9]) (pc' := 30) ok (dOf dX11_clear 16 rfl) rfl (cw_Mod_keeps (by decide) (by decide)) wml_X11_178 winst_X11_keeps wsel_X11_keeps rfl ⟨Nat.le_refl 0, Nat.le_refl 0⟩ (Nat.le_of_ble_eq_true rfl) rfl (fun _ _ hf => t_Mod_keeps hf) (fun _ h7 => ?_)
  refine J_iload_n (pc' := 31) ok (dOf dX11_clear 17 rfl) rfl rfl rfl ?_
  exact J_ireturn ok (dOf dX11_clear 18 rfl) rfl (Eq.refl 0) (Nat.le_refl 0)
-- X11_undo
abbrev kMod_undo : Cd := (yX11_undo, cX11_undo, 2, (some .int), 1, 21)
theorem dX11_undo : dcheck cX11_undo [(0, .aload_n 0, 1), (1, .getfield 82, 3), (4, .ifCond .ne 10, 3), (7, .aload_n 0, 1), (8, .bipush (-4), 2), (10, .invokevirtual 85, 3), (13, .ireturn, 1), (14, .iconst 0, 1), (15, .istore_n 1, 1), (16, .iload_n 1, 1), (17, .sipush 1427, 3), (20, .if_icmp .ge 30, 3), (23, .aload_n 0, 1), (24, .getfield 22, 3), (27, .iload_n 1, 1), (28, .aload_n 0, 1), (29, .getfield 38, 3), (32, .sipush 1427, 3), (35, .aload_n 0, 1), (36, .getfield 79, 3), (39, .imul, 1), (40, .iload_n 1, 1), (41, .iadd, 1), (42, .iaload, 1), (43, .iastore, 1), (44, .iinc 1 1, 3), (47, .goto (-31), 3), (50, .aload_n 0, 1), (51, .getfield 41, 3), (54, .aload_n 0, 1), (55, .getfield 79, 3), (58, .iaload, 1), (59, .istore_n 1, 1), (60, .aload_n 0, 1), (61, .aload_n 0, 1), (62, .getfield 79, 3), (65, .bipush 12, 2), (67, .iadd, 1), (68, .iconst 1, 1), (69, .isub, 1), (70, .bipush 12, 2), (72, .irem, 1), (73, .putfield 79, 3), (76, .aload_n 0, 1), (77, .dup, 1), (78, .getfield 82, 3), (81, .iconst 1, 1), (82, .isub, 1), (83, .putfield 82, 3), (86, .aload_n 0, 1), (87, .iload_n 1, 1), (88, .invokevirtual 89, 3), (91, .ireturn, 1)] = true := by decide +kernel
theorem cw_Mod_undo {k : Cd} (h1 : kMod_undo.2.2.2.2.1 + 1 ≤ k.2.2.2.2.1) (h2 : 8 + (kMod_undo.2.2.1 + 11) + kMod_undo.2.2.2.2.2 ≤ k.2.2.2.2.2) : Cw k kMod_undo 0 := ⟨wcode_X11_undo, wini_SplitProgramModel, ⟨by decide, by decide, by decide +kernel⟩, h1, h2⟩
def Mod_undo_b16 (v0 : Nat) (s : Int32 × AHeap) : Option ((Int32 × AHeap) ⊕ ((Int32 × AHeap))) :=
  (if 1427 ≤ s.1 then some (Sum.inr (s.1, s.2)) else (gfR s.2 v0 11 5).bind fun a2 => (gfR s.2 v0 11 11).bind fun a3 => (gfI s.2 v0 11 14).bind fun x4 => (ald 0 s.2 a3 ((1427 * x4) + s.1)).bind fun x5 => (ast 0 s.2 a2 s.1 x5).bind fun h6 => some (Sum.inl (s.1 + 1, h6)))
theorem Mod_undo_b16_J {E : JE} {l : Launch} {G : GX} {r : Option Value} {h' : AHeap} (ok : JOK E l G kMod_undo 0 0 r h') (v0 : Nat) {Y : (Int32 × AHeap) ⊕ ((Int32 × AHeap)) → Prop} (k1 : ∀ s' : Int32 × AHeap, Y (.inl s') → JW E kMod_undo 16 [some (.ref v0), some (.int s'.1)] [] s'.2 0 0) (kx50 : ∀ q : Int32 × AHeap, Y (.inr q) → JW E kMod_undo 50 [some (.ref v0), some (.int q.1)] [] q.2 0 0) (s : Int32 × AHeap) : J E kMod_undo (Mod_undo_b16 v0 s) Y 16 [some (.ref v0), some (.int s.1)] [] s.2 0 0 := by
  unfold Mod_undo_b16
  refine J_iload_n (pc' := 17) ok (dOf dX11_undo 9 rfl) rfl rfl rfl ?_
  refine J_sipush (v := 1427) (pc' := 20) ok (dOf dX11_undo 10 rfl) rfl (by decide) ?_
  refine J_icmp_ge (tgt := 50) (pc' := 23) ok (dOf dX11_undo 11 rfl) rfl (by decide) ?_ ?_
  · exact J_fin (kx50 (s.1, s.2))
  · refine J_aload_n (pc' := 24) ok (dOf dX11_undo 12 rfl) rfl rfl rfl ?_
    refine J_getR (ci := 11) (kf := 5) (C := RX11) (T := TX11) (N := 29) (pc' := 27) ok (dOf dX11_undo 13 rfl) rfl (by decide) rfl (by decide) win_11 wfl_X11_22 (fun a2 => ?_)
    refine J_iload_n (pc' := 28) ok (dOf dX11_undo 14 rfl) rfl rfl rfl ?_
    refine J_aload_n (pc' := 29) ok (dOf dX11_undo 15 rfl) rfl rfl rfl ?_
    refine J_getR (ci := 11) (kf := 11) (C := RX11) (T := TX11) (N := 29) (pc' := 32) ok (dOf dX11_undo 16 rfl) rfl (by decide) rfl (by decide) win_11 wfl_X11_38 (fun a3 => ?_)
    refine J_sipush (v := 1427) (pc' := 35) ok (dOf dX11_undo 17 rfl) rfl (by decide) ?_
    refine J_aload_n (pc' := 36) ok (dOf dX11_undo 18 rfl) rfl rfl rfl ?_
    refine J_getI (ci := 11) (kf := 14) (C := RX11) (T := TX11) (N := 29) (pc' := 39) ok (dOf dX11_undo 19 rfl) rfl (by decide) rfl (by decide) win_11 wfl_X11_79 (fun x4 => ?_)
    refine J_imul (pc' := 40) ok (dOf dX11_undo 20 rfl) rfl ?_
    refine J_iload_n (pc' := 41) ok (dOf dX11_undo 21 rfl) rfl rfl rfl ?_
    refine J_iadd (pc' := 42) ok (dOf dX11_undo 22 rfl) rfl ?_
    refine J_iald (pc' := 43) ok (dOf dX11_undo 23 rfl) rfl (fun x5 => ?_)
    refine J_iast (pc' := 44) ok (dOf dX11_undo 24 rfl) rfl (fun h6 _ => ?_)
    refine J_iinc (v := s.1 + 1) (ls' := [some (.ref v0), some (.int (s.1 + 1))]) (pc' := 47) ok (dOf dX11_undo 25 rfl) rfl rfl (by rfl) (Nat.le_of_ble_eq_true rfl) rfl rfl ?_
    refine J_goto (tgt := 16) ok (dOf dX11_undo 26 rfl) (by decide) ?_
    exact J_fin (k1 (s.1 + 1, h6))
def Mod_undo_j50 (v0 : Nat) (v1 : Int32) (h : AHeap) : Option (Int32 × AHeap) :=
  (gfR h v0 11 12).bind fun a7 => (gfI h v0 11 14).bind fun x8 => (ald 0 h a7 x8).bind fun x9 => (gfI h v0 11 14).bind fun x10 => (pfV h v0 11 14 (.int (((x10 + 12) - 1) - ((x10 + 12) - 1) / 12 * 12))).bind fun h11 => (gfI h11 v0 11 13).bind fun x12 => (pfV h11 v0 11 13 (.int (x12 - 1))).bind fun h13 => (chk h13 v0 11).bind fun _ => bnd2 (Mod_tells v0 x9 h13) fun x15 h14 => some (x15, h14)
theorem Mod_undo_j50_J {E : JE} {l : Launch} {G : GX} {v : Int32} {h' : AHeap} (ok : JOK E l G kMod_undo 0 0 (some (.int v)) h') (v0 : Nat) (v1 : Int32) (h : AHeap) : J E kMod_undo (Mod_undo_j50 v0 v1 h) (fun z => z = (v, h')) 50 [some (.ref v0), some (.int v1)] [] h 0 0 := by
  unfold Mod_undo_j50
  refine J_aload_n (pc' := 51) ok (dOf dX11_undo 27 rfl) rfl rfl rfl ?_
  refine J_getR (ci := 11) (kf := 12) (C := RX11) (T := TX11) (N := 29) (pc' := 54) ok (dOf dX11_undo 28 rfl) rfl (by decide) rfl (by decide) win_11 wfl_X11_41 (fun a7 => ?_)
  refine J_aload_n (pc' := 55) ok (dOf dX11_undo 29 rfl) rfl rfl rfl ?_
  refine J_getI (ci := 11) (kf := 14) (C := RX11) (T := TX11) (N := 29) (pc' := 58) ok (dOf dX11_undo 30 rfl) rfl (by decide) rfl (by decide) win_11 wfl_X11_79 (fun x8 => ?_)
  refine J_iald (pc' := 59) ok (dOf dX11_undo 31 rfl) rfl (fun x9 => ?_)
  refine J_istore_n (ls' := [some (.ref v0), some (.int x9)]) (pc' := 60) ok (dOf dX11_undo 32 rfl) rfl rfl (Nat.le_of_ble_eq_true rfl) rfl rfl ?_
  refine J_aload_n (pc' := 61) ok (dOf dX11_undo 33 rfl) rfl rfl rfl ?_
  refine J_aload_n (pc' := 62) ok (dOf dX11_undo 34 rfl) rfl rfl rfl ?_
  refine J_getI (ci := 11) (kf := 14) (C := RX11) (T := TX11) (N := 29) (pc' := 65) ok (dOf dX11_undo 35 rfl) rfl (by decide) rfl (by decide) win_11 wfl_X11_79 (fun x10 => ?_)
  refine J_bipush (v := 12) (pc' := 67) ok (dOf dX11_undo 36 rfl) rfl (by decide) ?_
  refine J_iadd (pc' := 68) ok (dOf dX11_undo 37 rfl) rfl ?_
  refine J_iconst (v := 1) (pc' := 69) ok (dOf dX11_undo 38 rfl) rfl (by decide) ?_
  refine J_isub (pc' := 70) ok (dOf dX11_undo 39 rfl) rfl ?_
  refine J_bipush (v := 12) (pc' := 72) ok (dOf dX11_undo 40 rfl) rfl (by decide) ?_
  refine J_irem (pc' := 73) ok (dOf dX11_undo 41 rfl) rfl (by decide) ?_
  refine J_putI (ci := 11) (kf := 14) (C := RX11) (T := TX11) (N := 29) (pc' := 76) ok tyX11 (dOf dX11_undo 42 rfl) rfl rfl (by decide) win_11 tyX11_ok nmX11 rfl rfl wfl_X11_79 (fun h11 _ => ?_)
  refine J_aload_n (pc' := 77) ok (dOf dX11_undo 43 rfl) rfl rfl rfl ?_
  refine J_dup (pc' := 78) ok (dOf dX11_undo 44 rfl) rfl rfl ?_
  refine J_getI (ci := 11) (kf := 13) (C := RX11) (T := TX11) (N := 29) (pc' := 81) ok (dOf dX11_undo 45 rfl) rfl (by decide) rfl (by decide) win_11 wfl_X11_82 (fun x12 => ?_)
  refine J_iconst (v := 1) (pc' := 82) ok (dOf dX11_undo 46 rfl) rfl (by decide) ?_
  refine J_isub (pc' := 83) ok (dOf dX11_undo 47 rfl) rfl ?_
  refine J_putI (ci := 11) (kf := 13) (C := RX11) (T := TX11) (N := 29) (pc' := 86) ok tyX11 (dOf dX11_undo 48 rfl) rfl rfl (by decide) win_11 tyX11_ok nmX11 rfl rfl wfl_X11_82 (fun h13 _ => ?_)
  refine J_aload_n (pc' := 87) ok (dOf dX11_undo 49 rfl) rfl rfl rfl ?_
  refine J_iload_n (pc' := 88) ok (dOf dX11_undo 50 rfl) rfl rfl rfl ?_
  refine J_callVi (k2 := kMod_tells) (ci := 11) (T := TX11) (N := 29) (as := [.int x9]) (pc' := 91) ok (dOf dX11_undo 51 rfl) rfl (cw_Mod_tells (by decide) (by decide)) wml_X11_89 winst_X11_tells wsel_X11_tells rfl ⟨Nat.le_refl 0, Nat.le_refl 0⟩ (Nat.le_of_ble_eq_true rfl) rfl (fun _ _ hf => t_Mod_tells hf) (fun x15 h14 => ?_)
  exact J_ireturn ok (dOf dX11_undo 52 rfl) rfl (Eq.refl 0) (Nat.le_refl 0)
def Mod_undo (v0 : Nat) (h : AHeap) : Option (Int32 × AHeap) :=
  (gfI h v0 11 13).bind fun x1 => (if ¬ x1 = 0 then (iter (Mod_undo_b16 v0) Lmax (0, h)).bind (fun (q16 : Int32 × AHeap) => Mod_undo_j50 v0 q16.1 q16.2) else (chk h v0 11).bind fun _ => bnd2 (Mod_refuses v0 (-4) h) fun x17 h16 => some (x17, h16))
theorem t_Mod_undo {l : Launch} {G : GX} {v0 : Nat} {h : AHeap} {v : Int32} {h1 : AHeap} (hf : Mod_undo v0 h = some (v, h1)) : CT l G kMod_undo 0 0 [.ref v0] h (some (.int v)) h1 := by
  refine CT_of (ls := [some (.ref v0), none]) (Z := fun z => z = (v, h1)) (by decide +kernel) (Nat.le_of_ble_eq_true rfl) hf rfl ⟨rfl, trivial⟩ (fun E ok => ?_)
  unfold Mod_undo
  refine J_aload_n (pc' := 1) ok (dOf dX11_undo 0 rfl) rfl rfl rfl ?_
  refine J_getI (ci := 11) (kf := 13) (C := RX11) (T := TX11) (N := 29) (pc' := 4) ok (dOf dX11_undo 1 rfl) rfl (by decide) rfl (by decide) win_11 wfl_X11_82 (fun x1 => ?_)
  refine J_if_ne (tgt := 14) (pc' := 7) ok (dOf dX11_undo 2 rfl) rfl (by decide) ?_ ?_
  · refine J_iconst (v := 0) (pc' := 15) ok (dOf dX11_undo 7 rfl) rfl (by decide) ?_
    refine J_istore_n (ls' := [some (.ref v0), some (.int 0)]) (pc' := 16) ok (dOf dX11_undo 8 rfl) rfl rfl (Nat.le_of_ble_eq_true rfl) rfl rfl ?_
    refine J_iter (lf := fun z16 => [some (.ref v0), some (.int z16.1)]) (sf := fun _ => []) (hf := fun z16 => z16.2) (px := (fun (q16 : Int32 × AHeap) => 50)) (lx := (fun (q16 : Int32 × AHeap) => [some (.ref v0), some (.int q16.1)])) (sx := (fun (q16 : Int32 × AHeap) => [])) (hx := (fun (q16 : Int32 × AHeap) => q16.2)) (fun Y2 z16 m1 m2 => Mod_undo_b16_J ok v0 m1 m2 z16) (fun q16 => ?_) Lmax _
    exact Mod_undo_j50_J ok v0 q16.1 q16.2
  · refine J_aload_n (pc' := 8) ok (dOf dX11_undo 3 rfl) rfl rfl rfl ?_
    refine J_bipush (v := (-4)) (pc' := 10) ok (dOf dX11_undo 4 rfl) rfl (by decide) ?_
    refine J_callVi (k2 := kMod_refuses) (ci := 11) (T := TX11) (N := 29) (as := [.int (-4)]) (pc' := 13) ok (dOf dX11_undo 5 rfl) rfl (cw_Mod_refuses (by decide) (by decide)) wml_X11_85 winst_X11_refuses wsel_X11_refuses rfl ⟨Nat.le_refl 0, Nat.le_refl 0⟩ (Nat.le_of_ble_eq_true rfl) rfl (fun _ _ hf => t_Mod_refuses hf) (fun x17 h16 => ?_)
    exact J_ireturn ok (dOf dX11_undo 6 rfl) rfl (Eq.refl 0) (Nat.le_refl 0)
-- X11_of
abbrev kMod_of : Cd := (yX11_of, cX11_of, 3, (some .int), 2, 43)
theorem dX11_of : dcheck cX11_of [(0, .aload_n 0, 1), (1, .iload_n 1, 1), (2, .invokevirtual 190, 3), (5, .ifCond .ne 5, 3), (8, .iconst (-1), 1), (9, .ireturn, 1), (10, .iload_n 2, 1), (11, .iconst 0, 1), (12, .iconst 2, 1), (13, .invokestatic 75, 3), (16, .ifCond .eq 17, 3), (19, .aload_n 0, 1), (20, .getfield 22, 3), (23, .bipush 11, 2), (25, .iconst 4, 1), (26, .iload_n 2, 1), (27, .imul, 1), (28, .iadd, 1), (29, .iload_n 1, 1), (30, .iadd, 1), (31, .iaload, 1), (32, .ireturn, 1), (33, .iload_n 2, 1), (34, .iconst 3, 1), (35, .iconst 2, 1), (36, .aload_n 0, 1), (37, .getfield 22, 3), (40, .iconst 1, 1), (41, .iaload, 1), (42, .iadd, 1), (43, .invokestatic 75, 3), (46, .ifCond .eq 14, 3), (49, .aload_n 0, 1), (50, .iload_n 1, 1), (51, .iload_n 2, 1), (52, .iconst 3, 1), (53, .isub, 1), (54, .invokevirtual 148, 3), (57, .goto 4, 3), (60, .iconst (-1), 1), (61, .ireturn, 1)] = true := by decide +kernel
theorem cw_Mod_of {k : Cd} (h1 : kMod_of.2.2.2.2.1 + 1 ≤ k.2.2.2.2.1) (h2 : 8 + (kMod_of.2.2.1 + 11) + kMod_of.2.2.2.2.2 ≤ k.2.2.2.2.2) : Cw k kMod_of 2 := ⟨wcode_X11_of, wini_SplitProgramModel, ⟨by decide, by decide, by decide +kernel⟩, h1, h2⟩
def Mod_of_j61 (v0 : Nat) (v1 : Int32) (v2 : Int32) (t0 : Int32) (h : AHeap) : Option (Int32 × AHeap) :=
  some (t0, h)
theorem Mod_of_j61_J {E : JE} {l : Launch} {G : GX} {v : Int32} {h' : AHeap} (ok : JOK E l G kMod_of 0 0 (some (.int v)) h') (v0 : Nat) (v1 : Int32) (v2 : Int32) (t0 : Int32) (h : AHeap) : J E kMod_of (Mod_of_j61 v0 v1 v2 t0 h) (fun z => z = (v, h')) 61 [some (.ref v0), some (.int v1), some (.int v2)] [.int t0] h 0 0 := by
  unfold Mod_of_j61
  exact J_ireturn ok (dOf dX11_of 40 rfl) rfl (Eq.refl 0) (Nat.le_refl 0)
def Mod_of (v0 : Nat) (v1 : Int32) (v2 : Int32) (h : AHeap) : Option (Int32 × AHeap) :=
  (chk h v0 11).bind fun _ => bnd2 (Mod_isPlant v0 v1 h) fun x2 h1 => (if ¬ x2 = 0 then bnd2 (Mod_isIn v2 0 2 h1) fun x4 h3 => (if x4 = 0 then (gfR h3 v0 11 5).bind fun a5 => (ald 0 h3 a5 1).bind fun x6 => bnd2 (Mod_isIn v2 3 (2 + x6) h3) fun x8 h7 => (if x8 = 0 then Mod_of_j61 v0 v1 v2 (-1) h7 else (chk h7 v0 11).bind fun _ => bnd2 (Mod_toll v0 v1 (v2 - 3) h7) fun x10 h9 => Mod_of_j61 v0 v1 v2 x10 h9) else (gfR h3 v0 11 5).bind fun a11 => (ald 0 h3 a11 ((11 + (4 * v2)) + v1)).bind fun x12 => some (x12, h3)) else some ((-1), h1))
theorem t_Mod_of {l : Launch} {G : GX} {v0 : Nat} {v1 : Int32} {v2 : Int32} {h : AHeap} {v : Int32} {h1 : AHeap} (hf : Mod_of v0 v1 v2 h = some (v, h1)) : CT l G kMod_of 0 0 [.ref v0, .int v1, .int v2] h (some (.int v)) h1 := by
  refine CT_of (ls := [some (.ref v0), some (.int v1), some (.int v2)]) (Z := fun z => z = (v, h1)) (by decide +kernel) (Nat.le_of_ble_eq_true rfl) hf rfl ⟨rfl, rfl, rfl, trivial⟩ (fun E ok => ?_)
  unfold Mod_of
  refine J_aload_n (pc' := 1) ok (dOf dX11_of 0 rfl) rfl rfl rfl ?_
  refine J_iload_n (pc' := 2) ok (dOf dX11_of 1 rfl) rfl rfl rfl ?_
  refine J_callVi (k2 := kMod_isPlant) (ci := 11) (T := TX11) (N := 29) (as := [.int v1]) (pc' := 5) ok (dOf dX11_of 2 rfl) rfl (cw_Mod_isPlant (by decide) (by decide)) wml_X11_190 winst_X11_isPlant wsel_X11_isPlant rfl ⟨Nat.le_refl 0, Nat.le_refl 0⟩ (Nat.le_of_ble_eq_true rfl) rfl (fun _ _ hf => t_Mod_isPlant hf) (fun x2 h1 => ?_)
  refine J_if_ne (tgt := 10) (pc' := 8) ok (dOf dX11_of 3 rfl) rfl (by decide) ?_ ?_
  · refine J_iload_n (pc' := 11) ok (dOf dX11_of 6 rfl) rfl rfl rfl ?_
    refine J_iconst (v := 0) (pc' := 12) ok (dOf dX11_of 7 rfl) rfl (by decide) ?_
    refine J_iconst (v := 2) (pc' := 13) ok (dOf dX11_of 8 rfl) rfl (by decide) ?_
    refine J_callSi (k2 := kMod_isIn) (as := [.int v2, .int 0, .int 2]) (pc' := 16) ok (dOf dX11_of 9 rfl) rfl (cw_Mod_isIn (by decide) (by decide)) wml_X11_75 wstat_X11_isIn ⟨Nat.le_refl 0, Nat.le_refl 0⟩ (Nat.le_of_ble_eq_true rfl) rfl (fun _ _ hf => t_Mod_isIn hf) (fun x4 h3 => ?_)
    refine J_if_eq (tgt := 33) (pc' := 19) ok (dOf dX11_of 10 rfl) rfl (by decide) ?_ ?_
    · refine J_iload_n (pc' := 34) ok (dOf dX11_of 22 rfl) rfl rfl rfl ?_
      refine J_iconst (v := 3) (pc' := 35) ok (dOf dX11_of 23 rfl) rfl (by decide) ?_
      refine J_iconst (v := 2) (pc' := 36) ok (dOf dX11_of 24 rfl) rfl (by decide) ?_
      refine J_aload_n (pc' := 37) ok (dOf dX11_of 25 rfl) rfl rfl rfl ?_
      refine J_getR (ci := 11) (kf := 5) (C := RX11) (T := TX11) (N := 29) (pc' := 40) ok (dOf dX11_of 26 rfl) rfl (by decide) rfl (by decide) win_11 wfl_X11_22 (fun a5 => ?_)
      refine J_iconst (v := 1) (pc' := 41) ok (dOf dX11_of 27 rfl) rfl (by decide) ?_
      refine J_iald (pc' := 42) ok (dOf dX11_of 28 rfl) rfl (fun x6 => ?_)
      refine J_iadd (pc' := 43) ok (dOf dX11_of 29 rfl) rfl ?_
      refine J_callSi (k2 := kMod_isIn) (as := [.int v2, .int 3, .int (2 + x6)]) (pc' := 46) ok (dOf dX11_of 30 rfl) rfl (cw_Mod_isIn (by decide) (by decide)) wml_X11_75 wstat_X11_isIn ⟨Nat.le_refl 0, Nat.le_refl 0⟩ (Nat.le_of_ble_eq_true rfl) rfl (fun _ _ hf => t_Mod_isIn hf) (fun x8 h7 => ?_)
      refine J_if_eq (tgt := 60) (pc' := 49) ok (dOf dX11_of 31 rfl) rfl (by decide) ?_ ?_
      · refine J_iconst (v := (-1)) (pc' := 61) ok (dOf dX11_of 39 rfl) rfl (by decide) ?_
        exact Mod_of_j61_J ok v0 v1 v2 (-1) h7
      · refine J_aload_n (pc' := 50) ok (dOf dX11_of 32 rfl) rfl rfl rfl ?_
        refine J_iload_n (pc' := 51) ok (dOf dX11_of 33 rfl) rfl rfl rfl ?_
        refine J_iload_n (pc' := 52) ok (dOf dX11_of 34 rfl) rfl rfl rfl ?_
        refine J_iconst (v := 3) (pc' := 53) ok (dOf dX11_of 35 rfl) rfl (by decide) ?_
        refine J_isub (pc' := 54) ok (dOf dX11_of 36 rfl) rfl ?_
        refine J_callVi (k2 := kMod_toll) (ci := 11) (T := TX11) (N := 29) (as := [.int v1, .int (v2 - 3)]) (pc' := 57) ok (dOf dX11_of 37 rfl) rfl (cw_Mod_toll (by decide) (by decide)) wml_X11_148 winst_X11_toll wsel_X11_toll rfl ⟨Nat.le_refl 0, Nat.le_refl 0⟩ (Nat.le_of_ble_eq_true rfl) rfl (fun _ _ hf => t_Mod_toll hf) (fun x10 h9 => ?_)
        refine J_goto (tgt := 61) ok (dOf dX11_of 38 rfl) (by decide) ?_
        exact Mod_of_j61_J ok v0 v1 v2 x10 h9
    · refine J_aload_n (pc' := 20) ok (dOf dX11_of 11 rfl) rfl rfl rfl ?_
      refine J_getR (ci := 11) (kf := 5) (C := RX11) (T := TX11) (N := 29) (pc' := 23) ok (dOf dX11_of 12 rfl) rfl (by decide) rfl (by decide) win_11 wfl_X11_22 (fun a11 => ?_)
      refine J_bipush (v := 11) (pc' := 25) ok (dOf dX11_of 13 rfl) rfl (by decide) ?_
      refine J_iconst (v := 4) (pc' := 26) ok (dOf dX11_of 14 rfl) rfl (by decide) ?_
      refine J_iload_n (pc' := 27) ok (dOf dX11_of 15 rfl) rfl rfl rfl ?_
      refine J_imul (pc' := 28) ok (dOf dX11_of 16 rfl) rfl ?_
      refine J_iadd (pc' := 29) ok (dOf dX11_of 17 rfl) rfl ?_
      refine J_iload_n (pc' := 30) ok (dOf dX11_of 18 rfl) rfl rfl rfl ?_
      refine J_iadd (pc' := 31) ok (dOf dX11_of 19 rfl) rfl ?_
      refine J_iald (pc' := 32) ok (dOf dX11_of 20 rfl) rfl (fun x12 => ?_)
      exact J_ireturn ok (dOf dX11_of 21 rfl) rfl (Eq.refl 0) (Nat.le_refl 0)
  · refine J_iconst (v := (-1)) (pc' := 9) ok (dOf dX11_of 4 rfl) rfl (by decide) ?_
    exact J_ireturn ok (dOf dX11_of 5 rfl) rfl (Eq.refl 0) (Nat.le_refl 0)
-- X11_told
abbrev kMod_told : Cd := (yX11_told, cX11_told, 3, (some .int), 2, 43)
theorem dX11_told : dcheck cX11_told [(0, .aload_n 0, 1), (1, .iload_n 1, 1), (2, .invokevirtual 196, 3), (5, .ifCond .ne 5, 3), (8, .iconst (-1), 1), (9, .ireturn, 1), (10, .iload_n 2, 1), (11, .ifCond .ne 13, 3), (14, .aload_n 0, 1), (15, .getfield 22, 3), (18, .bipush 47, 2), (20, .iload_n 1, 1), (21, .iadd, 1), (22, .iaload, 1), (23, .ireturn, 1), (24, .iload_n 2, 1), (25, .iconst 1, 1), (26, .aload_n 0, 1), (27, .getfield 22, 3), (30, .iconst 1, 1), (31, .iaload, 1), (32, .invokestatic 75, 3), (35, .ifCond .eq 14, 3), (38, .aload_n 0, 1), (39, .iload_n 1, 1), (40, .iload_n 2, 1), (41, .iconst 1, 1), (42, .isub, 1), (43, .invokevirtual 212, 3), (46, .goto 4, 3), (49, .iconst (-1), 1), (50, .ireturn, 1)] = true := by decide +kernel
theorem cw_Mod_told {k : Cd} (h1 : kMod_told.2.2.2.2.1 + 1 ≤ k.2.2.2.2.1) (h2 : 8 + (kMod_told.2.2.1 + 11) + kMod_told.2.2.2.2.2 ≤ k.2.2.2.2.2) : Cw k kMod_told 2 := ⟨wcode_X11_told, wini_SplitProgramModel, ⟨by decide, by decide, by decide +kernel⟩, h1, h2⟩
def Mod_told_j50 (v0 : Nat) (v1 : Int32) (v2 : Int32) (t0 : Int32) (h : AHeap) : Option (Int32 × AHeap) :=
  some (t0, h)
theorem Mod_told_j50_J {E : JE} {l : Launch} {G : GX} {v : Int32} {h' : AHeap} (ok : JOK E l G kMod_told 0 0 (some (.int v)) h') (v0 : Nat) (v1 : Int32) (v2 : Int32) (t0 : Int32) (h : AHeap) : J E kMod_told (Mod_told_j50 v0 v1 v2 t0 h) (fun z => z = (v, h')) 50 [some (.ref v0), some (.int v1), some (.int v2)] [.int t0] h 0 0 := by
  unfold Mod_told_j50
  exact J_ireturn ok (dOf dX11_told 31 rfl) rfl (Eq.refl 0) (Nat.le_refl 0)
def Mod_told (v0 : Nat) (v1 : Int32) (v2 : Int32) (h : AHeap) : Option (Int32 × AHeap) :=
  (chk h v0 11).bind fun _ => bnd2 (Mod_isCase v0 v1 h) fun x2 h1 => (if ¬ x2 = 0 then (if ¬ v2 = 0 then (gfR h1 v0 11 5).bind fun a3 => (ald 0 h1 a3 1).bind fun x4 => bnd2 (Mod_isIn v2 1 x4 h1) fun x6 h5 => (if x6 = 0 then Mod_told_j50 v0 v1 v2 (-1) h5 else (chk h5 v0 11).bind fun _ => bnd2 (Mod_needOf v0 v1 (v2 - 1) h5) fun x8 h7 => Mod_told_j50 v0 v1 v2 x8 h7) else (gfR h1 v0 11 5).bind fun a9 => (ald 0 h1 a9 (47 + v1)).bind fun x10 => some (x10, h1)) else some ((-1), h1))
theorem t_Mod_told {l : Launch} {G : GX} {v0 : Nat} {v1 : Int32} {v2 : Int32} {h : AHeap} {v : Int32} {h1 : AHeap} (hf : Mod_told v0 v1 v2 h = some (v, h1)) : CT l G kMod_told 0 0 [.ref v0, .int v1, .int v2] h (some (.int v)) h1 := by
  refine CT_of (ls := [some (.ref v0), some (.int v1), some (.int v2)]) (Z := fun z => z = (v, h1)) (by decide +kernel) (Nat.le_of_ble_eq_true rfl) hf rfl ⟨rfl, rfl, rfl, trivial⟩ (fun E ok => ?_)
  unfold Mod_told
  refine J_aload_n (pc' := 1) ok (dOf dX11_told 0 rfl) rfl rfl rfl ?_
  refine J_iload_n (pc' := 2) ok (dOf dX11_told 1 rfl) rfl rfl rfl ?_
  refine J_callVi (k2 := kMod_isCase) (ci := 11) (T := TX11) (N := 29) (as := [.int v1]) (pc' := 5) ok (dOf dX11_told 2 rfl) rfl (cw_Mod_isCase (by decide) (by decide)) wml_X11_196 winst_X11_isCase wsel_X11_isCase rfl ⟨Nat.le_refl 0, Nat.le_refl 0⟩ (Nat.le_of_ble_eq_true rfl) rfl (fun _ _ hf => t_Mod_isCase hf) (fun x2 h1 => ?_)
  refine J_if_ne (tgt := 10) (pc' := 8) ok (dOf dX11_told 3 rfl) rfl (by decide) ?_ ?_
  · refine J_iload_n (pc' := 11) ok (dOf dX11_told 6 rfl) rfl rfl rfl ?_
    refine J_if_ne (tgt := 24) (pc' := 14) ok (dOf dX11_told 7 rfl) rfl (by decide) ?_ ?_
    · refine J_iload_n (pc' := 25) ok (dOf dX11_told 15 rfl) rfl rfl rfl ?_
      refine J_iconst (v := 1) (pc' := 26) ok (dOf dX11_told 16 rfl) rfl (by decide) ?_
      refine J_aload_n (pc' := 27) ok (dOf dX11_told 17 rfl) rfl rfl rfl ?_
      refine J_getR (ci := 11) (kf := 5) (C := RX11) (T := TX11) (N := 29) (pc' := 30) ok (dOf dX11_told 18 rfl) rfl (by decide) rfl (by decide) win_11 wfl_X11_22 (fun a3 => ?_)
      refine J_iconst (v := 1) (pc' := 31) ok (dOf dX11_told 19 rfl) rfl (by decide) ?_
      refine J_iald (pc' := 32) ok (dOf dX11_told 20 rfl) rfl (fun x4 => ?_)
      refine J_callSi (k2 := kMod_isIn) (as := [.int v2, .int 1, .int x4]) (pc' := 35) ok (dOf dX11_told 21 rfl) rfl (cw_Mod_isIn (by decide) (by decide)) wml_X11_75 wstat_X11_isIn ⟨Nat.le_refl 0, Nat.le_refl 0⟩ (Nat.le_of_ble_eq_true rfl) rfl (fun _ _ hf => t_Mod_isIn hf) (fun x6 h5 => ?_)
      refine J_if_eq (tgt := 49) (pc' := 38) ok (dOf dX11_told 22 rfl) rfl (by decide) ?_ ?_
      · refine J_iconst (v := (-1)) (pc' := 50) ok (dOf dX11_told 30 rfl) rfl (by decide) ?_
        exact Mod_told_j50_J ok v0 v1 v2 (-1) h5
      · refine J_aload_n (pc' := 39) ok (dOf dX11_told 23 rfl) rfl rfl rfl ?_
        refine J_iload_n (pc' := 40) ok (dOf dX11_told 24 rfl) rfl rfl rfl ?_
        refine J_iload_n (pc' := 41) ok (dOf dX11_told 25 rfl) rfl rfl rfl ?_
        refine J_iconst (v := 1) (pc' := 42) ok (dOf dX11_told 26 rfl) rfl (by decide) ?_
        refine J_isub (pc' := 43) ok (dOf dX11_told 27 rfl) rfl ?_
        refine J_callVi (k2 := kMod_needOf) (ci := 11) (T := TX11) (N := 29) (as := [.int v1, .int (v2 - 1)]) (pc' := 46) ok (dOf dX11_told 28 rfl) rfl (cw_Mod_needOf (by decide) (by decide)) wml_X11_212 winst_X11_needOf wsel_X11_needOf rfl ⟨Nat.le_refl 0, Nat.le_refl 0⟩ (Nat.le_of_ble_eq_true rfl) rfl (fun _ _ hf => t_Mod_needOf hf) (fun x8 h7 => ?_)
        refine J_goto (tgt := 50) ok (dOf dX11_told 29 rfl) (by decide) ?_
        exact Mod_told_j50_J ok v0 v1 v2 x8 h7
    · refine J_aload_n (pc' := 15) ok (dOf dX11_told 8 rfl) rfl rfl rfl ?_
      refine J_getR (ci := 11) (kf := 5) (C := RX11) (T := TX11) (N := 29) (pc' := 18) ok (dOf dX11_told 9 rfl) rfl (by decide) rfl (by decide) win_11 wfl_X11_22 (fun a9 => ?_)
      refine J_bipush (v := 47) (pc' := 20) ok (dOf dX11_told 10 rfl) rfl (by decide) ?_
      refine J_iload_n (pc' := 21) ok (dOf dX11_told 11 rfl) rfl rfl rfl ?_
      refine J_iadd (pc' := 22) ok (dOf dX11_told 12 rfl) rfl ?_
      refine J_iald (pc' := 23) ok (dOf dX11_told 13 rfl) rfl (fun x10 => ?_)
      exact J_ireturn ok (dOf dX11_told 14 rfl) rfl (Eq.refl 0) (Nat.le_refl 0)
  · refine J_iconst (v := (-1)) (pc' := 9) ok (dOf dX11_told 4 rfl) rfl (by decide) ?_
    exact J_ireturn ok (dOf dX11_told 5 rfl) rfl (Eq.refl 0) (Nat.le_refl 0)
-- X11_rays
abbrev kMod_rays : Cd := (yX11_rays, cX11_rays, 3, (some .int), 1, 22)
theorem dX11_rays : dcheck cX11_rays [(0, .iconst 0, 1), (1, .istore_n 1, 1), (2, .iconst 0, 1), (3, .istore_n 2, 1), (4, .iload_n 2, 1), (5, .aload_n 0, 1), (6, .getfield 22, 3), (9, .bipush 9, 2), (11, .iaload, 1), (12, .if_icmp .ge 18, 3), (15, .iload_n 1, 1), (16, .aload_n 0, 1), (17, .iload_n 2, 1), (18, .iconst 1, 1), (19, .invokevirtual 252, 3), (22, .iadd, 1), (23, .istore_n 1, 1), (24, .iinc 2 1, 3), (27, .goto (-23), 3), (30, .iload_n 1, 1), (31, .ireturn, 1)] = true := by decide +kernel
theorem cw_Mod_rays {k : Cd} (h1 : kMod_rays.2.2.2.2.1 + 1 ≤ k.2.2.2.2.1) (h2 : 8 + (kMod_rays.2.2.1 + 11) + kMod_rays.2.2.2.2.2 ≤ k.2.2.2.2.2) : Cw k kMod_rays 0 := ⟨wcode_X11_rays, wini_SplitProgramModel, ⟨by decide, by decide, by decide +kernel⟩, h1, h2⟩
def Mod_rays_b4 (v0 : Nat) (s : Int32 × Int32 × AHeap) : Option ((Int32 × Int32 × AHeap) ⊕ ((Int32 × Int32 × AHeap))) :=
  (gfR s.2.2 v0 11 5).bind fun a1 => (ald 0 s.2.2 a1 9).bind fun x2 => (if x2 ≤ s.2.1 then some (Sum.inr (s.1, s.2.1, s.2.2)) else (chk s.2.2 v0 11).bind fun _ => bnd2 (Mod_ofCut v0 s.2.1 1 s.2.2) fun x4 h3 => some (Sum.inl (s.1 + x4, s.2.1 + 1, h3)))
theorem Mod_rays_b4_J {E : JE} {l : Launch} {G : GX} {r : Option Value} {h' : AHeap} (ok : JOK E l G kMod_rays 0 0 r h') (v0 : Nat) {Y : (Int32 × Int32 × AHeap) ⊕ ((Int32 × Int32 × AHeap)) → Prop} (k1 : ∀ s' : Int32 × Int32 × AHeap, Y (.inl s') → JW E kMod_rays 4 [some (.ref v0), some (.int s'.1), some (.int s'.2.1)] [] s'.2.2 0 0) (kx30 : ∀ q : Int32 × Int32 × AHeap, Y (.inr q) → JW E kMod_rays 30 [some (.ref v0), some (.int q.1), some (.int q.2.1)] [] q.2.2 0 0) (s : Int32 × Int32 × AHeap) : J E kMod_rays (Mod_rays_b4 v0 s) Y 4 [some (.ref v0), some (.int s.1), some (.int s.2.1)] [] s.2.2 0 0 := by
  unfold Mod_rays_b4
  refine J_iload_n (pc' := 5) ok (dOf dX11_rays 4 rfl) rfl rfl rfl ?_
  refine J_aload_n (pc' := 6) ok (dOf dX11_rays 5 rfl) rfl rfl rfl ?_
  refine J_getR (ci := 11) (kf := 5) (C := RX11) (T := TX11) (N := 29) (pc' := 9) ok (dOf dX11_rays 6 rfl) rfl (by decide) rfl (by decide) win_11 wfl_X11_22 (fun a1 => ?_)
  refine J_bipush (v := 9) (pc' := 11) ok (dOf dX11_rays 7 rfl) rfl (by decide) ?_
  refine J_iald (pc' := 12) ok (dOf dX11_rays 8 rfl) rfl (fun x2 => ?_)
  refine J_icmp_ge (tgt := 30) (pc' := 15) ok (dOf dX11_rays 9 rfl) rfl (by decide) ?_ ?_
  · exact J_fin (kx30 (s.1, s.2.1, s.2.2))
  · refine J_iload_n (pc' := 16) ok (dOf dX11_rays 10 rfl) rfl rfl rfl ?_
    refine J_aload_n (pc' := 17) ok (dOf dX11_rays 11 rfl) rfl rfl rfl ?_
    refine J_iload_n (pc' := 18) ok (dOf dX11_rays 12 rfl) rfl rfl rfl ?_
    refine J_iconst (v := 1) (pc' := 19) ok (dOf dX11_rays 13 rfl) rfl (by decide) ?_
    refine J_callVi (k2 := kMod_ofCut) (ci := 11) (T := TX11) (N := 29) (as := [.int s.2.1, .int 1]) (pc' := 22) ok (dOf dX11_rays 14 rfl) rfl (cw_Mod_ofCut (by decide) (by decide)) wml_X11_252 winst_X11_ofCut wsel_X11_ofCut rfl ⟨Nat.le_refl 0, Nat.le_refl 0⟩ (Nat.le_of_ble_eq_true rfl) rfl (fun _ _ hf => t_Mod_ofCut hf) (fun x4 h3 => ?_)
    refine J_iadd (pc' := 23) ok (dOf dX11_rays 15 rfl) rfl ?_
    refine J_istore_n (ls' := [some (.ref v0), some (.int (s.1 + x4)), some (.int s.2.1)]) (pc' := 24) ok (dOf dX11_rays 16 rfl) rfl rfl (Nat.le_of_ble_eq_true rfl) rfl rfl ?_
    refine J_iinc (v := s.2.1 + 1) (ls' := [some (.ref v0), some (.int (s.1 + x4)), some (.int (s.2.1 + 1))]) (pc' := 27) ok (dOf dX11_rays 17 rfl) rfl rfl (by rfl) (Nat.le_of_ble_eq_true rfl) rfl rfl ?_
    refine J_goto (tgt := 4) ok (dOf dX11_rays 18 rfl) (by decide) ?_
    exact J_fin (k1 (s.1 + x4, s.2.1 + 1, h3))
def Mod_rays_j30 (v0 : Nat) (v1 : Int32) (v2 : Int32) (h : AHeap) : Option (Int32 × AHeap) :=
  some (v1, h)
theorem Mod_rays_j30_J {E : JE} {l : Launch} {G : GX} {v : Int32} {h' : AHeap} (ok : JOK E l G kMod_rays 0 0 (some (.int v)) h') (v0 : Nat) (v1 : Int32) (v2 : Int32) (h : AHeap) : J E kMod_rays (Mod_rays_j30 v0 v1 v2 h) (fun z => z = (v, h')) 30 [some (.ref v0), some (.int v1), some (.int v2)] [] h 0 0 := by
  unfold Mod_rays_j30
  refine J_iload_n (pc' := 31) ok (dOf dX11_rays 19 rfl) rfl rfl rfl ?_
  exact J_ireturn ok (dOf dX11_rays 20 rfl) rfl (Eq.refl 0) (Nat.le_refl 0)
def Mod_rays (v0 : Nat) (h : AHeap) : Option (Int32 × AHeap) :=
  (iter (Mod_rays_b4 v0) Lmax (0, 0, h)).bind (fun (q4 : Int32 × Int32 × AHeap) => Mod_rays_j30 v0 q4.1 q4.2.1 q4.2.2)
theorem t_Mod_rays {l : Launch} {G : GX} {v0 : Nat} {h : AHeap} {v : Int32} {h1 : AHeap} (hf : Mod_rays v0 h = some (v, h1)) : CT l G kMod_rays 0 0 [.ref v0] h (some (.int v)) h1 := by
  refine CT_of (ls := [some (.ref v0), none, none]) (Z := fun z => z = (v, h1)) (by decide +kernel) (Nat.le_of_ble_eq_true rfl) hf rfl ⟨rfl, trivial⟩ (fun E ok => ?_)
  unfold Mod_rays
  refine J_iconst (v := 0) (pc' := 1) ok (dOf dX11_rays 0 rfl) rfl (by decide) ?_
  refine J_istore_n (ls' := [some (.ref v0), some (.int 0), none]) (pc' := 2) ok (dOf dX11_rays 1 rfl) rfl rfl (Nat.le_of_ble_eq_true rfl) rfl rfl ?_
  refine J_iconst (v := 0) (pc' := 3) ok (dOf dX11_rays 2 rfl) rfl (by decide) ?_
  refine J_istore_n (ls' := [some (.ref v0), some (.int 0), some (.int 0)]) (pc' := 4) ok (dOf dX11_rays 3 rfl) rfl rfl (Nat.le_of_ble_eq_true rfl) rfl rfl ?_
  refine J_iter (lf := fun z4 => [some (.ref v0), some (.int z4.1), some (.int z4.2.1)]) (sf := fun _ => []) (hf := fun z4 => z4.2.2) (px := (fun (q4 : Int32 × Int32 × AHeap) => 30)) (lx := (fun (q4 : Int32 × Int32 × AHeap) => [some (.ref v0), some (.int q4.1), some (.int q4.2.1)])) (sx := (fun (q4 : Int32 × Int32 × AHeap) => [])) (hx := (fun (q4 : Int32 × Int32 × AHeap) => q4.2.2)) (fun Y2 z4 m1 m2 => Mod_rays_b4_J ok v0 m1 m2 z4) (fun q4 => ?_) Lmax _
  exact Mod_rays_j30_J ok v0 q4.1 q4.2.1 q4.2.2
-- X11_now
abbrev kMod_now : Cd := (yX11_now, cX11_now, 2, (some .int), 2, 44)
theorem dX11_now : dcheck cX11_now [(0, .iload_n 1, 1), (1, .tableswitch 117 0 8 #[51, 58, 65, 72, 80, 88, 96, 104, 109], 51), (52, .aload_n 0, 1), (53, .getfield 22, 3), (56, .iconst 3, 1), (57, .iaload, 1), (58, .ireturn, 1), (59, .aload_n 0, 1), (60, .getfield 22, 3), (63, .iconst 4, 1), (64, .iaload, 1), (65, .ireturn, 1), (66, .aload_n 0, 1), (67, .getfield 22, 3), (70, .iconst 5, 1), (71, .iaload, 1), (72, .ireturn, 1), (73, .aload_n 0, 1), (74, .getfield 22, 3), (77, .bipush 6, 2), (79, .iaload, 1), (80, .ireturn, 1), (81, .aload_n 0, 1), (82, .getfield 22, 3), (85, .bipush 7, 2), (87, .iaload, 1), (88, .ireturn, 1), (89, .aload_n 0, 1), (90, .getfield 22, 3), (93, .bipush 8, 2), (95, .iaload, 1), (96, .ireturn, 1), (97, .aload_n 0, 1), (98, .getfield 22, 3), (101, .bipush 9, 2), (103, .iaload, 1), (104, .ireturn, 1), (105, .aload_n 0, 1), (106, .invokevirtual 304, 3), (109, .ireturn, 1), (110, .aload_n 0, 1), (111, .getfield 22, 3), (114, .bipush 10, 2), (116, .iaload, 1), (117, .ireturn, 1), (118, .iconst (-1), 1), (119, .ireturn, 1)] = true := by decide +kernel
theorem cw_Mod_now {k : Cd} (h1 : kMod_now.2.2.2.2.1 + 1 ≤ k.2.2.2.2.1) (h2 : 8 + (kMod_now.2.2.1 + 11) + kMod_now.2.2.2.2.2 ≤ k.2.2.2.2.2) : Cw k kMod_now 1 := ⟨wcode_X11_now, wini_SplitProgramModel, ⟨by decide, by decide, by decide +kernel⟩, h1, h2⟩
def Mod_now (v0 : Nat) (v1 : Int32) (h : AHeap) : Option (Int32 × AHeap) :=
  swi v1 0 [(gfR h v0 11 5).bind fun a1 => (ald 0 h a1 3).bind fun x2 => some (x2, h), (gfR h v0 11 5).bind fun a3 => (ald 0 h a3 4).bind fun x4 => some (x4, h), (gfR h v0 11 5).bind fun a5 => (ald 0 h a5 5).bind fun x6 => some (x6, h), (gfR h v0 11 5).bind fun a7 => (ald 0 h a7 6).bind fun x8 => some (x8, h), (gfR h v0 11 5).bind fun a9 => (ald 0 h a9 7).bind fun x10 => some (x10, h), (gfR h v0 11 5).bind fun a11 => (ald 0 h a11 8).bind fun x12 => some (x12, h), (gfR h v0 11 5).bind fun a13 => (ald 0 h a13 9).bind fun x14 => some (x14, h), (chk h v0 11).bind fun _ => bnd2 (Mod_rays v0 h) fun x16 h15 => some (x16, h15), (gfR h v0 11 5).bind fun a17 => (ald 0 h a17 10).bind fun x18 => some (x18, h)] (some ((-1), h))
theorem t_Mod_now {l : Launch} {G : GX} {v0 : Nat} {v1 : Int32} {h : AHeap} {v : Int32} {h1 : AHeap} (hf : Mod_now v0 v1 h = some (v, h1)) : CT l G kMod_now 0 0 [.ref v0, .int v1] h (some (.int v)) h1 := by
  refine CT_of (ls := [some (.ref v0), some (.int v1)]) (Z := fun z => z = (v, h1)) (by decide +kernel) (Nat.le_of_ble_eq_true rfl) hf rfl ⟨rfl, rfl, trivial⟩ (fun E ok => ?_)
  unfold Mod_now
  refine J_iload_n (pc' := 1) ok (dOf dX11_now 0 rfl) rfl rfl rfl ?_
  refine J_tsw (tgd := 118) ok [52, 59, 66, 73, 81, 89, 97, 105, 110] (dOf dX11_now 1 rfl) rfl rfl (by decide) rfl ?_ (allJ_at _ _ ⟨?_, ?_, ?_, ?_, ?_, ?_, ?_, ?_, ?_, trivial⟩)
  · refine J_iconst (v := (-1)) (pc' := 119) ok (dOf dX11_now 45 rfl) rfl (by decide) ?_
    exact J_ireturn ok (dOf dX11_now 46 rfl) rfl (Eq.refl 0) (Nat.le_refl 0)
  · refine J_aload_n (pc' := 53) ok (dOf dX11_now 2 rfl) rfl rfl rfl ?_
    refine J_getR (ci := 11) (kf := 5) (C := RX11) (T := TX11) (N := 29) (pc' := 56) ok (dOf dX11_now 3 rfl) rfl (by decide) rfl (by decide) win_11 wfl_X11_22 (fun a1 => ?_)
    refine J_iconst (v := 3) (pc' := 57) ok (dOf dX11_now 4 rfl) rfl (by decide) ?_
    refine J_iald (pc' := 58) ok (dOf dX11_now 5 rfl) rfl (fun x2 => ?_)
    exact J_ireturn ok (dOf dX11_now 6 rfl) rfl (Eq.refl 0) (Nat.le_refl 0)
  · refine J_aload_n (pc' := 60) ok (dOf dX11_now 7 rfl) rfl rfl rfl ?_
    refine J_getR (ci := 11) (kf := 5) (C := RX11) (T := TX11) (N := 29) (pc' := 63) ok (dOf dX11_now 8 rfl) rfl (by decide) rfl (by decide) win_11 wfl_X11_22 (fun a3 => ?_)
    refine J_iconst (v := 4) (pc' := 64) ok (dOf dX11_now 9 rfl) rfl (by decide) ?_
    refine J_iald (pc' := 65) ok (dOf dX11_now 10 rfl) rfl (fun x4 => ?_)
    exact J_ireturn ok (dOf dX11_now 11 rfl) rfl (Eq.refl 0) (Nat.le_refl 0)
  · refine J_aload_n (pc' := 67) ok (dOf dX11_now 12 rfl) rfl rfl rfl ?_
    refine J_getR (ci := 11) (kf := 5) (C := RX11) (T := TX11) (N := 29) (pc' := 70) ok (dOf dX11_now 13 rfl) rfl (by decide) rfl (by decide) win_11 wfl_X11_22 (fun a5 => ?_)
    refine J_iconst (v := 5) (pc' := 71) ok (dOf dX11_now 14 rfl) rfl (by decide) ?_
    refine J_iald (pc' := 72) ok (dOf dX11_now 15 rfl) rfl (fun x6 => ?_)
    exact J_ireturn ok (dOf dX11_now 16 rfl) rfl (Eq.refl 0) (Nat.le_refl 0)
  · refine J_aload_n (pc' := 74) ok (dOf dX11_now 17 rfl) rfl rfl rfl ?_
    refine J_getR (ci := 11) (kf := 5) (C := RX11) (T := TX11) (N := 29) (pc' := 77) ok (dOf dX11_now 18 rfl) rfl (by decide) rfl (by decide) win_11 wfl_X11_22 (fun a7 => ?_)
    refine J_bipush (v := 6) (pc' := 79) ok (dOf dX11_now 19 rfl) rfl (by decide) ?_
    refine J_iald (pc' := 80) ok (dOf dX11_now 20 rfl) rfl (fun x8 => ?_)
    exact J_ireturn ok (dOf dX11_now 21 rfl) rfl (Eq.refl 0) (Nat.le_refl 0)
  · refine J_aload_n (pc' := 82) ok (dOf dX11_now 22 rfl) rfl rfl rfl ?_
    refine J_getR (ci := 11) (kf := 5) (C := RX11) (T := TX11) (N := 29) (pc' := 85) ok (dOf dX11_now 23 rfl) rfl (by decide) rfl (by decide) win_11 wfl_X11_22 (fun a9 => ?_)
    refine J_bipush (v := 7) (pc' := 87) ok (dOf dX11_now 24 rfl) rfl (by decide) ?_
    refine J_iald (pc' := 88) ok (dOf dX11_now 25 rfl) rfl (fun x10 => ?_)
    exact J_ireturn ok (dOf dX11_now 26 rfl) rfl (Eq.refl 0) (Nat.le_refl 0)
  · refine J_aload_n (pc' := 90) ok (dOf dX11_now 27 rfl) rfl rfl rfl ?_
    refine J_getR (ci := 11) (kf := 5) (C := RX11) (T := TX11) (N := 29) (pc' := 93) ok (dOf dX11_now 28 rfl) rfl (by decide) rfl (by decide) win_11 wfl_X11_22 (fun a11 => ?_)
    refine J_bipush (v := 8) (pc' := 95) ok (dOf dX11_now 29 rfl) rfl (by decide) ?_
    refine J_iald (pc' := 96) ok (dOf dX11_now 30 rfl) rfl (fun x12 => ?_)
    exact J_ireturn ok (dOf dX11_now 31 rfl) rfl (Eq.refl 0) (Nat.le_refl 0)
  · refine J_aload_n (pc' := 98) ok (dOf dX11_now 32 rfl) rfl rfl rfl ?_
    refine J_getR (ci := 11) (kf := 5) (C := RX11) (T := TX11) (N := 29) (pc' := 101) ok (dOf dX11_now 33 rfl) rfl (by decide) rfl (by decide) win_11 wfl_X11_22 (fun a13 => ?_)
    refine J_bipush (v := 9) (pc' := 103) ok (dOf dX11_now 34 rfl) rfl (by decide) ?_
    refine J_iald (pc' := 104) ok (dOf dX11_now 35 rfl) rfl (fun x14 => ?_)
    exact J_ireturn ok (dOf dX11_now 36 rfl) rfl (Eq.refl 0) (Nat.le_refl 0)
  · refine J_aload_n (pc' := 106) ok (dOf dX11_now 37 rfl) rfl rfl rfl ?_
    refine J_callVi (k2 := kMod_rays) (ci := 11) (T := TX11) (N := 29) (as := []) (pc' := 109) ok (dOf dX11_now 38 rfl) rfl (cw_Mod_rays (by decide) (by decide)) wml_X11_304 winst_X11_rays wsel_X11_rays rfl ⟨Nat.le_refl 0, Nat.le_refl 0⟩ (Nat.le_of_ble_eq_true rfl) rfl (fun _ _ hf => t_Mod_rays hf) (fun x16 h15 => ?_)
    exact J_ireturn ok (dOf dX11_now 39 rfl) rfl (Eq.refl 0) (Nat.le_refl 0)
  · refine J_aload_n (pc' := 111) ok (dOf dX11_now 40 rfl) rfl rfl rfl ?_
    refine J_getR (ci := 11) (kf := 5) (C := RX11) (T := TX11) (N := 29) (pc' := 114) ok (dOf dX11_now 41 rfl) rfl (by decide) rfl (by decide) win_11 wfl_X11_22 (fun a17 => ?_)
    refine J_bipush (v := 10) (pc' := 116) ok (dOf dX11_now 42 rfl) rfl (by decide) ?_
    refine J_iald (pc' := 117) ok (dOf dX11_now 43 rfl) rfl (fun x18 => ?_)
    exact J_ireturn ok (dOf dX11_now 44 rfl) rfl (Eq.refl 0) (Nat.le_refl 0)
-- Jxf58ca_isNaN_12338
abbrev kJxf58ca_isNaN : Cd := (yJxf58ca_isNaN_12338, cJxf58ca_isNaN_12338, 1, (some .boolean), 0, 0)
theorem dJxf58ca_isNaN_12338 : dcheck cJxf58ca_isNaN_12338 [(0, .fload_n 0, 1), (1, .fload_n 0, 1), (2, .fcmp .l, 1), (3, .ifCond .eq 7, 3), (6, .iconst 1, 1), (7, .goto 4, 3), (10, .iconst 0, 1), (11, .ireturn, 1)] = true := by decide +kernel
theorem cw_Jxf58ca_isNaN {k : Cd} (h1 : kJxf58ca_isNaN.2.2.2.2.1 + 1 ≤ k.2.2.2.2.1) (h2 : 8 + (kJxf58ca_isNaN.2.2.1 + 11) + kJxf58ca_isNaN.2.2.2.2.2 ≤ k.2.2.2.2.2) : Cw k kJxf58ca_isNaN 1 := ⟨wcode_Jxf58ca_isNaN_12338, wini_java_lang_Float, ⟨by decide, by decide, by decide +kernel⟩, h1, h2⟩
def Jxf58ca_isNaN_j11 (v0 : UInt32) (t0 : Int32) (h : AHeap) : Option (Int32 × AHeap) :=
  (bz t0).bind fun z => some (z, h)
theorem Jxf58ca_isNaN_j11_J {E : JE} {l : Launch} {G : GX} {v : Int32} {h' : AHeap} (ok : JOK E l G kJxf58ca_isNaN 0 0 (some (.int v)) h') (v0 : UInt32) (t0 : Int32) (h : AHeap) : J E kJxf58ca_isNaN (Jxf58ca_isNaN_j11 v0 t0 h) (fun z => z = (v, h')) 11 [some (.float v0)] [.int t0] h 0 0 := by
  unfold Jxf58ca_isNaN_j11
  exact J_zreturn ok (dOf dJxf58ca_isNaN_12338 7 rfl) rfl (Eq.refl 0) (Nat.le_refl 0)
def Jxf58ca_isNaN (v0 : UInt32) (h : AHeap) : Option (Int32 × AHeap) :=
  (if (Op.cmpValue (FP.fcmp v0 v0) .l) = 0 then Jxf58ca_isNaN_j11 v0 0 h else Jxf58ca_isNaN_j11 v0 1 h)
theorem t_Jxf58ca_isNaN {l : Launch} {G : GX} {v0 : UInt32} {h : AHeap} {v : Int32} {h1 : AHeap} (hf : Jxf58ca_isNaN v0 h = some (v, h1)) : CT l G kJxf58ca_isNaN 0 0 [.float v0] h (some (.int v)) h1 := by
  refine CT_of (ls := [some (.float v0)]) (Z := fun z => z = (v, h1)) (by decide +kernel) (Nat.le_of_ble_eq_true rfl) hf rfl ⟨rfl, trivial⟩ (fun E ok => ?_)
  unfold Jxf58ca_isNaN
  refine J_fload_n (pc' := 1) ok (dOf dJxf58ca_isNaN_12338 0 rfl) rfl rfl rfl ?_
  refine J_fload_n (pc' := 2) ok (dOf dJxf58ca_isNaN_12338 1 rfl) rfl rfl rfl ?_
  refine J_fcmp (pc' := 3) ok (dOf dJxf58ca_isNaN_12338 2 rfl) rfl ?_
  refine J_if_eq (tgt := 10) (pc' := 6) ok (dOf dJxf58ca_isNaN_12338 3 rfl) rfl (by decide) ?_ ?_
  · refine J_iconst (v := 0) (pc' := 11) ok (dOf dJxf58ca_isNaN_12338 6 rfl) rfl (by decide) ?_
    exact Jxf58ca_isNaN_j11_J ok v0 0 h
  · refine J_iconst (v := 1) (pc' := 7) ok (dOf dJxf58ca_isNaN_12338 4 rfl) rfl (by decide) ?_
    refine J_goto (tgt := 11) ok (dOf dJxf58ca_isNaN_12338 5 rfl) (by decide) ?_
    exact Jxf58ca_isNaN_j11_J ok v0 1 h
-- Jxf58ca_floatToIntBits_5c35a
abbrev kJxf58ca_floatToIntBits : Cd := (yJxf58ca_floatToIntBits_5c35a, cJxf58ca_floatToIntBits_5c35a, 1, (some .int), 1, 23)
theorem dJxf58ca_floatToIntBits_5c35a : dcheck cJxf58ca_floatToIntBits_5c35a [(0, .fload_n 0, 1), (1, .invokestatic 59, 3), (4, .ifCond .ne 8, 3), (7, .fload_n 0, 1), (8, .invokestatic 74, 3), (11, .ireturn, 1), (12, .ldc 77, 2), (14, .ireturn, 1)] = true := by decide +kernel
theorem cw_Jxf58ca_floatToIntBits {k : Cd} (h1 : kJxf58ca_floatToIntBits.2.2.2.2.1 + 1 ≤ k.2.2.2.2.1) (h2 : 8 + (kJxf58ca_floatToIntBits.2.2.1 + 11) + kJxf58ca_floatToIntBits.2.2.2.2.2 ≤ k.2.2.2.2.2) : Cw k kJxf58ca_floatToIntBits 1 := ⟨wcode_Jxf58ca_floatToIntBits_5c35a, wini_java_lang_Float, ⟨by decide, by decide, by decide +kernel⟩, h1, h2⟩
def Jxf58ca_floatToIntBits (v0 : UInt32) (h : AHeap) : Option (Int32 × AHeap) :=
  bnd2 (Jxf58ca_isNaN v0 h) fun x2 h1 => (if ¬ x2 = 0 then some (2143289344, h1) else some (v0.toInt32, h1))
theorem t_Jxf58ca_floatToIntBits {l : Launch} {G : GX} {v0 : UInt32} {h : AHeap} {v : Int32} {h1 : AHeap} (hf : Jxf58ca_floatToIntBits v0 h = some (v, h1)) : CT l G kJxf58ca_floatToIntBits 0 0 [.float v0] h (some (.int v)) h1 := by
  refine CT_of (ls := [some (.float v0)]) (Z := fun z => z = (v, h1)) (by decide +kernel) (Nat.le_of_ble_eq_true rfl) hf rfl ⟨rfl, trivial⟩ (fun E ok => ?_)
  unfold Jxf58ca_floatToIntBits
  refine J_fload_n (pc' := 1) ok (dOf dJxf58ca_floatToIntBits_5c35a 0 rfl) rfl rfl rfl ?_
  refine J_callSi (k2 := kJxf58ca_isNaN) (as := [.float v0]) (pc' := 4) ok (dOf dJxf58ca_floatToIntBits_5c35a 1 rfl) rfl (cw_Jxf58ca_isNaN (by decide) (by decide)) wml_Jxf58ca_59 wstat_Jxf58ca_isNaN_12338 ⟨Nat.le_refl 0, Nat.le_refl 0⟩ (Nat.le_of_ble_eq_true rfl) rfl (fun _ _ hf => t_Jxf58ca_isNaN hf) (fun x2 h1 => ?_)
  refine J_if_ne (tgt := 12) (pc' := 7) ok (dOf dJxf58ca_floatToIntBits_5c35a 2 rfl) rfl (by decide) ?_ ?_
  · refine J_ldc (v := 2143289344) (pc' := 14) ok (dOf dJxf58ca_floatToIntBits_5c35a 6 rfl) rfl wcon_Jxf58ca_77 ?_
    exact J_ireturn ok (dOf dJxf58ca_floatToIntBits_5c35a 7 rfl) rfl (Eq.refl 0) (Nat.le_refl 0)
  · refine J_fload_n (pc' := 8) ok (dOf dJxf58ca_floatToIntBits_5c35a 3 rfl) rfl rfl rfl ?_
    refine J_f2raw (pc' := 11) ok (dOf dJxf58ca_floatToIntBits_5c35a 4 rfl) rfl wml_Jxf58ca_74 wnat_java_lang_Float_floatToRawIntBits wstat_java_lang_Float_floatToRawIntBits wini_java_lang_Float (Nat.le_of_ble_eq_true rfl) (Nat.le_of_ble_eq_true rfl) ?_
    exact J_ireturn ok (dOf dJxf58ca_floatToIntBits_5c35a 5 rfl) rfl (Eq.refl 0) (Nat.le_refl 0)
-- X11_gap
abbrev kMod_gap : Cd := (yX11_gap, cX11_gap, 1, (some .int), 2, 43)
theorem dX11_gap : dcheck cX11_gap [(0, .aload_n 0, 1), (1, .getfield 22, 3), (4, .iconst 5, 1), (5, .iaload, 1), (6, .iconst (-1), 1), (7, .if_icmp .ne 7, 3), (10, .iconst (-1), 1), (11, .goto 10, 3), (14, .aload_n 0, 1), (15, .invokevirtual 292, 3), (18, .invokestatic 307, 3), (21, .ireturn, 1)] = true := by decide +kernel
theorem cw_Mod_gap {k : Cd} (h1 : kMod_gap.2.2.2.2.1 + 1 ≤ k.2.2.2.2.1) (h2 : 8 + (kMod_gap.2.2.1 + 11) + kMod_gap.2.2.2.2.2 ≤ k.2.2.2.2.2) : Cw k kMod_gap 0 := ⟨wcode_X11_gap, wini_SplitProgramModel, ⟨by decide, by decide, by decide +kernel⟩, h1, h2⟩
def Mod_gap_j21 (v0 : Nat) (t0 : Int32) (h : AHeap) : Option (Int32 × AHeap) :=
  some (t0, h)
theorem Mod_gap_j21_J {E : JE} {l : Launch} {G : GX} {v : Int32} {h' : AHeap} (ok : JOK E l G kMod_gap 0 0 (some (.int v)) h') (v0 : Nat) (t0 : Int32) (h : AHeap) : J E kMod_gap (Mod_gap_j21 v0 t0 h) (fun z => z = (v, h')) 21 [some (.ref v0)] [.int t0] h 0 0 := by
  unfold Mod_gap_j21
  exact J_ireturn ok (dOf dX11_gap 11 rfl) rfl (Eq.refl 0) (Nat.le_refl 0)
def Mod_gap (v0 : Nat) (h : AHeap) : Option (Int32 × AHeap) :=
  (gfR h v0 11 5).bind fun a1 => (ald 0 h a1 5).bind fun x2 => (if ¬ x2 = (-1) then (chk h v0 11).bind fun _ => bnd2 (Mod_gapNow v0 h) fun x4 h3 => bnd2 (Jxf58ca_floatToIntBits x4 h3) fun x6 h5 => Mod_gap_j21 v0 x6 h5 else Mod_gap_j21 v0 (-1) h)
theorem t_Mod_gap {l : Launch} {G : GX} {v0 : Nat} {h : AHeap} {v : Int32} {h1 : AHeap} (hf : Mod_gap v0 h = some (v, h1)) : CT l G kMod_gap 0 0 [.ref v0] h (some (.int v)) h1 := by
  refine CT_of (ls := [some (.ref v0)]) (Z := fun z => z = (v, h1)) (by decide +kernel) (Nat.le_of_ble_eq_true rfl) hf rfl ⟨rfl, trivial⟩ (fun E ok => ?_)
  unfold Mod_gap
  refine J_aload_n (pc' := 1) ok (dOf dX11_gap 0 rfl) rfl rfl rfl ?_
  refine J_getR (ci := 11) (kf := 5) (C := RX11) (T := TX11) (N := 29) (pc' := 4) ok (dOf dX11_gap 1 rfl) rfl (by decide) rfl (by decide) win_11 wfl_X11_22 (fun a1 => ?_)
  refine J_iconst (v := 5) (pc' := 5) ok (dOf dX11_gap 2 rfl) rfl (by decide) ?_
  refine J_iald (pc' := 6) ok (dOf dX11_gap 3 rfl) rfl (fun x2 => ?_)
  refine J_iconst (v := (-1)) (pc' := 7) ok (dOf dX11_gap 4 rfl) rfl (by decide) ?_
  refine J_icmp_ne (tgt := 14) (pc' := 10) ok (dOf dX11_gap 5 rfl) rfl (by decide) ?_ ?_
  · refine J_aload_n (pc' := 15) ok (dOf dX11_gap 8 rfl) rfl rfl rfl ?_
    refine J_callVf (k2 := kMod_gapNow) (ci := 11) (T := TX11) (N := 29) (as := []) (pc' := 18) ok (dOf dX11_gap 9 rfl) rfl (cw_Mod_gapNow (by decide) (by decide)) wml_X11_292 winst_X11_gapNow wsel_X11_gapNow rfl ⟨Nat.le_refl 0, Nat.le_refl 0⟩ (Nat.le_of_ble_eq_true rfl) rfl (fun _ _ hf => t_Mod_gapNow hf) (fun x4 h3 => ?_)
    refine J_callSi (k2 := kJxf58ca_floatToIntBits) (as := [.float x4]) (pc' := 21) ok (dOf dX11_gap 10 rfl) rfl (cw_Jxf58ca_floatToIntBits (by decide) (by decide)) wml_X11_307 wstat_Jxf58ca_floatToIntBits_5c35a ⟨Nat.le_refl 0, Nat.le_refl 0⟩ (Nat.le_of_ble_eq_true rfl) rfl (fun _ _ hf => t_Jxf58ca_floatToIntBits hf) (fun x6 h5 => ?_)
    exact Mod_gap_j21_J ok v0 x6 h5
  · refine J_iconst (v := (-1)) (pc' := 11) ok (dOf dX11_gap 6 rfl) rfl (by decide) ?_
    refine J_goto (tgt := 21) ok (dOf dX11_gap 7 rfl) (by decide) ?_
    exact Mod_gap_j21_J ok v0 (-1) h
-- X11_isCut
abbrev kMod_isCut : Cd := (yX11_isCut, cX11_isCut, 2, (some .boolean), 1, 22)
theorem dX11_isCut : dcheck cX11_isCut [(0, .iload_n 1, 1), (1, .iconst 0, 1), (2, .aload_n 0, 1), (3, .getfield 22, 3), (6, .bipush 9, 2), (8, .iaload, 1), (9, .iconst 1, 1), (10, .isub, 1), (11, .invokestatic 75, 3), (14, .ireturn, 1)] = true := by decide +kernel
theorem cw_Mod_isCut {k : Cd} (h1 : kMod_isCut.2.2.2.2.1 + 1 ≤ k.2.2.2.2.1) (h2 : 8 + (kMod_isCut.2.2.1 + 11) + kMod_isCut.2.2.2.2.2 ≤ k.2.2.2.2.2) : Cw k kMod_isCut 1 := ⟨wcode_X11_isCut, wini_SplitProgramModel, ⟨by decide, by decide, by decide +kernel⟩, h1, h2⟩
def Mod_isCut (v0 : Nat) (v1 : Int32) (h : AHeap) : Option (Int32 × AHeap) :=
  (gfR h v0 11 5).bind fun a1 => (ald 0 h a1 9).bind fun x2 => bnd2 (Mod_isIn v1 0 (x2 - 1) h) fun x4 h3 => (bz x4).bind fun z => some (z, h3)
theorem t_Mod_isCut {l : Launch} {G : GX} {v0 : Nat} {v1 : Int32} {h : AHeap} {v : Int32} {h1 : AHeap} (hf : Mod_isCut v0 v1 h = some (v, h1)) : CT l G kMod_isCut 0 0 [.ref v0, .int v1] h (some (.int v)) h1 := by
  refine CT_of (ls := [some (.ref v0), some (.int v1)]) (Z := fun z => z = (v, h1)) (by decide +kernel) (Nat.le_of_ble_eq_true rfl) hf rfl ⟨rfl, rfl, trivial⟩ (fun E ok => ?_)
  unfold Mod_isCut
  refine J_iload_n (pc' := 1) ok (dOf dX11_isCut 0 rfl) rfl rfl rfl ?_
  refine J_iconst (v := 0) (pc' := 2) ok (dOf dX11_isCut 1 rfl) rfl (by decide) ?_
  refine J_aload_n (pc' := 3) ok (dOf dX11_isCut 2 rfl) rfl rfl rfl ?_
  refine J_getR (ci := 11) (kf := 5) (C := RX11) (T := TX11) (N := 29) (pc' := 6) ok (dOf dX11_isCut 3 rfl) rfl (by decide) rfl (by decide) win_11 wfl_X11_22 (fun a1 => ?_)
  refine J_bipush (v := 9) (pc' := 8) ok (dOf dX11_isCut 4 rfl) rfl (by decide) ?_
  refine J_iald (pc' := 9) ok (dOf dX11_isCut 5 rfl) rfl (fun x2 => ?_)
  refine J_iconst (v := 1) (pc' := 10) ok (dOf dX11_isCut 6 rfl) rfl (by decide) ?_
  refine J_isub (pc' := 11) ok (dOf dX11_isCut 7 rfl) rfl ?_
  refine J_callSi (k2 := kMod_isIn) (as := [.int v1, .int 0, .int (x2 - 1)]) (pc' := 14) ok (dOf dX11_isCut 8 rfl) rfl (cw_Mod_isIn (by decide) (by decide)) wml_X11_75 wstat_X11_isIn ⟨Nat.le_refl 0, Nat.le_refl 0⟩ (Nat.le_of_ble_eq_true rfl) rfl (fun _ _ hf => t_Mod_isIn hf) (fun x4 h3 => ?_)
  exact J_zreturn ok (dOf dX11_isCut 9 rfl) rfl (Eq.refl 0) (Nat.le_refl 0)
-- X11_cut
abbrev kMod_cut : Cd := (yX11_cut, cX11_cut, 3, (some .int), 2, 43)
theorem dX11_cut : dcheck cX11_cut [(0, .aload_n 0, 1), (1, .iload_n 1, 1), (2, .invokevirtual 313, 3), (5, .ifCond .ne 5, 3), (8, .iconst (-1), 1), (9, .ireturn, 1), (10, .iload_n 2, 1), (11, .iconst 0, 1), (12, .iconst 2, 1), (13, .invokestatic 75, 3), (16, .ifCond .ne 41, 3), (19, .iload_n 2, 1), (20, .iconst 3, 1), (21, .iconst 3, 1), (22, .aload_n 0, 1), (23, .getfield 22, 3), (26, .iconst 0, 1), (27, .iaload, 1), (28, .iadd, 1), (29, .iconst 1, 1), (30, .isub, 1), (31, .invokestatic 75, 3), (34, .ifCond .ne 23, 3), (37, .iload_n 2, 1), (38, .bipush 7, 2), (40, .bipush 7, 2), (42, .aload_n 0, 1), (43, .getfield 22, 3), (46, .iconst 1, 1), (47, .iaload, 1), (48, .iadd, 1), (49, .iconst 1, 1), (50, .isub, 1), (51, .invokestatic 75, 3), (54, .ifCond .eq 10, 3), (57, .aload_n 0, 1), (58, .iload_n 1, 1), (59, .iload_n 2, 1), (60, .invokevirtual 252, 3), (63, .ireturn, 1), (64, .iconst (-1), 1), (65, .ireturn, 1)] = true := by decide +kernel
theorem cw_Mod_cut {k : Cd} (h1 : kMod_cut.2.2.2.2.1 + 1 ≤ k.2.2.2.2.1) (h2 : 8 + (kMod_cut.2.2.1 + 11) + kMod_cut.2.2.2.2.2 ≤ k.2.2.2.2.2) : Cw k kMod_cut 2 := ⟨wcode_X11_cut, wini_SplitProgramModel, ⟨by decide, by decide, by decide +kernel⟩, h1, h2⟩
def Mod_cut_j57 (v0 : Nat) (v1 : Int32) (v2 : Int32) (h : AHeap) : Option (Int32 × AHeap) :=
  (chk h v0 11).bind fun _ => bnd2 (Mod_ofCut v0 v1 v2 h) fun x6 h5 => some (x6, h5)
theorem Mod_cut_j57_J {E : JE} {l : Launch} {G : GX} {v : Int32} {h' : AHeap} (ok : JOK E l G kMod_cut 0 0 (some (.int v)) h') (v0 : Nat) (v1 : Int32) (v2 : Int32) (h : AHeap) : J E kMod_cut (Mod_cut_j57 v0 v1 v2 h) (fun z => z = (v, h')) 57 [some (.ref v0), some (.int v1), some (.int v2)] [] h 0 0 := by
  unfold Mod_cut_j57
  refine J_aload_n (pc' := 58) ok (dOf dX11_cut 35 rfl) rfl rfl rfl ?_
  refine J_iload_n (pc' := 59) ok (dOf dX11_cut 36 rfl) rfl rfl rfl ?_
  refine J_iload_n (pc' := 60) ok (dOf dX11_cut 37 rfl) rfl rfl rfl ?_
  refine J_callVi (k2 := kMod_ofCut) (ci := 11) (T := TX11) (N := 29) (as := [.int v1, .int v2]) (pc' := 63) ok (dOf dX11_cut 38 rfl) rfl (cw_Mod_ofCut (by decide) (by decide)) wml_X11_252 winst_X11_ofCut wsel_X11_ofCut rfl ⟨Nat.le_refl 0, Nat.le_refl 0⟩ (Nat.le_of_ble_eq_true rfl) rfl (fun _ _ hf => t_Mod_ofCut hf) (fun x6 h5 => ?_)
  exact J_ireturn ok (dOf dX11_cut 39 rfl) rfl (Eq.refl 0) (Nat.le_refl 0)
def Mod_cut (v0 : Nat) (v1 : Int32) (v2 : Int32) (h : AHeap) : Option (Int32 × AHeap) :=
  (chk h v0 11).bind fun _ => bnd2 (Mod_isCut v0 v1 h) fun x2 h1 => (if ¬ x2 = 0 then bnd2 (Mod_isIn v2 0 2 h1) fun x4 h3 => (if ¬ x4 = 0 then Mod_cut_j57 v0 v1 v2 h3 else (gfR h3 v0 11 5).bind fun a7 => (ald 0 h3 a7 0).bind fun x8 => bnd2 (Mod_isIn v2 3 ((3 + x8) - 1) h3) fun x10 h9 => (if ¬ x10 = 0 then Mod_cut_j57 v0 v1 v2 h9 else (gfR h9 v0 11 5).bind fun a11 => (ald 0 h9 a11 1).bind fun x12 => bnd2 (Mod_isIn v2 7 ((7 + x12) - 1) h9) fun x14 h13 => (if x14 = 0 then some ((-1), h13) else Mod_cut_j57 v0 v1 v2 h13))) else some ((-1), h1))
theorem t_Mod_cut {l : Launch} {G : GX} {v0 : Nat} {v1 : Int32} {v2 : Int32} {h : AHeap} {v : Int32} {h1 : AHeap} (hf : Mod_cut v0 v1 v2 h = some (v, h1)) : CT l G kMod_cut 0 0 [.ref v0, .int v1, .int v2] h (some (.int v)) h1 := by
  refine CT_of (ls := [some (.ref v0), some (.int v1), some (.int v2)]) (Z := fun z => z = (v, h1)) (by decide +kernel) (Nat.le_of_ble_eq_true rfl) hf rfl ⟨rfl, rfl, rfl, trivial⟩ (fun E ok => ?_)
  unfold Mod_cut
  refine J_aload_n (pc' := 1) ok (dOf dX11_cut 0 rfl) rfl rfl rfl ?_
  refine J_iload_n (pc' := 2) ok (dOf dX11_cut 1 rfl) rfl rfl rfl ?_
  refine J_callVi (k2 := kMod_isCut) (ci := 11) (T := TX11) (N := 29) (as := [.int v1]) (pc' := 5) ok (dOf dX11_cut 2 rfl) rfl (cw_Mod_isCut (by decide) (by decide)) wml_X11_313 winst_X11_isCut wsel_X11_isCut rfl ⟨Nat.le_refl 0, Nat.le_refl 0⟩ (Nat.le_of_ble_eq_true rfl) rfl (fun _ _ hf => t_Mod_isCut hf) (fun x2 h1 => ?_)
  refine J_if_ne (tgt := 10) (pc' := 8) ok (dOf dX11_cut 3 rfl) rfl (by decide) ?_ ?_
  · refine J_iload_n (pc' := 11) ok (dOf dX11_cut 6 rfl) rfl rfl rfl ?_
    refine J_iconst (v := 0) (pc' := 12) ok (dOf dX11_cut 7 rfl) rfl (by decide) ?_
    refine J_iconst (v := 2) (pc' := 13) ok (dOf dX11_cut 8 rfl) rfl (by decide) ?_
    refine J_callSi (k2 := kMod_isIn) (as := [.int v2, .int 0, .int 2]) (pc' := 16) ok (dOf dX11_cut 9 rfl) rfl (cw_Mod_isIn (by decide) (by decide)) wml_X11_75 wstat_X11_isIn ⟨Nat.le_refl 0, Nat.le_refl 0⟩ (Nat.le_of_ble_eq_true rfl) rfl (fun _ _ hf => t_Mod_isIn hf) (fun x4 h3 => ?_)
    refine J_if_ne (tgt := 57) (pc' := 19) ok (dOf dX11_cut 10 rfl) rfl (by decide) ?_ ?_
    · exact Mod_cut_j57_J ok v0 v1 v2 h3
    · refine J_iload_n (pc' := 20) ok (dOf dX11_cut 11 rfl) rfl rfl rfl ?_
      refine J_iconst (v := 3) (pc' := 21) ok (dOf dX11_cut 12 rfl) rfl (by decide) ?_
      refine J_iconst (v := 3) (pc' := 22) ok (dOf dX11_cut 13 rfl) rfl (by decide) ?_
      refine J_aload_n (pc' := 23) ok (dOf dX11_cut 14 rfl) rfl rfl rfl ?_
      refine J_getR (ci := 11) (kf := 5) (C := RX11) (T := TX11) (N := 29) (pc' := 26) ok (dOf dX11_cut 15 rfl) rfl (by decide) rfl (by decide) win_11 wfl_X11_22 (fun a7 => ?_)
      refine J_iconst (v := 0) (pc' := 27) ok (dOf dX11_cut 16 rfl) rfl (by decide) ?_
      refine J_iald (pc' := 28) ok (dOf dX11_cut 17 rfl) rfl (fun x8 => ?_)
      refine J_iadd (pc' := 29) ok (dOf dX11_cut 18 rfl) rfl ?_
      refine J_iconst (v := 1) (pc' := 30) ok (dOf dX11_cut 19 rfl) rfl (by decide) ?_
      refine J_isub (pc' := 31) ok (dOf dX11_cut 20 rfl) rfl ?_
      refine J_callSi (k2 := kMod_isIn) (as := [.int v2, .int 3, .int ((3 + x8) - 1)]) (pc' := 34) ok (dOf dX11_cut 21 rfl) rfl (cw_Mod_isIn (by decide) (by decide)) wml_X11_75 wstat_X11_isIn ⟨Nat.le_refl 0, Nat.le_refl 0⟩ (Nat.le_of_ble_eq_true rfl) rfl (fun _ _ hf => t_Mod_isIn hf) (fun x10 h9 => ?_)
      refine J_if_ne (tgt := 57) (pc' := 37) ok (dOf dX11_cut 22 rfl) rfl (by decide) ?_ ?_
      · exact Mod_cut_j57_J ok v0 v1 v2 h9
      · refine J_iload_n (pc' := 38) ok (dOf dX11_cut 23 rfl) rfl rfl rfl ?_
        refine J_bipush (v := 7) (pc' := 40) ok (dOf dX11_cut 24 rfl) rfl (by decide) ?_
        refine J_bipush (v := 7) (pc' := 42) ok (dOf dX11_cut 25 rfl) rfl (by decide) ?_
        refine J_aload_n (pc' := 43) ok (dOf dX11_cut 26 rfl) rfl rfl rfl ?_
        refine J_getR (ci := 11) (kf := 5) (C := RX11) (T := TX11) (N := 29) (pc' := 46) ok (dOf dX11_cut 27 rfl) rfl (by decide) rfl (by decide) win_11 wfl_X11_22 (fun a11 => ?_)
        refine J_iconst (v := 1) (pc' := 47) ok (dOf dX11_cut 28 rfl) rfl (by decide) ?_
        refine J_iald (pc' := 48) ok (dOf dX11_cut 29 rfl) rfl (fun x12 => ?_)
        refine J_iadd (pc' := 49) ok (dOf dX11_cut 30 rfl) rfl ?_
        refine J_iconst (v := 1) (pc' := 50) ok (dOf dX11_cut 31 rfl) rfl (by decide) ?_
        refine J_isub (pc' := 51) ok (dOf dX11_cut 32 rfl) rfl ?_
        refine J_callSi (k2 := kMod_isIn) (as := [.int v2, .int 7, .int ((7 + x12) - 1)]) (pc' := 54) ok (dOf dX11_cut 33 rfl) rfl (cw_Mod_isIn (by decide) (by decide)) wml_X11_75 wstat_X11_isIn ⟨Nat.le_refl 0, Nat.le_refl 0⟩ (Nat.le_of_ble_eq_true rfl) rfl (fun _ _ hf => t_Mod_isIn hf) (fun x14 h13 => ?_)
        refine J_if_eq (tgt := 64) (pc' := 57) ok (dOf dX11_cut 34 rfl) rfl (by decide) ?_ ?_
        · refine J_iconst (v := (-1)) (pc' := 65) ok (dOf dX11_cut 40 rfl) rfl (by decide) ?_
          exact J_ireturn ok (dOf dX11_cut 41 rfl) rfl (Eq.refl 0) (Nat.le_refl 0)
        · exact Mod_cut_j57_J ok v0 v1 v2 h13
  · refine J_iconst (v := (-1)) (pc' := 9) ok (dOf dX11_cut 4 rfl) rfl (by decide) ?_
    exact J_ireturn ok (dOf dX11_cut 5 rfl) rfl (Eq.refl 0) (Nat.le_refl 0)
-- X11_tells_
abbrev kMod_tells_ : Cd := (yX11_tells_, cX11_tells_, 3, (some .int), 3, 67)
theorem dX11_tells_ : dcheck cX11_tells_ [(0, .aload_n 0, 1), (1, .iload_n 1, 1), (2, .invokevirtual 313, 3), (5, .ifCond .eq 20, 3), (8, .aload_n 0, 1), (9, .iload_n 2, 1), (10, .invokevirtual 274, 3), (13, .ifCond .eq 12, 3), (16, .aload_n 0, 1), (17, .iload_n 1, 1), (18, .iload_n 2, 1), (19, .invokevirtual 255, 3), (22, .goto 6, 3), (25, .ldc_w 318, 3), (28, .ireturn, 1)] = true := by decide +kernel
theorem cw_Mod_tells_ {k : Cd} (h1 : kMod_tells_.2.2.2.2.1 + 1 ≤ k.2.2.2.2.1) (h2 : 8 + (kMod_tells_.2.2.1 + 11) + kMod_tells_.2.2.2.2.2 ≤ k.2.2.2.2.2) : Cw k kMod_tells_ 2 := ⟨wcode_X11_tells_, wini_SplitProgramModel, ⟨by decide, by decide, by decide +kernel⟩, h1, h2⟩
def Mod_tells__j28 (v0 : Nat) (v1 : Int32) (v2 : Int32) (t0 : Int32) (h : AHeap) : Option (Int32 × AHeap) :=
  some (t0, h)
theorem Mod_tells__j28_J {E : JE} {l : Launch} {G : GX} {v : Int32} {h' : AHeap} (ok : JOK E l G kMod_tells_ 0 0 (some (.int v)) h') (v0 : Nat) (v1 : Int32) (v2 : Int32) (t0 : Int32) (h : AHeap) : J E kMod_tells_ (Mod_tells__j28 v0 v1 v2 t0 h) (fun z => z = (v, h')) 28 [some (.ref v0), some (.int v1), some (.int v2)] [.int t0] h 0 0 := by
  unfold Mod_tells__j28
  exact J_ireturn ok (dOf dX11_tells_ 14 rfl) rfl (Eq.refl 0) (Nat.le_refl 0)
def Mod_tells__j25 (v0 : Nat) (v1 : Int32) (v2 : Int32) (h : AHeap) : Option (Int32 × AHeap) :=
  Mod_tells__j28 v0 v1 v2 (-2147483648) h
theorem Mod_tells__j25_J {E : JE} {l : Launch} {G : GX} {v : Int32} {h' : AHeap} (ok : JOK E l G kMod_tells_ 0 0 (some (.int v)) h') (v0 : Nat) (v1 : Int32) (v2 : Int32) (h : AHeap) : J E kMod_tells_ (Mod_tells__j25 v0 v1 v2 h) (fun z => z = (v, h')) 25 [some (.ref v0), some (.int v1), some (.int v2)] [] h 0 0 := by
  unfold Mod_tells__j25
  refine J_ldcw (v := (-2147483648)) (pc' := 28) ok (dOf dX11_tells_ 13 rfl) rfl wcon_X11_318 ?_
  exact Mod_tells__j28_J ok v0 v1 v2 (-2147483648) h
def Mod_tells_ (v0 : Nat) (v1 : Int32) (v2 : Int32) (h : AHeap) : Option (Int32 × AHeap) :=
  (chk h v0 11).bind fun _ => bnd2 (Mod_isCut v0 v1 h) fun x2 h1 => (if x2 = 0 then Mod_tells__j25 v0 v1 v2 h1 else (chk h1 v0 11).bind fun _ => bnd2 (Mod_isPlan v0 v2 h1) fun x4 h3 => (if x4 = 0 then Mod_tells__j25 v0 v1 v2 h3 else (chk h3 v0 11).bind fun _ => bnd2 (Mod_toldBy v0 v1 v2 h3) fun x6 h5 => Mod_tells__j28 v0 v1 v2 x6 h5))
theorem t_Mod_tells_ {l : Launch} {G : GX} {v0 : Nat} {v1 : Int32} {v2 : Int32} {h : AHeap} {v : Int32} {h1 : AHeap} (hf : Mod_tells_ v0 v1 v2 h = some (v, h1)) : CT l G kMod_tells_ 0 0 [.ref v0, .int v1, .int v2] h (some (.int v)) h1 := by
  refine CT_of (ls := [some (.ref v0), some (.int v1), some (.int v2)]) (Z := fun z => z = (v, h1)) (by decide +kernel) (Nat.le_of_ble_eq_true rfl) hf rfl ⟨rfl, rfl, rfl, trivial⟩ (fun E ok => ?_)
  unfold Mod_tells_
  refine J_aload_n (pc' := 1) ok (dOf dX11_tells_ 0 rfl) rfl rfl rfl ?_
  refine J_iload_n (pc' := 2) ok (dOf dX11_tells_ 1 rfl) rfl rfl rfl ?_
  refine J_callVi (k2 := kMod_isCut) (ci := 11) (T := TX11) (N := 29) (as := [.int v1]) (pc' := 5) ok (dOf dX11_tells_ 2 rfl) rfl (cw_Mod_isCut (by decide) (by decide)) wml_X11_313 winst_X11_isCut wsel_X11_isCut rfl ⟨Nat.le_refl 0, Nat.le_refl 0⟩ (Nat.le_of_ble_eq_true rfl) rfl (fun _ _ hf => t_Mod_isCut hf) (fun x2 h1 => ?_)
  refine J_if_eq (tgt := 25) (pc' := 8) ok (dOf dX11_tells_ 3 rfl) rfl (by decide) ?_ ?_
  · exact Mod_tells__j25_J ok v0 v1 v2 h1
  · refine J_aload_n (pc' := 9) ok (dOf dX11_tells_ 4 rfl) rfl rfl rfl ?_
    refine J_iload_n (pc' := 10) ok (dOf dX11_tells_ 5 rfl) rfl rfl rfl ?_
    refine J_callVi (k2 := kMod_isPlan) (ci := 11) (T := TX11) (N := 29) (as := [.int v2]) (pc' := 13) ok (dOf dX11_tells_ 6 rfl) rfl (cw_Mod_isPlan (by decide) (by decide)) wml_X11_274 winst_X11_isPlan wsel_X11_isPlan rfl ⟨Nat.le_refl 0, Nat.le_refl 0⟩ (Nat.le_of_ble_eq_true rfl) rfl (fun _ _ hf => t_Mod_isPlan hf) (fun x4 h3 => ?_)
    refine J_if_eq (tgt := 25) (pc' := 16) ok (dOf dX11_tells_ 7 rfl) rfl (by decide) ?_ ?_
    · exact Mod_tells__j25_J ok v0 v1 v2 h3
    · refine J_aload_n (pc' := 17) ok (dOf dX11_tells_ 8 rfl) rfl rfl rfl ?_
      refine J_iload_n (pc' := 18) ok (dOf dX11_tells_ 9 rfl) rfl rfl rfl ?_
      refine J_iload_n (pc' := 19) ok (dOf dX11_tells_ 10 rfl) rfl rfl rfl ?_
      refine J_callVi (k2 := kMod_toldBy) (ci := 11) (T := TX11) (N := 29) (as := [.int v1, .int v2]) (pc' := 22) ok (dOf dX11_tells_ 11 rfl) rfl (cw_Mod_toldBy (by decide) (by decide)) wml_X11_255 winst_X11_toldBy wsel_X11_toldBy rfl ⟨Nat.le_refl 0, Nat.le_refl 0⟩ (Nat.le_of_ble_eq_true rfl) rfl (fun _ _ hf => t_Mod_toldBy hf) (fun x6 h5 => ?_)
      refine J_goto (tgt := 28) ok (dOf dX11_tells_ 12 rfl) (by decide) ?_
      exact Mod_tells__j28_J ok v0 v1 v2 x6 h5
-- X11_isExact
abbrev kMod_isExact : Cd := (yX11_isExact, cX11_isExact, 4, (some .boolean), 7, 166)
theorem dX11_isExact : dcheck cX11_isExact [(0, .aload_n 0, 1), (1, .iload_n 1, 1), (2, .iload_n 2, 1), (3, .invokevirtual 255, 3), (6, .istore_n 3, 1), (7, .aload_n 0, 1), (8, .iload_n 1, 1), (9, .iconst 1, 1), (10, .invokevirtual 252, 3), (13, .iconst 1, 1), (14, .if_icmp .ne 28, 3), (17, .iload_n 3, 1), (18, .ifCond .le 22, 3), (21, .iload_n 3, 1), (22, .aload_n 0, 1), (23, .aload_n 0, 1), (24, .iload_n 1, 1), (25, .iconst 0, 1), (26, .invokevirtual 252, 3), (29, .iload_n 2, 1), (30, .invokevirtual 246, 3), (33, .if_icmp .ne 7, 3), (36, .iconst 1, 1), (37, .goto 4, 3), (40, .iconst 0, 1), (41, .ireturn, 1), (42, .iload_n 3, 1), (43, .aload_n 0, 1), (44, .aload_n 0, 1), (45, .iload_n 1, 1), (46, .iconst 0, 1), (47, .invokevirtual 252, 3), (50, .iload_n 2, 1), (51, .invokevirtual 264, 3), (54, .if_icmp .ne 14, 3), (57, .aload_n 0, 1), (58, .getfield 215, 3), (61, .ifCond .ne 7, 3), (64, .iconst 1, 1), (65, .goto 4, 3), (68, .iconst 0, 1), (69, .ireturn, 1)] = true := by decide +kernel
theorem cw_Mod_isExact {k : Cd} (h1 : kMod_isExact.2.2.2.2.1 + 1 ≤ k.2.2.2.2.1) (h2 : 8 + (kMod_isExact.2.2.1 + 11) + kMod_isExact.2.2.2.2.2 ≤ k.2.2.2.2.2) : Cw k kMod_isExact 2 := ⟨wcode_X11_isExact, wini_SplitProgramModel, ⟨by decide, by decide, by decide +kernel⟩, h1, h2⟩
def Mod_isExact_j69 (v0 : Nat) (v1 : Int32) (v2 : Int32) (v3 : Int32) (t0 : Int32) (h : AHeap) : Option (Int32 × AHeap) :=
  (bz t0).bind fun z => some (z, h)
theorem Mod_isExact_j69_J {E : JE} {l : Launch} {G : GX} {v : Int32} {h' : AHeap} (ok : JOK E l G kMod_isExact 0 0 (some (.int v)) h') (v0 : Nat) (v1 : Int32) (v2 : Int32) (v3 : Int32) (t0 : Int32) (h : AHeap) : J E kMod_isExact (Mod_isExact_j69 v0 v1 v2 v3 t0 h) (fun z => z = (v, h')) 69 [some (.ref v0), some (.int v1), some (.int v2), some (.int v3)] [.int t0] h 0 0 := by
  unfold Mod_isExact_j69
  exact J_zreturn ok (dOf dX11_isExact 41 rfl) rfl (Eq.refl 0) (Nat.le_refl 0)
def Mod_isExact_j68 (v0 : Nat) (v1 : Int32) (v2 : Int32) (v3 : Int32) (h : AHeap) : Option (Int32 × AHeap) :=
  Mod_isExact_j69 v0 v1 v2 v3 0 h
theorem Mod_isExact_j68_J {E : JE} {l : Launch} {G : GX} {v : Int32} {h' : AHeap} (ok : JOK E l G kMod_isExact 0 0 (some (.int v)) h') (v0 : Nat) (v1 : Int32) (v2 : Int32) (v3 : Int32) (h : AHeap) : J E kMod_isExact (Mod_isExact_j68 v0 v1 v2 v3 h) (fun z => z = (v, h')) 68 [some (.ref v0), some (.int v1), some (.int v2), some (.int v3)] [] h 0 0 := by
  unfold Mod_isExact_j68
  refine J_iconst (v := 0) (pc' := 69) ok (dOf dX11_isExact 40 rfl) rfl (by decide) ?_
  exact Mod_isExact_j69_J ok v0 v1 v2 v3 0 h
def Mod_isExact_j41 (v0 : Nat) (v1 : Int32) (v2 : Int32) (v3 : Int32) (t0 : Int32) (h : AHeap) : Option (Int32 × AHeap) :=
  (bz t0).bind fun z => some (z, h)
theorem Mod_isExact_j41_J {E : JE} {l : Launch} {G : GX} {v : Int32} {h' : AHeap} (ok : JOK E l G kMod_isExact 0 0 (some (.int v)) h') (v0 : Nat) (v1 : Int32) (v2 : Int32) (v3 : Int32) (t0 : Int32) (h : AHeap) : J E kMod_isExact (Mod_isExact_j41 v0 v1 v2 v3 t0 h) (fun z => z = (v, h')) 41 [some (.ref v0), some (.int v1), some (.int v2), some (.int v3)] [.int t0] h 0 0 := by
  unfold Mod_isExact_j41
  exact J_zreturn ok (dOf dX11_isExact 25 rfl) rfl (Eq.refl 0) (Nat.le_refl 0)
def Mod_isExact_j40 (v0 : Nat) (v1 : Int32) (v2 : Int32) (v3 : Int32) (h : AHeap) : Option (Int32 × AHeap) :=
  Mod_isExact_j41 v0 v1 v2 v3 0 h
theorem Mod_isExact_j40_J {E : JE} {l : Launch} {G : GX} {v : Int32} {h' : AHeap} (ok : JOK E l G kMod_isExact 0 0 (some (.int v)) h') (v0 : Nat) (v1 : Int32) (v2 : Int32) (v3 : Int32) (h : AHeap) : J E kMod_isExact (Mod_isExact_j40 v0 v1 v2 v3 h) (fun z => z = (v, h')) 40 [some (.ref v0), some (.int v1), some (.int v2), some (.int v3)] [] h 0 0 := by
  unfold Mod_isExact_j40
  refine J_iconst (v := 0) (pc' := 41) ok (dOf dX11_isExact 24 rfl) rfl (by decide) ?_
  exact Mod_isExact_j41_J ok v0 v1 v2 v3 0 h
def Mod_isExact (v0 : Nat) (v1 : Int32) (v2 : Int32) (h : AHeap) : Option (Int32 × AHeap) :=
  (chk h v0 11).bind fun _ => bnd2 (Mod_toldBy v0 v1 v2 h) fun x2 h1 => (chk h1 v0 11).bind fun _ => bnd2 (Mod_ofCut v0 v1 1 h1) fun x4 h3 => (if ¬ x4 = 1 then (chk h3 v0 11).bind fun _ => bnd2 (Mod_ofCut v0 v1 0 h3) fun x6 h5 => (chk h5 v0 11).bind fun _ => bnd2 (Mod_solves v0 x6 v2 h5) fun x8 h7 => (if ¬ x2 = x8 then Mod_isExact_j68 v0 v1 v2 x2 h7 else (gfI h7 v0 11 21).bind fun x9 => (if ¬ x9 = 0 then Mod_isExact_j68 v0 v1 v2 x2 h7 else Mod_isExact_j69 v0 v1 v2 x2 1 h7)) else (if x2 ≤ 0 then Mod_isExact_j40 v0 v1 v2 x2 h3 else (chk h3 v0 11).bind fun _ => bnd2 (Mod_ofCut v0 v1 0 h3) fun x11 h10 => (chk h10 v0 11).bind fun _ => bnd2 (Mod_lackOf v0 x11 v2 h10) fun x13 h12 => (if ¬ x2 = x13 then Mod_isExact_j40 v0 v1 v2 x2 h12 else Mod_isExact_j41 v0 v1 v2 x2 1 h12)))
theorem t_Mod_isExact {l : Launch} {G : GX} {v0 : Nat} {v1 : Int32} {v2 : Int32} {h : AHeap} {v : Int32} {h1 : AHeap} (hf : Mod_isExact v0 v1 v2 h = some (v, h1)) : CT l G kMod_isExact 0 0 [.ref v0, .int v1, .int v2] h (some (.int v)) h1 := by
  refine CT_of (ls := [some (.ref v0), some (.int v1), some (.int v2), none]) (Z := fun z => z = (v, h1)) (by decide +kernel) (Nat.le_of_ble_eq_true rfl) hf rfl ⟨rfl, rfl, rfl, trivial⟩ (fun E ok => ?_)
  unfold Mod_isExact
  refine J_aload_n (pc' := 1) ok (dOf dX11_isExact 0 rfl) rfl rfl rfl ?_
  refine J_iload_n (pc' := 2) ok (dOf dX11_isExact 1 rfl) rfl rfl rfl ?_
  refine J_iload_n (pc' := 3) ok (dOf dX11_isExact 2 rfl) rfl rfl rfl ?_
  refine J_callVi (k2 := kMod_toldBy) (ci := 11) (T := TX11) (N := 29) (as := [.int v1, .int v2]) (pc' := 6) ok (dOf dX11_isExact 3 rfl) rfl (cw_Mod_toldBy (by decide) (by decide)) wml_X11_255 winst_X11_toldBy wsel_X11_toldBy rfl ⟨Nat.le_refl 0, Nat.le_refl 0⟩ (Nat.le_of_ble_eq_true rfl) rfl (fun _ _ hf => t_Mod_toldBy hf) (fun x2 h1 => ?_)
  refine J_istore_n (ls' := [some (.ref v0), some (.int v1), some (.int v2), some (.int x2)]) (pc' := 7) ok (dOf dX11_isExact 4 rfl) rfl rfl (Nat.le_of_ble_eq_true rfl) rfl rfl ?_
  refine J_aload_n (pc' := 8) ok (dOf dX11_isExact 5 rfl) rfl rfl rfl ?_
  refine J_iload_n (pc' := 9) ok (dOf dX11_isExact 6 rfl) rfl rfl rfl ?_
  refine J_iconst (v := 1) (pc' := 10) ok (dOf dX11_isExact 7 rfl) rfl (by decide) ?_
  refine J_callVi (k2 := kMod_ofCut) (ci := 11) (T := TX11) (N := 29) (as := [.int v1, .int 1]) (pc' := 13) ok (dOf dX11_isExact 8 rfl) rfl (cw_Mod_ofCut (by decide) (by decide)) wml_X11_252 winst_X11_ofCut wsel_X11_ofCut rfl ⟨Nat.le_refl 0, Nat.le_refl 0⟩ (Nat.le_of_ble_eq_true rfl) rfl (fun _ _ hf => t_Mod_ofCut hf) (fun x4 h3 => ?_)
  refine J_iconst (v := 1) (pc' := 14) ok (dOf dX11_isExact 9 rfl) rfl (by decide) ?_
  refine J_icmp_ne (tgt := 42) (pc' := 17) ok (dOf dX11_isExact 10 rfl) rfl (by decide) ?_ ?_
  · refine J_iload_n (pc' := 43) ok (dOf dX11_isExact 26 rfl) rfl rfl rfl ?_
    refine J_aload_n (pc' := 44) ok (dOf dX11_isExact 27 rfl) rfl rfl rfl ?_
    refine J_aload_n (pc' := 45) ok (dOf dX11_isExact 28 rfl) rfl rfl rfl ?_
    refine J_iload_n (pc' := 46) ok (dOf dX11_isExact 29 rfl) rfl rfl rfl ?_
    refine J_iconst (v := 0) (pc' := 47) ok (dOf dX11_isExact 30 rfl) rfl (by decide) ?_
    refine J_callVi (k2 := kMod_ofCut) (ci := 11) (T := TX11) (N := 29) (as := [.int v1, .int 0]) (pc' := 50) ok (dOf dX11_isExact 31 rfl) rfl (cw_Mod_ofCut (by decide) (by decide)) wml_X11_252 winst_X11_ofCut wsel_X11_ofCut rfl ⟨Nat.le_refl 0, Nat.le_refl 0⟩ (Nat.le_of_ble_eq_true rfl) rfl (fun _ _ hf => t_Mod_ofCut hf) (fun x6 h5 => ?_)
    refine J_iload_n (pc' := 51) ok (dOf dX11_isExact 32 rfl) rfl rfl rfl ?_
    refine J_callVi (k2 := kMod_solves) (ci := 11) (T := TX11) (N := 29) (as := [.int x6, .int v2]) (pc' := 54) ok (dOf dX11_isExact 33 rfl) rfl (cw_Mod_solves (by decide) (by decide)) wml_X11_264 winst_X11_solves wsel_X11_solves rfl ⟨Nat.le_refl 0, Nat.le_refl 0⟩ (Nat.le_of_ble_eq_true rfl) rfl (fun _ _ hf => t_Mod_solves hf) (fun x8 h7 => ?_)
    refine J_icmp_ne (tgt := 68) (pc' := 57) ok (dOf dX11_isExact 34 rfl) rfl (by decide) ?_ ?_
    · exact Mod_isExact_j68_J ok v0 v1 v2 x2 h7
    · refine J_aload_n (pc' := 58) ok (dOf dX11_isExact 35 rfl) rfl rfl rfl ?_
      refine J_getI (ci := 11) (kf := 21) (C := RX11) (T := TX11) (N := 29) (pc' := 61) ok (dOf dX11_isExact 36 rfl) rfl (by decide) rfl (by decide) win_11 wfl_X11_215 (fun x9 => ?_)
      refine J_if_ne (tgt := 68) (pc' := 64) ok (dOf dX11_isExact 37 rfl) rfl (by decide) ?_ ?_
      · exact Mod_isExact_j68_J ok v0 v1 v2 x2 h7
      · refine J_iconst (v := 1) (pc' := 65) ok (dOf dX11_isExact 38 rfl) rfl (by decide) ?_
        refine J_goto (tgt := 69) ok (dOf dX11_isExact 39 rfl) (by decide) ?_
        exact Mod_isExact_j69_J ok v0 v1 v2 x2 1 h7
  · refine J_iload_n (pc' := 18) ok (dOf dX11_isExact 11 rfl) rfl rfl rfl ?_
    refine J_if_le (tgt := 40) (pc' := 21) ok (dOf dX11_isExact 12 rfl) rfl (by decide) ?_ ?_
    · exact Mod_isExact_j40_J ok v0 v1 v2 x2 h3
    · refine J_iload_n (pc' := 22) ok (dOf dX11_isExact 13 rfl) rfl rfl rfl ?_
      refine J_aload_n (pc' := 23) ok (dOf dX11_isExact 14 rfl) rfl rfl rfl ?_
      refine J_aload_n (pc' := 24) ok (dOf dX11_isExact 15 rfl) rfl rfl rfl ?_
      refine J_iload_n (pc' := 25) ok (dOf dX11_isExact 16 rfl) rfl rfl rfl ?_
      refine J_iconst (v := 0) (pc' := 26) ok (dOf dX11_isExact 17 rfl) rfl (by decide) ?_
      refine J_callVi (k2 := kMod_ofCut) (ci := 11) (T := TX11) (N := 29) (as := [.int v1, .int 0]) (pc' := 29) ok (dOf dX11_isExact 18 rfl) rfl (cw_Mod_ofCut (by decide) (by decide)) wml_X11_252 winst_X11_ofCut wsel_X11_ofCut rfl ⟨Nat.le_refl 0, Nat.le_refl 0⟩ (Nat.le_of_ble_eq_true rfl) rfl (fun _ _ hf => t_Mod_ofCut hf) (fun x11 h10 => ?_)
      refine J_iload_n (pc' := 30) ok (dOf dX11_isExact 19 rfl) rfl rfl rfl ?_
      refine J_callVi (k2 := kMod_lackOf) (ci := 11) (T := TX11) (N := 29) (as := [.int x11, .int v2]) (pc' := 33) ok (dOf dX11_isExact 20 rfl) rfl (cw_Mod_lackOf (by decide) (by decide)) wml_X11_246 winst_X11_lackOf wsel_X11_lackOf rfl ⟨Nat.le_refl 0, Nat.le_refl 0⟩ (Nat.le_of_ble_eq_true rfl) rfl (fun _ _ hf => t_Mod_lackOf hf) (fun x13 h12 => ?_)
      refine J_icmp_ne (tgt := 40) (pc' := 36) ok (dOf dX11_isExact 21 rfl) rfl (by decide) ?_ ?_
      · exact Mod_isExact_j40_J ok v0 v1 v2 x2 h12
      · refine J_iconst (v := 1) (pc' := 37) ok (dOf dX11_isExact 22 rfl) rfl (by decide) ?_
        refine J_goto (tgt := 41) ok (dOf dX11_isExact 23 rfl) (by decide) ?_
        exact Mod_isExact_j41_J ok v0 v1 v2 x2 1 h12
-- X11_exact
abbrev kMod_exact : Cd := (yX11_exact, cX11_exact, 4, (some .int), 8, 189)
theorem dX11_exact : dcheck cX11_exact [(0, .aload_n 0, 1), (1, .iload_n 1, 1), (2, .invokevirtual 313, 3), (5, .ifCond .ne 5, 3), (8, .iconst (-1), 1), (9, .ireturn, 1), (10, .iconst 0, 1), (11, .istore_n 2, 1), (12, .iconst 0, 1), (13, .istore_n 3, 1), (14, .iload_n 3, 1), (15, .sipush 256, 3), (18, .if_icmp .ge 34, 3), (21, .iload_n 2, 1), (22, .aload_n 0, 1), (23, .iload_n 3, 1), (24, .invokevirtual 274, 3), (27, .ifCond .eq 16, 3), (30, .aload_n 0, 1), (31, .iload_n 1, 1), (32, .iload_n 3, 1), (33, .invokevirtual 319, 3), (36, .ifCond .eq 7, 3), (39, .iconst 1, 1), (40, .goto 4, 3), (43, .iconst 0, 1), (44, .iadd, 1), (45, .istore_n 2, 1), (46, .iinc 3 1, 3), (49, .goto (-35), 3), (52, .iload_n 2, 1), (53, .ireturn, 1)] = true := by decide +kernel
theorem cw_Mod_exact {k : Cd} (h1 : kMod_exact.2.2.2.2.1 + 1 ≤ k.2.2.2.2.1) (h2 : 8 + (kMod_exact.2.2.1 + 11) + kMod_exact.2.2.2.2.2 ≤ k.2.2.2.2.2) : Cw k kMod_exact 1 := ⟨wcode_X11_exact, wini_SplitProgramModel, ⟨by decide, by decide, by decide +kernel⟩, h1, h2⟩
def Mod_exact_j44 (v0 : Nat) (v1 : Int32) (v2 : Int32) (v3 : Int32) (t0 : Int32) (t1 : Int32) (h : AHeap) : Option ((Int32 × Int32 × AHeap) ⊕ ((Int32 × Int32 × AHeap))) :=
  some (Sum.inl (t0 + t1, v3 + 1, h))
theorem Mod_exact_j44_J {E : JE} {l : Launch} {G : GX} {r : Option Value} {h' : AHeap} (ok : JOK E l G kMod_exact 0 0 r h') (v0 : Nat) (v1 : Int32) (v2 : Int32) (v3 : Int32) (t0 : Int32) (t1 : Int32) (h : AHeap) {Y : (Int32 × Int32 × AHeap) ⊕ ((Int32 × Int32 × AHeap)) → Prop} (k1 : ∀ s' : Int32 × Int32 × AHeap, Y (.inl s') → JW E kMod_exact 14 [some (.ref v0), some (.int v1), some (.int s'.1), some (.int s'.2.1)] [] s'.2.2 0 0) (kx52 : ∀ q : Int32 × Int32 × AHeap, Y (.inr q) → JW E kMod_exact 52 [some (.ref v0), some (.int v1), some (.int q.1), some (.int q.2.1)] [] q.2.2 0 0) : J E kMod_exact (Mod_exact_j44 v0 v1 v2 v3 t0 t1 h) Y 44 [some (.ref v0), some (.int v1), some (.int v2), some (.int v3)] [.int t1, .int t0] h 0 0 := by
  unfold Mod_exact_j44
  refine J_iadd (pc' := 45) ok (dOf dX11_exact 26 rfl) rfl ?_
  refine J_istore_n (ls' := [some (.ref v0), some (.int v1), some (.int (t0 + t1)), some (.int v3)]) (pc' := 46) ok (dOf dX11_exact 27 rfl) rfl rfl (Nat.le_of_ble_eq_true rfl) rfl rfl ?_
  refine J_iinc (v := v3 + 1) (ls' := [some (.ref v0), some (.int v1), some (.int (t0 + t1)), some (.int (v3 + 1))]) (pc' := 49) ok (dOf dX11_exact 28 rfl) rfl rfl (by rfl) (Nat.le_of_ble_eq_true rfl) rfl rfl ?_
  refine J_goto (tgt := 14) ok (dOf dX11_exact 29 rfl) (by decide) ?_
  exact J_fin (k1 (t0 + t1, v3 + 1, h))
def Mod_exact_j43 (v0 : Nat) (v1 : Int32) (v2 : Int32) (v3 : Int32) (t0 : Int32) (h : AHeap) : Option ((Int32 × Int32 × AHeap) ⊕ ((Int32 × Int32 × AHeap))) :=
  Mod_exact_j44 v0 v1 v2 v3 t0 0 h
theorem Mod_exact_j43_J {E : JE} {l : Launch} {G : GX} {r : Option Value} {h' : AHeap} (ok : JOK E l G kMod_exact 0 0 r h') (v0 : Nat) (v1 : Int32) (v2 : Int32) (v3 : Int32) (t0 : Int32) (h : AHeap) {Y : (Int32 × Int32 × AHeap) ⊕ ((Int32 × Int32 × AHeap)) → Prop} (k1 : ∀ s' : Int32 × Int32 × AHeap, Y (.inl s') → JW E kMod_exact 14 [some (.ref v0), some (.int v1), some (.int s'.1), some (.int s'.2.1)] [] s'.2.2 0 0) (kx52 : ∀ q : Int32 × Int32 × AHeap, Y (.inr q) → JW E kMod_exact 52 [some (.ref v0), some (.int v1), some (.int q.1), some (.int q.2.1)] [] q.2.2 0 0) : J E kMod_exact (Mod_exact_j43 v0 v1 v2 v3 t0 h) Y 43 [some (.ref v0), some (.int v1), some (.int v2), some (.int v3)] [.int t0] h 0 0 := by
  unfold Mod_exact_j43
  refine J_iconst (v := 0) (pc' := 44) ok (dOf dX11_exact 25 rfl) rfl (by decide) ?_
  exact Mod_exact_j44_J ok v0 v1 v2 v3 t0 0 h k1 kx52
def Mod_exact_b14 (v0 : Nat) (v1 : Int32) (s : Int32 × Int32 × AHeap) : Option ((Int32 × Int32 × AHeap) ⊕ ((Int32 × Int32 × AHeap))) :=
  (if 256 ≤ s.2.1 then some (Sum.inr (s.1, s.2.1, s.2.2)) else (chk s.2.2 v0 11).bind fun _ => bnd2 (Mod_isPlan v0 s.2.1 s.2.2) fun x4 h3 => (if x4 = 0 then Mod_exact_j43 v0 v1 s.1 s.2.1 s.1 h3 else (chk h3 v0 11).bind fun _ => bnd2 (Mod_isExact v0 v1 s.2.1 h3) fun x6 h5 => (if x6 = 0 then Mod_exact_j43 v0 v1 s.1 s.2.1 s.1 h5 else Mod_exact_j44 v0 v1 s.1 s.2.1 s.1 1 h5)))
theorem Mod_exact_b14_J {E : JE} {l : Launch} {G : GX} {r : Option Value} {h' : AHeap} (ok : JOK E l G kMod_exact 0 0 r h') (v0 : Nat) (v1 : Int32) {Y : (Int32 × Int32 × AHeap) ⊕ ((Int32 × Int32 × AHeap)) → Prop} (k1 : ∀ s' : Int32 × Int32 × AHeap, Y (.inl s') → JW E kMod_exact 14 [some (.ref v0), some (.int v1), some (.int s'.1), some (.int s'.2.1)] [] s'.2.2 0 0) (kx52 : ∀ q : Int32 × Int32 × AHeap, Y (.inr q) → JW E kMod_exact 52 [some (.ref v0), some (.int v1), some (.int q.1), some (.int q.2.1)] [] q.2.2 0 0) (s : Int32 × Int32 × AHeap) : J E kMod_exact (Mod_exact_b14 v0 v1 s) Y 14 [some (.ref v0), some (.int v1), some (.int s.1), some (.int s.2.1)] [] s.2.2 0 0 := by
  unfold Mod_exact_b14
  refine J_iload_n (pc' := 15) ok (dOf dX11_exact 10 rfl) rfl rfl rfl ?_
  refine J_sipush (v := 256) (pc' := 18) ok (dOf dX11_exact 11 rfl) rfl (by decide) ?_
  refine J_icmp_ge (tgt := 52) (pc' := 21) ok (dOf dX11_exact 12 rfl) rfl (by decide) ?_ ?_
  · exact J_fin (kx52 (s.1, s.2.1, s.2.2))
  · refine J_iload_n (pc' := 22) ok (dOf dX11_exact 13 rfl) rfl rfl rfl ?_
    refine J_aload_n (pc' := 23) ok (dOf dX11_exact 14 rfl) rfl rfl rfl ?_
    refine J_iload_n (pc' := 24) ok (dOf dX11_exact 15 rfl) rfl rfl rfl ?_
    refine J_callVi (k2 := kMod_isPlan) (ci := 11) (T := TX11) (N := 29) (as := [.int s.2.1]) (pc' := 27) ok (dOf dX11_exact 16 rfl) rfl (cw_Mod_isPlan (by decide) (by decide)) wml_X11_274 winst_X11_isPlan wsel_X11_isPlan rfl ⟨Nat.le_refl 0, Nat.le_refl 0⟩ (Nat.le_of_ble_eq_true rfl) rfl (fun _ _ hf => t_Mod_isPlan hf) (fun x4 h3 => ?_)
    refine J_if_eq (tgt := 43) (pc' := 30) ok (dOf dX11_exact 17 rfl) rfl (by decide) ?_ ?_
    · exact Mod_exact_j43_J ok v0 v1 s.1 s.2.1 s.1 h3 k1 kx52
    · refine J_aload_n (pc' := 31) ok (dOf dX11_exact 18 rfl) rfl rfl rfl ?_
      refine J_iload_n (pc' := 32) ok (dOf dX11_exact 19 rfl) rfl rfl rfl ?_
      refine J_iload_n (pc' := 33) ok (dOf dX11_exact 20 rfl) rfl rfl rfl ?_
      refine J_callVi (k2 := kMod_isExact) (ci := 11) (T := TX11) (N := 29) (as := [.int v1, .int s.2.1]) (pc' := 36) ok (dOf dX11_exact 21 rfl) rfl (cw_Mod_isExact (by decide) (by decide)) wml_X11_319 winst_X11_isExact wsel_X11_isExact rfl ⟨Nat.le_refl 0, Nat.le_refl 0⟩ (Nat.le_of_ble_eq_true rfl) rfl (fun _ _ hf => t_Mod_isExact hf) (fun x6 h5 => ?_)
      refine J_if_eq (tgt := 43) (pc' := 39) ok (dOf dX11_exact 22 rfl) rfl (by decide) ?_ ?_
      · exact Mod_exact_j43_J ok v0 v1 s.1 s.2.1 s.1 h5 k1 kx52
      · refine J_iconst (v := 1) (pc' := 40) ok (dOf dX11_exact 23 rfl) rfl (by decide) ?_
        refine J_goto (tgt := 44) ok (dOf dX11_exact 24 rfl) (by decide) ?_
        exact Mod_exact_j44_J ok v0 v1 s.1 s.2.1 s.1 1 h5 k1 kx52
def Mod_exact_j52 (v0 : Nat) (v1 : Int32) (v2 : Int32) (v3 : Int32) (h : AHeap) : Option (Int32 × AHeap) :=
  some (v2, h)
theorem Mod_exact_j52_J {E : JE} {l : Launch} {G : GX} {v : Int32} {h' : AHeap} (ok : JOK E l G kMod_exact 0 0 (some (.int v)) h') (v0 : Nat) (v1 : Int32) (v2 : Int32) (v3 : Int32) (h : AHeap) : J E kMod_exact (Mod_exact_j52 v0 v1 v2 v3 h) (fun z => z = (v, h')) 52 [some (.ref v0), some (.int v1), some (.int v2), some (.int v3)] [] h 0 0 := by
  unfold Mod_exact_j52
  refine J_iload_n (pc' := 53) ok (dOf dX11_exact 30 rfl) rfl rfl rfl ?_
  exact J_ireturn ok (dOf dX11_exact 31 rfl) rfl (Eq.refl 0) (Nat.le_refl 0)
def Mod_exact (v0 : Nat) (v1 : Int32) (h : AHeap) : Option (Int32 × AHeap) :=
  (chk h v0 11).bind fun _ => bnd2 (Mod_isCut v0 v1 h) fun x2 h1 => (if ¬ x2 = 0 then (iter (Mod_exact_b14 v0 v1) Lmax (0, 0, h1)).bind (fun (q14 : Int32 × Int32 × AHeap) => Mod_exact_j52 v0 v1 q14.1 q14.2.1 q14.2.2) else some ((-1), h1))
theorem t_Mod_exact {l : Launch} {G : GX} {v0 : Nat} {v1 : Int32} {h : AHeap} {v : Int32} {h1 : AHeap} (hf : Mod_exact v0 v1 h = some (v, h1)) : CT l G kMod_exact 0 0 [.ref v0, .int v1] h (some (.int v)) h1 := by
  refine CT_of (ls := [some (.ref v0), some (.int v1), none, none]) (Z := fun z => z = (v, h1)) (by decide +kernel) (Nat.le_of_ble_eq_true rfl) hf rfl ⟨rfl, rfl, trivial⟩ (fun E ok => ?_)
  unfold Mod_exact
  refine J_aload_n (pc' := 1) ok (dOf dX11_exact 0 rfl) rfl rfl rfl ?_
  refine J_iload_n (pc' := 2) ok (dOf dX11_exact 1 rfl) rfl rfl rfl ?_
  refine J_callVi (k2 := kMod_isCut) (ci := 11) (T := TX11) (N := 29) (as := [.int v1]) (pc' := 5) ok (dOf dX11_exact 2 rfl) rfl (cw_Mod_isCut (by decide) (by decide)) wml_X11_313 winst_X11_isCut wsel_X11_isCut rfl ⟨Nat.le_refl 0, Nat.le_refl 0⟩ (Nat.le_of_ble_eq_true rfl) rfl (fun _ _ hf => t_Mod_isCut hf) (fun x2 h1 => ?_)
  refine J_if_ne (tgt := 10) (pc' := 8) ok (dOf dX11_exact 3 rfl) rfl (by decide) ?_ ?_
  · refine J_iconst (v := 0) (pc' := 11) ok (dOf dX11_exact 6 rfl) rfl (by decide) ?_
    refine J_istore_n (ls' := [some (.ref v0), some (.int v1), some (.int 0), none]) (pc' := 12) ok (dOf dX11_exact 7 rfl) rfl rfl (Nat.le_of_ble_eq_true rfl) rfl rfl ?_
    refine J_iconst (v := 0) (pc' := 13) ok (dOf dX11_exact 8 rfl) rfl (by decide) ?_
    refine J_istore_n (ls' := [some (.ref v0), some (.int v1), some (.int 0), some (.int 0)]) (pc' := 14) ok (dOf dX11_exact 9 rfl) rfl rfl (Nat.le_of_ble_eq_true rfl) rfl rfl ?_
    refine J_iter (lf := fun z14 => [some (.ref v0), some (.int v1), some (.int z14.1), some (.int z14.2.1)]) (sf := fun _ => []) (hf := fun z14 => z14.2.2) (px := (fun (q14 : Int32 × Int32 × AHeap) => 52)) (lx := (fun (q14 : Int32 × Int32 × AHeap) => [some (.ref v0), some (.int v1), some (.int q14.1), some (.int q14.2.1)])) (sx := (fun (q14 : Int32 × Int32 × AHeap) => [])) (hx := (fun (q14 : Int32 × Int32 × AHeap) => q14.2.2)) (fun Y2 z14 m1 m2 => Mod_exact_b14_J ok v0 v1 m1 m2 z14) (fun q14 => ?_) Lmax _
    exact Mod_exact_j52_J ok v0 v1 q14.1 q14.2.1 q14.2.2
  · refine J_iconst (v := (-1)) (pc' := 9) ok (dOf dX11_exact 4 rfl) rfl (by decide) ?_
    exact J_ireturn ok (dOf dX11_exact 5 rfl) rfl (Eq.refl 0) (Nat.le_refl 0)
-- X11_price
abbrev kMod_price : Cd := (yX11_price, cX11_price, 3, (some .int), 7, 166)
theorem dX11_price : dcheck cX11_price [(0, .aload_n 0, 1), (1, .iload_n 1, 1), (2, .invokevirtual 196, 3), (5, .ifCond .eq 20, 3), (8, .aload_n 0, 1), (9, .iload_n 2, 1), (10, .invokevirtual 274, 3), (13, .ifCond .eq 12, 3), (16, .aload_n 0, 1), (17, .iload_n 1, 1), (18, .iload_n 2, 1), (19, .invokevirtual 264, 3), (22, .goto 4, 3), (25, .iconst (-1), 1), (26, .ireturn, 1)] = true := by decide +kernel
theorem cw_Mod_price {k : Cd} (h1 : kMod_price.2.2.2.2.1 + 1 ≤ k.2.2.2.2.1) (h2 : 8 + (kMod_price.2.2.1 + 11) + kMod_price.2.2.2.2.2 ≤ k.2.2.2.2.2) : Cw k kMod_price 2 := ⟨wcode_X11_price, wini_SplitProgramModel, ⟨by decide, by decide, by decide +kernel⟩, h1, h2⟩
def Mod_price_j26 (v0 : Nat) (v1 : Int32) (v2 : Int32) (t0 : Int32) (h : AHeap) : Option (Int32 × AHeap) :=
  some (t0, h)
theorem Mod_price_j26_J {E : JE} {l : Launch} {G : GX} {v : Int32} {h' : AHeap} (ok : JOK E l G kMod_price 0 0 (some (.int v)) h') (v0 : Nat) (v1 : Int32) (v2 : Int32) (t0 : Int32) (h : AHeap) : J E kMod_price (Mod_price_j26 v0 v1 v2 t0 h) (fun z => z = (v, h')) 26 [some (.ref v0), some (.int v1), some (.int v2)] [.int t0] h 0 0 := by
  unfold Mod_price_j26
  exact J_ireturn ok (dOf dX11_price 14 rfl) rfl (Eq.refl 0) (Nat.le_refl 0)
def Mod_price_j25 (v0 : Nat) (v1 : Int32) (v2 : Int32) (h : AHeap) : Option (Int32 × AHeap) :=
  Mod_price_j26 v0 v1 v2 (-1) h
theorem Mod_price_j25_J {E : JE} {l : Launch} {G : GX} {v : Int32} {h' : AHeap} (ok : JOK E l G kMod_price 0 0 (some (.int v)) h') (v0 : Nat) (v1 : Int32) (v2 : Int32) (h : AHeap) : J E kMod_price (Mod_price_j25 v0 v1 v2 h) (fun z => z = (v, h')) 25 [some (.ref v0), some (.int v1), some (.int v2)] [] h 0 0 := by
  unfold Mod_price_j25
  refine J_iconst (v := (-1)) (pc' := 26) ok (dOf dX11_price 13 rfl) rfl (by decide) ?_
  exact Mod_price_j26_J ok v0 v1 v2 (-1) h
def Mod_price (v0 : Nat) (v1 : Int32) (v2 : Int32) (h : AHeap) : Option (Int32 × AHeap) :=
  (chk h v0 11).bind fun _ => bnd2 (Mod_isCase v0 v1 h) fun x2 h1 => (if x2 = 0 then Mod_price_j25 v0 v1 v2 h1 else (chk h1 v0 11).bind fun _ => bnd2 (Mod_isPlan v0 v2 h1) fun x4 h3 => (if x4 = 0 then Mod_price_j25 v0 v1 v2 h3 else (chk h3 v0 11).bind fun _ => bnd2 (Mod_solves v0 v1 v2 h3) fun x6 h5 => Mod_price_j26 v0 v1 v2 x6 h5))
theorem t_Mod_price {l : Launch} {G : GX} {v0 : Nat} {v1 : Int32} {v2 : Int32} {h : AHeap} {v : Int32} {h1 : AHeap} (hf : Mod_price v0 v1 v2 h = some (v, h1)) : CT l G kMod_price 0 0 [.ref v0, .int v1, .int v2] h (some (.int v)) h1 := by
  refine CT_of (ls := [some (.ref v0), some (.int v1), some (.int v2)]) (Z := fun z => z = (v, h1)) (by decide +kernel) (Nat.le_of_ble_eq_true rfl) hf rfl ⟨rfl, rfl, rfl, trivial⟩ (fun E ok => ?_)
  unfold Mod_price
  refine J_aload_n (pc' := 1) ok (dOf dX11_price 0 rfl) rfl rfl rfl ?_
  refine J_iload_n (pc' := 2) ok (dOf dX11_price 1 rfl) rfl rfl rfl ?_
  refine J_callVi (k2 := kMod_isCase) (ci := 11) (T := TX11) (N := 29) (as := [.int v1]) (pc' := 5) ok (dOf dX11_price 2 rfl) rfl (cw_Mod_isCase (by decide) (by decide)) wml_X11_196 winst_X11_isCase wsel_X11_isCase rfl ⟨Nat.le_refl 0, Nat.le_refl 0⟩ (Nat.le_of_ble_eq_true rfl) rfl (fun _ _ hf => t_Mod_isCase hf) (fun x2 h1 => ?_)
  refine J_if_eq (tgt := 25) (pc' := 8) ok (dOf dX11_price 3 rfl) rfl (by decide) ?_ ?_
  · exact Mod_price_j25_J ok v0 v1 v2 h1
  · refine J_aload_n (pc' := 9) ok (dOf dX11_price 4 rfl) rfl rfl rfl ?_
    refine J_iload_n (pc' := 10) ok (dOf dX11_price 5 rfl) rfl rfl rfl ?_
    refine J_callVi (k2 := kMod_isPlan) (ci := 11) (T := TX11) (N := 29) (as := [.int v2]) (pc' := 13) ok (dOf dX11_price 6 rfl) rfl (cw_Mod_isPlan (by decide) (by decide)) wml_X11_274 winst_X11_isPlan wsel_X11_isPlan rfl ⟨Nat.le_refl 0, Nat.le_refl 0⟩ (Nat.le_of_ble_eq_true rfl) rfl (fun _ _ hf => t_Mod_isPlan hf) (fun x4 h3 => ?_)
    refine J_if_eq (tgt := 25) (pc' := 16) ok (dOf dX11_price 7 rfl) rfl (by decide) ?_ ?_
    · exact Mod_price_j25_J ok v0 v1 v2 h3
    · refine J_aload_n (pc' := 17) ok (dOf dX11_price 8 rfl) rfl rfl rfl ?_
      refine J_iload_n (pc' := 18) ok (dOf dX11_price 9 rfl) rfl rfl rfl ?_
      refine J_iload_n (pc' := 19) ok (dOf dX11_price 10 rfl) rfl rfl rfl ?_
      refine J_callVi (k2 := kMod_solves) (ci := 11) (T := TX11) (N := 29) (as := [.int v1, .int v2]) (pc' := 22) ok (dOf dX11_price 11 rfl) rfl (cw_Mod_solves (by decide) (by decide)) wml_X11_264 winst_X11_solves wsel_X11_solves rfl ⟨Nat.le_refl 0, Nat.le_refl 0⟩ (Nat.le_of_ble_eq_true rfl) rfl (fun _ _ hf => t_Mod_solves hf) (fun x6 h5 => ?_)
      refine J_goto (tgt := 26) ok (dOf dX11_price 12 rfl) (by decide) ?_
      exact Mod_price_j26_J ok v0 v1 v2 x6 h5
-- X11_lack
abbrev kMod_lack : Cd := (yX11_lack, cX11_lack, 3, (some .int), 4, 92)
theorem dX11_lack : dcheck cX11_lack [(0, .aload_n 0, 1), (1, .iload_n 1, 1), (2, .invokevirtual 196, 3), (5, .ifCond .eq 20, 3), (8, .aload_n 0, 1), (9, .iload_n 2, 1), (10, .invokevirtual 274, 3), (13, .ifCond .eq 12, 3), (16, .aload_n 0, 1), (17, .iload_n 1, 1), (18, .iload_n 2, 1), (19, .invokevirtual 246, 3), (22, .goto 4, 3), (25, .iconst (-1), 1), (26, .ireturn, 1)] = true := by decide +kernel
theorem cw_Mod_lack {k : Cd} (h1 : kMod_lack.2.2.2.2.1 + 1 ≤ k.2.2.2.2.1) (h2 : 8 + (kMod_lack.2.2.1 + 11) + kMod_lack.2.2.2.2.2 ≤ k.2.2.2.2.2) : Cw k kMod_lack 2 := ⟨wcode_X11_lack, wini_SplitProgramModel, ⟨by decide, by decide, by decide +kernel⟩, h1, h2⟩
def Mod_lack_j26 (v0 : Nat) (v1 : Int32) (v2 : Int32) (t0 : Int32) (h : AHeap) : Option (Int32 × AHeap) :=
  some (t0, h)
theorem Mod_lack_j26_J {E : JE} {l : Launch} {G : GX} {v : Int32} {h' : AHeap} (ok : JOK E l G kMod_lack 0 0 (some (.int v)) h') (v0 : Nat) (v1 : Int32) (v2 : Int32) (t0 : Int32) (h : AHeap) : J E kMod_lack (Mod_lack_j26 v0 v1 v2 t0 h) (fun z => z = (v, h')) 26 [some (.ref v0), some (.int v1), some (.int v2)] [.int t0] h 0 0 := by
  unfold Mod_lack_j26
  exact J_ireturn ok (dOf dX11_lack 14 rfl) rfl (Eq.refl 0) (Nat.le_refl 0)
def Mod_lack_j25 (v0 : Nat) (v1 : Int32) (v2 : Int32) (h : AHeap) : Option (Int32 × AHeap) :=
  Mod_lack_j26 v0 v1 v2 (-1) h
theorem Mod_lack_j25_J {E : JE} {l : Launch} {G : GX} {v : Int32} {h' : AHeap} (ok : JOK E l G kMod_lack 0 0 (some (.int v)) h') (v0 : Nat) (v1 : Int32) (v2 : Int32) (h : AHeap) : J E kMod_lack (Mod_lack_j25 v0 v1 v2 h) (fun z => z = (v, h')) 25 [some (.ref v0), some (.int v1), some (.int v2)] [] h 0 0 := by
  unfold Mod_lack_j25
  refine J_iconst (v := (-1)) (pc' := 26) ok (dOf dX11_lack 13 rfl) rfl (by decide) ?_
  exact Mod_lack_j26_J ok v0 v1 v2 (-1) h
def Mod_lack (v0 : Nat) (v1 : Int32) (v2 : Int32) (h : AHeap) : Option (Int32 × AHeap) :=
  (chk h v0 11).bind fun _ => bnd2 (Mod_isCase v0 v1 h) fun x2 h1 => (if x2 = 0 then Mod_lack_j25 v0 v1 v2 h1 else (chk h1 v0 11).bind fun _ => bnd2 (Mod_isPlan v0 v2 h1) fun x4 h3 => (if x4 = 0 then Mod_lack_j25 v0 v1 v2 h3 else (chk h3 v0 11).bind fun _ => bnd2 (Mod_lackOf v0 v1 v2 h3) fun x6 h5 => Mod_lack_j26 v0 v1 v2 x6 h5))
theorem t_Mod_lack {l : Launch} {G : GX} {v0 : Nat} {v1 : Int32} {v2 : Int32} {h : AHeap} {v : Int32} {h1 : AHeap} (hf : Mod_lack v0 v1 v2 h = some (v, h1)) : CT l G kMod_lack 0 0 [.ref v0, .int v1, .int v2] h (some (.int v)) h1 := by
  refine CT_of (ls := [some (.ref v0), some (.int v1), some (.int v2)]) (Z := fun z => z = (v, h1)) (by decide +kernel) (Nat.le_of_ble_eq_true rfl) hf rfl ⟨rfl, rfl, rfl, trivial⟩ (fun E ok => ?_)
  unfold Mod_lack
  refine J_aload_n (pc' := 1) ok (dOf dX11_lack 0 rfl) rfl rfl rfl ?_
  refine J_iload_n (pc' := 2) ok (dOf dX11_lack 1 rfl) rfl rfl rfl ?_
  refine J_callVi (k2 := kMod_isCase) (ci := 11) (T := TX11) (N := 29) (as := [.int v1]) (pc' := 5) ok (dOf dX11_lack 2 rfl) rfl (cw_Mod_isCase (by decide) (by decide)) wml_X11_196 winst_X11_isCase wsel_X11_isCase rfl ⟨Nat.le_refl 0, Nat.le_refl 0⟩ (Nat.le_of_ble_eq_true rfl) rfl (fun _ _ hf => t_Mod_isCase hf) (fun x2 h1 => ?_)
  refine J_if_eq (tgt := 25) (pc' := 8) ok (dOf dX11_lack 3 rfl) rfl (by decide) ?_ ?_
  · exact Mod_lack_j25_J ok v0 v1 v2 h1
  · refine J_aload_n (pc' := 9) ok (dOf dX11_lack 4 rfl) rfl rfl rfl ?_
    refine J_iload_n (pc' := 10) ok (dOf dX11_lack 5 rfl) rfl rfl rfl ?_
    refine J_callVi (k2 := kMod_isPlan) (ci := 11) (T := TX11) (N := 29) (as := [.int v2]) (pc' := 13) ok (dOf dX11_lack 6 rfl) rfl (cw_Mod_isPlan (by decide) (by decide)) wml_X11_274 winst_X11_isPlan wsel_X11_isPlan rfl ⟨Nat.le_refl 0, Nat.le_refl 0⟩ (Nat.le_of_ble_eq_true rfl) rfl (fun _ _ hf => t_Mod_isPlan hf) (fun x4 h3 => ?_)
    refine J_if_eq (tgt := 25) (pc' := 16) ok (dOf dX11_lack 7 rfl) rfl (by decide) ?_ ?_
    · exact Mod_lack_j25_J ok v0 v1 v2 h3
    · refine J_aload_n (pc' := 17) ok (dOf dX11_lack 8 rfl) rfl rfl rfl ?_
      refine J_iload_n (pc' := 18) ok (dOf dX11_lack 9 rfl) rfl rfl rfl ?_
      refine J_iload_n (pc' := 19) ok (dOf dX11_lack 10 rfl) rfl rfl rfl ?_
      refine J_callVi (k2 := kMod_lackOf) (ci := 11) (T := TX11) (N := 29) (as := [.int v1, .int v2]) (pc' := 22) ok (dOf dX11_lack 11 rfl) rfl (cw_Mod_lackOf (by decide) (by decide)) wml_X11_246 winst_X11_lackOf wsel_X11_lackOf rfl ⟨Nat.le_refl 0, Nat.le_refl 0⟩ (Nat.le_of_ble_eq_true rfl) rfl (fun _ _ hf => t_Mod_lackOf hf) (fun x6 h5 => ?_)
      refine J_goto (tgt := 26) ok (dOf dX11_lack 12 rfl) (by decide) ?_
      exact Mod_lack_j26_J ok v0 v1 v2 x6 h5
-- X11_rate
abbrev kMod_rate : Cd := (yX11_rate, cX11_rate, 5, (some .int), 7, 166)
theorem dX11_rate : dcheck cX11_rate [(0, .aload_n 0, 1), (1, .iload_n 1, 1), (2, .invokevirtual 196, 3), (5, .ifCond .eq 11, 3), (8, .aload_n 0, 1), (9, .iload_n 2, 1), (10, .invokevirtual 274, 3), (13, .ifCond .ne 5, 3), (16, .iconst (-1), 1), (17, .ireturn, 1), (18, .aload_n 0, 1), (19, .iload_n 1, 1), (20, .iload_n 2, 1), (21, .invokevirtual 264, 3), (24, .istore 4, 2), (26, .iload_n 3, 1), (27, .iconst 0, 1), (28, .aload_n 0, 1), (29, .getfield 22, 3), (32, .iconst 0, 1), (33, .iaload, 1), (34, .iconst 1, 1), (35, .isub, 1), (36, .invokestatic 75, 3), (39, .ifCond .eq 10, 3), (42, .aload_n 0, 1), (43, .getfield 51, 3), (46, .iload_n 3, 1), (47, .iaload, 1), (48, .ireturn, 1), (49, .iload_n 3, 1), (50, .iconst 4, 1), (51, .iconst 3, 1), (52, .aload_n 0, 1), (53, .getfield 22, 3), (56, .iconst 1, 1), (57, .iaload, 1), (58, .iadd, 1), (59, .invokestatic 75, 3), (62, .ifCond .eq 14, 3), (65, .aload_n 0, 1), (66, .getfield 54, 3), (69, .iload_n 3, 1), (70, .iconst 4, 1), (71, .isub, 1), (72, .iaload, 1), (73, .goto 4, 3), (76, .iconst (-1), 1), (77, .ireturn, 1)] = true := by decide +kernel
theorem cw_Mod_rate {k : Cd} (h1 : kMod_rate.2.2.2.2.1 + 1 ≤ k.2.2.2.2.1) (h2 : 8 + (kMod_rate.2.2.1 + 11) + kMod_rate.2.2.2.2.2 ≤ k.2.2.2.2.2) : Cw k kMod_rate 3 := ⟨wcode_X11_rate, wini_SplitProgramModel, ⟨by decide, by decide, by decide +kernel⟩, h1, h2⟩
def Mod_rate_j16 (v0 : Nat) (v1 : Int32) (v2 : Int32) (v3 : Int32) (h : AHeap) : Option (Int32 × AHeap) :=
  some ((-1), h)
theorem Mod_rate_j16_J {E : JE} {l : Launch} {G : GX} {v : Int32} {h' : AHeap} (ok : JOK E l G kMod_rate 0 0 (some (.int v)) h') (v0 : Nat) (v1 : Int32) (v2 : Int32) (v3 : Int32) (h : AHeap) : J E kMod_rate (Mod_rate_j16 v0 v1 v2 v3 h) (fun z => z = (v, h')) 16 [some (.ref v0), some (.int v1), some (.int v2), some (.int v3), none] [] h 0 0 := by
  unfold Mod_rate_j16
  refine J_iconst (v := (-1)) (pc' := 17) ok (dOf dX11_rate 8 rfl) rfl (by decide) ?_
  exact J_ireturn ok (dOf dX11_rate 9 rfl) rfl (Eq.refl 0) (Nat.le_refl 0)
def Mod_rate_j77 (v0 : Nat) (v1 : Int32) (v2 : Int32) (v3 : Int32) (v4 : Int32) (t0 : Int32) (h : AHeap) : Option (Int32 × AHeap) :=
  some (t0, h)
theorem Mod_rate_j77_J {E : JE} {l : Launch} {G : GX} {v : Int32} {h' : AHeap} (ok : JOK E l G kMod_rate 0 0 (some (.int v)) h') (v0 : Nat) (v1 : Int32) (v2 : Int32) (v3 : Int32) (v4 : Int32) (t0 : Int32) (h : AHeap) : J E kMod_rate (Mod_rate_j77 v0 v1 v2 v3 v4 t0 h) (fun z => z = (v, h')) 77 [some (.ref v0), some (.int v1), some (.int v2), some (.int v3), some (.int v4)] [.int t0] h 0 0 := by
  unfold Mod_rate_j77
  exact J_ireturn ok (dOf dX11_rate 48 rfl) rfl (Eq.refl 0) (Nat.le_refl 0)
def Mod_rate (v0 : Nat) (v1 : Int32) (v2 : Int32) (v3 : Int32) (h : AHeap) : Option (Int32 × AHeap) :=
  (chk h v0 11).bind fun _ => bnd2 (Mod_isCase v0 v1 h) fun x2 h1 => (if x2 = 0 then Mod_rate_j16 v0 v1 v2 v3 h1 else (chk h1 v0 11).bind fun _ => bnd2 (Mod_isPlan v0 v2 h1) fun x4 h3 => (if ¬ x4 = 0 then (chk h3 v0 11).bind fun _ => bnd2 (Mod_solves v0 v1 v2 h3) fun x6 h5 => (gfR h5 v0 11 5).bind fun a7 => (ald 0 h5 a7 0).bind fun x8 => bnd2 (Mod_isIn v3 0 (x8 - 1) h5) fun x10 h9 => (if x10 = 0 then (gfR h9 v0 11 5).bind fun a11 => (ald 0 h9 a11 1).bind fun x12 => bnd2 (Mod_isIn v3 4 (3 + x12) h9) fun x14 h13 => (if x14 = 0 then Mod_rate_j77 v0 v1 v2 v3 x6 (-1) h13 else (gfR h13 v0 11 24).bind fun a15 => (ald 0 h13 a15 (v3 - 4)).bind fun x16 => Mod_rate_j77 v0 v1 v2 v3 x6 x16 h13) else (gfR h9 v0 11 23).bind fun a17 => (ald 0 h9 a17 v3).bind fun x18 => some (x18, h9)) else Mod_rate_j16 v0 v1 v2 v3 h3))
theorem t_Mod_rate {l : Launch} {G : GX} {v0 : Nat} {v1 : Int32} {v2 : Int32} {v3 : Int32} {h : AHeap} {v : Int32} {h1 : AHeap} (hf : Mod_rate v0 v1 v2 v3 h = some (v, h1)) : CT l G kMod_rate 0 0 [.ref v0, .int v1, .int v2, .int v3] h (some (.int v)) h1 := by
  refine CT_of (ls := [some (.ref v0), some (.int v1), some (.int v2), some (.int v3), none]) (Z := fun z => z = (v, h1)) (by decide +kernel) (Nat.le_of_ble_eq_true rfl) hf rfl ⟨rfl, rfl, rfl, rfl, trivial⟩ (fun E ok => ?_)
  unfold Mod_rate
  refine J_aload_n (pc' := 1) ok (dOf dX11_rate 0 rfl) rfl rfl rfl ?_
  refine J_iload_n (pc' := 2) ok (dOf dX11_rate 1 rfl) rfl rfl rfl ?_
  refine J_callVi (k2 := kMod_isCase) (ci := 11) (T := TX11) (N := 29) (as := [.int v1]) (pc' := 5) ok (dOf dX11_rate 2 rfl) rfl (cw_Mod_isCase (by decide) (by decide)) wml_X11_196 winst_X11_isCase wsel_X11_isCase rfl ⟨Nat.le_refl 0, Nat.le_refl 0⟩ (Nat.le_of_ble_eq_true rfl) rfl (fun _ _ hf => t_Mod_isCase hf) (fun x2 h1 => ?_)
  refine J_if_eq (tgt := 16) (pc' := 8) ok (dOf dX11_rate 3 rfl) rfl (by decide) ?_ ?_
  · exact Mod_rate_j16_J ok v0 v1 v2 v3 h1
  · refine J_aload_n (pc' := 9) ok (dOf dX11_rate 4 rfl) rfl rfl rfl ?_
    refine J_iload_n (pc' := 10) ok (dOf dX11_rate 5 rfl) rfl rfl rfl ?_
    refine J_callVi (k2 := kMod_isPlan) (ci := 11) (T := TX11) (N := 29) (as := [.int v2]) (pc' := 13) ok (dOf dX11_rate 6 rfl) rfl (cw_Mod_isPlan (by decide) (by decide)) wml_X11_274 winst_X11_isPlan wsel_X11_isPlan rfl ⟨Nat.le_refl 0, Nat.le_refl 0⟩ (Nat.le_of_ble_eq_true rfl) rfl (fun _ _ hf => t_Mod_isPlan hf) (fun x4 h3 => ?_)
    refine J_if_ne (tgt := 18) (pc' := 16) ok (dOf dX11_rate 7 rfl) rfl (by decide) ?_ ?_
    · refine J_aload_n (pc' := 19) ok (dOf dX11_rate 10 rfl) rfl rfl rfl ?_
      refine J_iload_n (pc' := 20) ok (dOf dX11_rate 11 rfl) rfl rfl rfl ?_
      refine J_iload_n (pc' := 21) ok (dOf dX11_rate 12 rfl) rfl rfl rfl ?_
      refine J_callVi (k2 := kMod_solves) (ci := 11) (T := TX11) (N := 29) (as := [.int v1, .int v2]) (pc' := 24) ok (dOf dX11_rate 13 rfl) rfl (cw_Mod_solves (by decide) (by decide)) wml_X11_264 winst_X11_solves wsel_X11_solves rfl ⟨Nat.le_refl 0, Nat.le_refl 0⟩ (Nat.le_of_ble_eq_true rfl) rfl (fun _ _ hf => t_Mod_solves hf) (fun x6 h5 => ?_)
      refine J_istore (ls' := [some (.ref v0), some (.int v1), some (.int v2), some (.int v3), some (.int x6)]) (pc' := 26) ok (dOf dX11_rate 14 rfl) rfl (Nat.le_of_ble_eq_true rfl) rfl rfl ?_
      refine J_iload_n (pc' := 27) ok (dOf dX11_rate 15 rfl) rfl rfl rfl ?_
      refine J_iconst (v := 0) (pc' := 28) ok (dOf dX11_rate 16 rfl) rfl (by decide) ?_
      refine J_aload_n (pc' := 29) ok (dOf dX11_rate 17 rfl) rfl rfl rfl ?_
      refine J_getR (ci := 11) (kf := 5) (C := RX11) (T := TX11) (N := 29) (pc' := 32) ok (dOf dX11_rate 18 rfl) rfl (by decide) rfl (by decide) win_11 wfl_X11_22 (fun a7 => ?_)
      refine J_iconst (v := 0) (pc' := 33) ok (dOf dX11_rate 19 rfl) rfl (by decide) ?_
      refine J_iald (pc' := 34) ok (dOf dX11_rate 20 rfl) rfl (fun x8 => ?_)
      refine J_iconst (v := 1) (pc' := 35) ok (dOf dX11_rate 21 rfl) rfl (by decide) ?_
      refine J_isub (pc' := 36) ok (dOf dX11_rate 22 rfl) rfl ?_
      refine J_callSi (k2 := kMod_isIn) (as := [.int v3, .int 0, .int (x8 - 1)]) (pc' := 39) ok (dOf dX11_rate 23 rfl) rfl (cw_Mod_isIn (by decide) (by decide)) wml_X11_75 wstat_X11_isIn ⟨Nat.le_refl 0, Nat.le_refl 0⟩ (Nat.le_of_ble_eq_true rfl) rfl (fun _ _ hf => t_Mod_isIn hf) (fun x10 h9 => ?_)
      refine J_if_eq (tgt := 49) (pc' := 42) ok (dOf dX11_rate 24 rfl) rfl (by decide) ?_ ?_
      · refine J_iload_n (pc' := 50) ok (dOf dX11_rate 30 rfl) rfl rfl rfl ?_
        refine J_iconst (v := 4) (pc' := 51) ok (dOf dX11_rate 31 rfl) rfl (by decide) ?_
        refine J_iconst (v := 3) (pc' := 52) ok (dOf dX11_rate 32 rfl) rfl (by decide) ?_
        refine J_aload_n (pc' := 53) ok (dOf dX11_rate 33 rfl) rfl rfl rfl ?_
        refine J_getR (ci := 11) (kf := 5) (C := RX11) (T := TX11) (N := 29) (pc' := 56) ok (dOf dX11_rate 34 rfl) rfl (by decide) rfl (by decide) win_11 wfl_X11_22 (fun a11 => ?_)
        refine J_iconst (v := 1) (pc' := 57) ok (dOf dX11_rate 35 rfl) rfl (by decide) ?_
        refine J_iald (pc' := 58) ok (dOf dX11_rate 36 rfl) rfl (fun x12 => ?_)
        refine J_iadd (pc' := 59) ok (dOf dX11_rate 37 rfl) rfl ?_
        refine J_callSi (k2 := kMod_isIn) (as := [.int v3, .int 4, .int (3 + x12)]) (pc' := 62) ok (dOf dX11_rate 38 rfl) rfl (cw_Mod_isIn (by decide) (by decide)) wml_X11_75 wstat_X11_isIn ⟨Nat.le_refl 0, Nat.le_refl 0⟩ (Nat.le_of_ble_eq_true rfl) rfl (fun _ _ hf => t_Mod_isIn hf) (fun x14 h13 => ?_)
        refine J_if_eq (tgt := 76) (pc' := 65) ok (dOf dX11_rate 39 rfl) rfl (by decide) ?_ ?_
        · refine J_iconst (v := (-1)) (pc' := 77) ok (dOf dX11_rate 47 rfl) rfl (by decide) ?_
          exact Mod_rate_j77_J ok v0 v1 v2 v3 x6 (-1) h13
        · refine J_aload_n (pc' := 66) ok (dOf dX11_rate 40 rfl) rfl rfl rfl ?_
          refine J_getR (ci := 11) (kf := 24) (C := RX11) (T := TX11) (N := 29) (pc' := 69) ok (dOf dX11_rate 41 rfl) rfl (by decide) rfl (by decide) win_11 wfl_X11_54 (fun a15 => ?_)
          refine J_iload_n (pc' := 70) ok (dOf dX11_rate 42 rfl) rfl rfl rfl ?_
          refine J_iconst (v := 4) (pc' := 71) ok (dOf dX11_rate 43 rfl) rfl (by decide) ?_
          refine J_isub (pc' := 72) ok (dOf dX11_rate 44 rfl) rfl ?_
          refine J_iald (pc' := 73) ok (dOf dX11_rate 45 rfl) rfl (fun x16 => ?_)
          refine J_goto (tgt := 77) ok (dOf dX11_rate 46 rfl) (by decide) ?_
          exact Mod_rate_j77_J ok v0 v1 v2 v3 x6 x16 h13
      · refine J_aload_n (pc' := 43) ok (dOf dX11_rate 25 rfl) rfl rfl rfl ?_
        refine J_getR (ci := 11) (kf := 23) (C := RX11) (T := TX11) (N := 29) (pc' := 46) ok (dOf dX11_rate 26 rfl) rfl (by decide) rfl (by decide) win_11 wfl_X11_51 (fun a17 => ?_)
        refine J_iload_n (pc' := 47) ok (dOf dX11_rate 27 rfl) rfl rfl rfl ?_
        refine J_iald (pc' := 48) ok (dOf dX11_rate 28 rfl) rfl (fun x18 => ?_)
        exact J_ireturn ok (dOf dX11_rate 29 rfl) rfl (Eq.refl 0) (Nat.le_refl 0)
    · exact Mod_rate_j16_J ok v0 v1 v2 v3 h3
-- X11_floor
abbrev kMod_floor : Cd := (yX11_floor, cX11_floor, 2, (some .int), 5, 114)
theorem dX11_floor : dcheck cX11_floor [(0, .aload_n 0, 1), (1, .iload_n 1, 1), (2, .invokevirtual 274, 3), (5, .ifCond .eq 11, 3), (8, .aload_n 0, 1), (9, .iload_n 1, 1), (10, .invokevirtual 277, 3), (13, .goto 4, 3), (16, .iconst (-1), 1), (17, .ireturn, 1)] = true := by decide +kernel
theorem cw_Mod_floor {k : Cd} (h1 : kMod_floor.2.2.2.2.1 + 1 ≤ k.2.2.2.2.1) (h2 : 8 + (kMod_floor.2.2.1 + 11) + kMod_floor.2.2.2.2.2 ≤ k.2.2.2.2.2) : Cw k kMod_floor 1 := ⟨wcode_X11_floor, wini_SplitProgramModel, ⟨by decide, by decide, by decide +kernel⟩, h1, h2⟩
def Mod_floor_j17 (v0 : Nat) (v1 : Int32) (t0 : Int32) (h : AHeap) : Option (Int32 × AHeap) :=
  some (t0, h)
theorem Mod_floor_j17_J {E : JE} {l : Launch} {G : GX} {v : Int32} {h' : AHeap} (ok : JOK E l G kMod_floor 0 0 (some (.int v)) h') (v0 : Nat) (v1 : Int32) (t0 : Int32) (h : AHeap) : J E kMod_floor (Mod_floor_j17 v0 v1 t0 h) (fun z => z = (v, h')) 17 [some (.ref v0), some (.int v1)] [.int t0] h 0 0 := by
  unfold Mod_floor_j17
  exact J_ireturn ok (dOf dX11_floor 9 rfl) rfl (Eq.refl 0) (Nat.le_refl 0)
def Mod_floor (v0 : Nat) (v1 : Int32) (h : AHeap) : Option (Int32 × AHeap) :=
  (chk h v0 11).bind fun _ => bnd2 (Mod_isPlan v0 v1 h) fun x2 h1 => (if x2 = 0 then Mod_floor_j17 v0 v1 (-1) h1 else (chk h1 v0 11).bind fun _ => bnd2 (Mod_floorOf v0 v1 h1) fun x4 h3 => Mod_floor_j17 v0 v1 x4 h3)
theorem t_Mod_floor {l : Launch} {G : GX} {v0 : Nat} {v1 : Int32} {h : AHeap} {v : Int32} {h1 : AHeap} (hf : Mod_floor v0 v1 h = some (v, h1)) : CT l G kMod_floor 0 0 [.ref v0, .int v1] h (some (.int v)) h1 := by
  refine CT_of (ls := [some (.ref v0), some (.int v1)]) (Z := fun z => z = (v, h1)) (by decide +kernel) (Nat.le_of_ble_eq_true rfl) hf rfl ⟨rfl, rfl, trivial⟩ (fun E ok => ?_)
  unfold Mod_floor
  refine J_aload_n (pc' := 1) ok (dOf dX11_floor 0 rfl) rfl rfl rfl ?_
  refine J_iload_n (pc' := 2) ok (dOf dX11_floor 1 rfl) rfl rfl rfl ?_
  refine J_callVi (k2 := kMod_isPlan) (ci := 11) (T := TX11) (N := 29) (as := [.int v1]) (pc' := 5) ok (dOf dX11_floor 2 rfl) rfl (cw_Mod_isPlan (by decide) (by decide)) wml_X11_274 winst_X11_isPlan wsel_X11_isPlan rfl ⟨Nat.le_refl 0, Nat.le_refl 0⟩ (Nat.le_of_ble_eq_true rfl) rfl (fun _ _ hf => t_Mod_isPlan hf) (fun x2 h1 => ?_)
  refine J_if_eq (tgt := 16) (pc' := 8) ok (dOf dX11_floor 3 rfl) rfl (by decide) ?_ ?_
  · refine J_iconst (v := (-1)) (pc' := 17) ok (dOf dX11_floor 8 rfl) rfl (by decide) ?_
    exact Mod_floor_j17_J ok v0 v1 (-1) h1
  · refine J_aload_n (pc' := 9) ok (dOf dX11_floor 4 rfl) rfl rfl rfl ?_
    refine J_iload_n (pc' := 10) ok (dOf dX11_floor 5 rfl) rfl rfl rfl ?_
    refine J_callVi (k2 := kMod_floorOf) (ci := 11) (T := TX11) (N := 29) (as := [.int v1]) (pc' := 13) ok (dOf dX11_floor 6 rfl) rfl (cw_Mod_floorOf (by decide) (by decide)) wml_X11_277 winst_X11_floorOf wsel_X11_floorOf rfl ⟨Nat.le_refl 0, Nat.le_refl 0⟩ (Nat.le_of_ble_eq_true rfl) rfl (fun _ _ hf => t_Mod_floorOf hf) (fun x4 h3 => ?_)
    refine J_goto (tgt := 17) ok (dOf dX11_floor 7 rfl) (by decide) ?_
    exact Mod_floor_j17_J ok v0 v1 x4 h3
-- X11_total
abbrev kMod_total : Cd := (yX11_total, cX11_total, 2, (some .int), 8, 190)
theorem dX11_total : dcheck cX11_total [(0, .aload_n 0, 1), (1, .iload_n 1, 1), (2, .invokevirtual 274, 3), (5, .ifCond .eq 11, 3), (8, .aload_n 0, 1), (9, .iload_n 1, 1), (10, .invokevirtual 286, 3), (13, .goto 4, 3), (16, .iconst (-1), 1), (17, .ireturn, 1)] = true := by decide +kernel
theorem cw_Mod_total {k : Cd} (h1 : kMod_total.2.2.2.2.1 + 1 ≤ k.2.2.2.2.1) (h2 : 8 + (kMod_total.2.2.1 + 11) + kMod_total.2.2.2.2.2 ≤ k.2.2.2.2.2) : Cw k kMod_total 1 := ⟨wcode_X11_total, wini_SplitProgramModel, ⟨by decide, by decide, by decide +kernel⟩, h1, h2⟩
def Mod_total_j17 (v0 : Nat) (v1 : Int32) (t0 : Int32) (h : AHeap) : Option (Int32 × AHeap) :=
  some (t0, h)
theorem Mod_total_j17_J {E : JE} {l : Launch} {G : GX} {v : Int32} {h' : AHeap} (ok : JOK E l G kMod_total 0 0 (some (.int v)) h') (v0 : Nat) (v1 : Int32) (t0 : Int32) (h : AHeap) : J E kMod_total (Mod_total_j17 v0 v1 t0 h) (fun z => z = (v, h')) 17 [some (.ref v0), some (.int v1)] [.int t0] h 0 0 := by
  unfold Mod_total_j17
  exact J_ireturn ok (dOf dX11_total 9 rfl) rfl (Eq.refl 0) (Nat.le_refl 0)
def Mod_total (v0 : Nat) (v1 : Int32) (h : AHeap) : Option (Int32 × AHeap) :=
  (chk h v0 11).bind fun _ => bnd2 (Mod_isPlan v0 v1 h) fun x2 h1 => (if x2 = 0 then Mod_total_j17 v0 v1 (-1) h1 else (chk h1 v0 11).bind fun _ => bnd2 (Mod_totalOf v0 v1 h1) fun x4 h3 => Mod_total_j17 v0 v1 x4 h3)
theorem t_Mod_total {l : Launch} {G : GX} {v0 : Nat} {v1 : Int32} {h : AHeap} {v : Int32} {h1 : AHeap} (hf : Mod_total v0 v1 h = some (v, h1)) : CT l G kMod_total 0 0 [.ref v0, .int v1] h (some (.int v)) h1 := by
  refine CT_of (ls := [some (.ref v0), some (.int v1)]) (Z := fun z => z = (v, h1)) (by decide +kernel) (Nat.le_of_ble_eq_true rfl) hf rfl ⟨rfl, rfl, trivial⟩ (fun E ok => ?_)
  unfold Mod_total
  refine J_aload_n (pc' := 1) ok (dOf dX11_total 0 rfl) rfl rfl rfl ?_
  refine J_iload_n (pc' := 2) ok (dOf dX11_total 1 rfl) rfl rfl rfl ?_
  refine J_callVi (k2 := kMod_isPlan) (ci := 11) (T := TX11) (N := 29) (as := [.int v1]) (pc' := 5) ok (dOf dX11_total 2 rfl) rfl (cw_Mod_isPlan (by decide) (by decide)) wml_X11_274 winst_X11_isPlan wsel_X11_isPlan rfl ⟨Nat.le_refl 0, Nat.le_refl 0⟩ (Nat.le_of_ble_eq_true rfl) rfl (fun _ _ hf => t_Mod_isPlan hf) (fun x2 h1 => ?_)
  refine J_if_eq (tgt := 16) (pc' := 8) ok (dOf dX11_total 3 rfl) rfl (by decide) ?_ ?_
  · refine J_iconst (v := (-1)) (pc' := 17) ok (dOf dX11_total 8 rfl) rfl (by decide) ?_
    exact Mod_total_j17_J ok v0 v1 (-1) h1
  · refine J_aload_n (pc' := 9) ok (dOf dX11_total 4 rfl) rfl rfl rfl ?_
    refine J_iload_n (pc' := 10) ok (dOf dX11_total 5 rfl) rfl rfl rfl ?_
    refine J_callVi (k2 := kMod_totalOf) (ci := 11) (T := TX11) (N := 29) (as := [.int v1]) (pc' := 13) ok (dOf dX11_total 6 rfl) rfl (cw_Mod_totalOf (by decide) (by decide)) wml_X11_286 winst_X11_totalOf wsel_X11_totalOf rfl ⟨Nat.le_refl 0, Nat.le_refl 0⟩ (Nat.le_of_ble_eq_true rfl) rfl (fun _ _ hf => t_Mod_totalOf hf) (fun x4 h3 => ?_)
    refine J_goto (tgt := 17) ok (dOf dX11_total 7 rfl) (by decide) ?_
    exact Mod_total_j17_J ok v0 v1 x4 h3
-- X11_least
abbrev kMod_least : Cd := (yX11_least, cX11_least, 6, (some .int), 8, 190)
theorem dX11_least : dcheck cX11_least [(0, .iload_n 1, 1), (1, .iconst 0, 1), (2, .iconst 1, 1), (3, .invokestatic 75, 3), (6, .ifCond .ne 5, 3), (9, .iconst (-1), 1), (10, .ireturn, 1), (11, .iconst (-1), 1), (12, .istore_n 2, 1), (13, .ldc 230, 2), (15, .istore_n 3, 1), (16, .iconst 0, 1), (17, .istore 4, 2), (19, .iload 4, 2), (21, .sipush 256, 3), (24, .if_icmp .ge 51, 3), (27, .aload_n 0, 1), (28, .iload 4, 2), (30, .invokevirtual 274, 3), (33, .ifCond .eq 12, 3), (36, .aload_n 0, 1), (37, .iload 4, 2), (39, .invokevirtual 286, 3), (42, .goto 4, 3), (45, .iconst (-1), 1), (46, .istore 5, 2), (48, .iload 5, 2), (50, .iconst (-1), 1), (51, .if_icmp .eq 18, 3), (54, .iload 5, 2), (56, .iload_n 3, 1), (57, .if_icmp .lt 6, 3), (60, .goto 9, 3), (63, .iload 5, 2), (65, .istore_n 3, 1), (66, .iload 4, 2), (68, .istore_n 2, 1), (69, .iinc 4 1, 3), (72, .goto (-53), 3), (75, .iload_n 2, 1), (76, .iconst (-1), 1), (77, .if_icmp .eq 8, 3), (80, .iload_n 1, 1), (81, .iconst 1, 1), (82, .if_icmp .ne 7, 3), (85, .iload_n 2, 1), (86, .goto 4, 3), (89, .iload_n 3, 1), (90, .ireturn, 1)] = true := by decide +kernel
theorem cw_Mod_least {k : Cd} (h1 : kMod_least.2.2.2.2.1 + 1 ≤ k.2.2.2.2.1) (h2 : 8 + (kMod_least.2.2.1 + 11) + kMod_least.2.2.2.2.2 ≤ k.2.2.2.2.2) : Cw k kMod_least 1 := ⟨wcode_X11_least, wini_SplitProgramModel, ⟨by decide, by decide, by decide +kernel⟩, h1, h2⟩
def Mod_least_j69 (v0 : Nat) (v1 : Int32) (v2 : Int32) (v3 : Int32) (v4 : Int32) (v5 : Int32) (h : AHeap) : Option ((Int32 × Int32 × Int32 × AHeap) ⊕ ((Int32 × Int32 × Int32 × AHeap))) :=
  some (Sum.inl (v2, v3, v4 + 1, h))
theorem Mod_least_j69_J {E : JE} {l : Launch} {G : GX} {r : Option Value} {h' : AHeap} (ok : JOK E l G kMod_least 0 0 r h') (v0 : Nat) (v1 : Int32) (v2 : Int32) (v3 : Int32) (v4 : Int32) (v5 : Int32) (h : AHeap) {Y : (Int32 × Int32 × Int32 × AHeap) ⊕ ((Int32 × Int32 × Int32 × AHeap)) → Prop} (k1 : ∀ s' : Int32 × Int32 × Int32 × AHeap, Y (.inl s') → JW E kMod_least 19 [some (.ref v0), some (.int v1), some (.int s'.1), some (.int s'.2.1), some (.int s'.2.2.1), none] [] s'.2.2.2 0 0) (kx75 : ∀ q : Int32 × Int32 × Int32 × AHeap, Y (.inr q) → JW E kMod_least 75 [some (.ref v0), some (.int v1), some (.int q.1), some (.int q.2.1), some (.int q.2.2.1), none] [] q.2.2.2 0 0) : J E kMod_least (Mod_least_j69 v0 v1 v2 v3 v4 v5 h) Y 69 [some (.ref v0), some (.int v1), some (.int v2), some (.int v3), some (.int v4), some (.int v5)] [] h 0 0 := by
  unfold Mod_least_j69
  refine J_iinc (v := v4 + 1) (ls' := [some (.ref v0), some (.int v1), some (.int v2), some (.int v3), some (.int (v4 + 1)), some (.int v5)]) (pc' := 72) ok (dOf dX11_least 37 rfl) rfl rfl (by rfl) (Nat.le_of_ble_eq_true rfl) rfl rfl ?_
  refine J_goto (tgt := 19) ok (dOf dX11_least 38 rfl) (by decide) ?_
  refine J_weak (ls' := [some (.ref v0), some (.int v1), some (.int v2), some (.int v3), some (.int (v4 + 1)), none]) ⟨rfl, rfl, rfl, rfl, rfl, trivial⟩ ?_
  exact J_fin (k1 (v2, v3, v4 + 1, h))
def Mod_least_j46 (v0 : Nat) (v1 : Int32) (v2 : Int32) (v3 : Int32) (v4 : Int32) (t0 : Int32) (h : AHeap) : Option ((Int32 × Int32 × Int32 × AHeap) ⊕ ((Int32 × Int32 × Int32 × AHeap))) :=
  (if t0 = (-1) then Mod_least_j69 v0 v1 v2 v3 v4 t0 h else (if t0 < v3 then Mod_least_j69 v0 v1 v4 t0 v4 t0 h else Mod_least_j69 v0 v1 v2 v3 v4 t0 h))
theorem Mod_least_j46_J {E : JE} {l : Launch} {G : GX} {r : Option Value} {h' : AHeap} (ok : JOK E l G kMod_least 0 0 r h') (v0 : Nat) (v1 : Int32) (v2 : Int32) (v3 : Int32) (v4 : Int32) (t0 : Int32) (h : AHeap) {Y : (Int32 × Int32 × Int32 × AHeap) ⊕ ((Int32 × Int32 × Int32 × AHeap)) → Prop} (k1 : ∀ s' : Int32 × Int32 × Int32 × AHeap, Y (.inl s') → JW E kMod_least 19 [some (.ref v0), some (.int v1), some (.int s'.1), some (.int s'.2.1), some (.int s'.2.2.1), none] [] s'.2.2.2 0 0) (kx75 : ∀ q : Int32 × Int32 × Int32 × AHeap, Y (.inr q) → JW E kMod_least 75 [some (.ref v0), some (.int v1), some (.int q.1), some (.int q.2.1), some (.int q.2.2.1), none] [] q.2.2.2 0 0) : J E kMod_least (Mod_least_j46 v0 v1 v2 v3 v4 t0 h) Y 46 [some (.ref v0), some (.int v1), some (.int v2), some (.int v3), some (.int v4), none] [.int t0] h 0 0 := by
  unfold Mod_least_j46
  refine J_istore (ls' := [some (.ref v0), some (.int v1), some (.int v2), some (.int v3), some (.int v4), some (.int t0)]) (pc' := 48) ok (dOf dX11_least 25 rfl) rfl (Nat.le_of_ble_eq_true rfl) rfl rfl ?_
  refine J_iload (pc' := 50) ok (dOf dX11_least 26 rfl) rfl rfl ?_
  refine J_iconst (v := (-1)) (pc' := 51) ok (dOf dX11_least 27 rfl) rfl (by decide) ?_
  refine J_icmp_eq (tgt := 69) (pc' := 54) ok (dOf dX11_least 28 rfl) rfl (by decide) ?_ ?_
  · exact Mod_least_j69_J ok v0 v1 v2 v3 v4 t0 h k1 kx75
  · refine J_iload (pc' := 56) ok (dOf dX11_least 29 rfl) rfl rfl ?_
    refine J_iload_n (pc' := 57) ok (dOf dX11_least 30 rfl) rfl rfl rfl ?_
    refine J_icmp_lt (tgt := 63) (pc' := 60) ok (dOf dX11_least 31 rfl) rfl (by decide) ?_ ?_
    · refine J_iload (pc' := 65) ok (dOf dX11_least 33 rfl) rfl rfl ?_
      refine J_istore_n (ls' := [some (.ref v0), some (.int v1), some (.int v2), some (.int t0), some (.int v4), some (.int t0)]) (pc' := 66) ok (dOf dX11_least 34 rfl) rfl rfl (Nat.le_of_ble_eq_true rfl) rfl rfl ?_
      refine J_iload (pc' := 68) ok (dOf dX11_least 35 rfl) rfl rfl ?_
      refine J_istore_n (ls' := [some (.ref v0), some (.int v1), some (.int v4), some (.int t0), some (.int v4), some (.int t0)]) (pc' := 69) ok (dOf dX11_least 36 rfl) rfl rfl (Nat.le_of_ble_eq_true rfl) rfl rfl ?_
      exact Mod_least_j69_J ok v0 v1 v4 t0 v4 t0 h k1 kx75
    · refine J_goto (tgt := 69) ok (dOf dX11_least 32 rfl) (by decide) ?_
      exact Mod_least_j69_J ok v0 v1 v2 v3 v4 t0 h k1 kx75
def Mod_least_b19 (v0 : Nat) (v1 : Int32) (s : Int32 × Int32 × Int32 × AHeap) : Option ((Int32 × Int32 × Int32 × AHeap) ⊕ ((Int32 × Int32 × Int32 × AHeap))) :=
  (if 256 ≤ s.2.2.1 then some (Sum.inr (s.1, s.2.1, s.2.2.1, s.2.2.2)) else (chk s.2.2.2 v0 11).bind fun _ => bnd2 (Mod_isPlan v0 s.2.2.1 s.2.2.2) fun x4 h3 => (if x4 = 0 then Mod_least_j46 v0 v1 s.1 s.2.1 s.2.2.1 (-1) h3 else (chk h3 v0 11).bind fun _ => bnd2 (Mod_totalOf v0 s.2.2.1 h3) fun x6 h5 => Mod_least_j46 v0 v1 s.1 s.2.1 s.2.2.1 x6 h5))
theorem Mod_least_b19_J {E : JE} {l : Launch} {G : GX} {r : Option Value} {h' : AHeap} (ok : JOK E l G kMod_least 0 0 r h') (v0 : Nat) (v1 : Int32) {Y : (Int32 × Int32 × Int32 × AHeap) ⊕ ((Int32 × Int32 × Int32 × AHeap)) → Prop} (k1 : ∀ s' : Int32 × Int32 × Int32 × AHeap, Y (.inl s') → JW E kMod_least 19 [some (.ref v0), some (.int v1), some (.int s'.1), some (.int s'.2.1), some (.int s'.2.2.1), none] [] s'.2.2.2 0 0) (kx75 : ∀ q : Int32 × Int32 × Int32 × AHeap, Y (.inr q) → JW E kMod_least 75 [some (.ref v0), some (.int v1), some (.int q.1), some (.int q.2.1), some (.int q.2.2.1), none] [] q.2.2.2 0 0) (s : Int32 × Int32 × Int32 × AHeap) : J E kMod_least (Mod_least_b19 v0 v1 s) Y 19 [some (.ref v0), some (.int v1), some (.int s.1), some (.int s.2.1), some (.int s.2.2.1), none] [] s.2.2.2 0 0 := by
  unfold Mod_least_b19
  refine J_iload (pc' := 21) ok (dOf dX11_least 13 rfl) rfl rfl ?_
  refine J_sipush (v := 256) (pc' := 24) ok (dOf dX11_least 14 rfl) rfl (by decide) ?_
  refine J_icmp_ge (tgt := 75) (pc' := 27) ok (dOf dX11_least 15 rfl) rfl (by decide) ?_ ?_
  · exact J_fin (kx75 (s.1, s.2.1, s.2.2.1, s.2.2.2))
  · refine J_aload_n (pc' := 28) ok (dOf dX11_least 16 rfl) rfl rfl rfl ?_
    refine J_iload (pc' := 30) ok (dOf dX11_least 17 rfl) rfl rfl ?_
    refine J_callVi (k2 := kMod_isPlan) (ci := 11) (T := TX11) (N := 29) (as := [.int s.2.2.1]) (pc' := 33) ok (dOf dX11_least 18 rfl) rfl (cw_Mod_isPlan (by decide) (by decide)) wml_X11_274 winst_X11_isPlan wsel_X11_isPlan rfl ⟨Nat.le_refl 0, Nat.le_refl 0⟩ (Nat.le_of_ble_eq_true rfl) rfl (fun _ _ hf => t_Mod_isPlan hf) (fun x4 h3 => ?_)
    refine J_if_eq (tgt := 45) (pc' := 36) ok (dOf dX11_least 19 rfl) rfl (by decide) ?_ ?_
    · refine J_iconst (v := (-1)) (pc' := 46) ok (dOf dX11_least 24 rfl) rfl (by decide) ?_
      exact Mod_least_j46_J ok v0 v1 s.1 s.2.1 s.2.2.1 (-1) h3 k1 kx75
    · refine J_aload_n (pc' := 37) ok (dOf dX11_least 20 rfl) rfl rfl rfl ?_
      refine J_iload (pc' := 39) ok (dOf dX11_least 21 rfl) rfl rfl ?_
      refine J_callVi (k2 := kMod_totalOf) (ci := 11) (T := TX11) (N := 29) (as := [.int s.2.2.1]) (pc' := 42) ok (dOf dX11_least 22 rfl) rfl (cw_Mod_totalOf (by decide) (by decide)) wml_X11_286 winst_X11_totalOf wsel_X11_totalOf rfl ⟨Nat.le_refl 0, Nat.le_refl 0⟩ (Nat.le_of_ble_eq_true rfl) rfl (fun _ _ hf => t_Mod_totalOf hf) (fun x6 h5 => ?_)
      refine J_goto (tgt := 46) ok (dOf dX11_least 23 rfl) (by decide) ?_
      exact Mod_least_j46_J ok v0 v1 s.1 s.2.1 s.2.2.1 x6 h5 k1 kx75
def Mod_least_j90 (v0 : Nat) (v1 : Int32) (v2 : Int32) (v3 : Int32) (v4 : Int32) (t0 : Int32) (h : AHeap) : Option (Int32 × AHeap) :=
  some (t0, h)
theorem Mod_least_j90_J {E : JE} {l : Launch} {G : GX} {v : Int32} {h' : AHeap} (ok : JOK E l G kMod_least 0 0 (some (.int v)) h') (v0 : Nat) (v1 : Int32) (v2 : Int32) (v3 : Int32) (v4 : Int32) (t0 : Int32) (h : AHeap) : J E kMod_least (Mod_least_j90 v0 v1 v2 v3 v4 t0 h) (fun z => z = (v, h')) 90 [some (.ref v0), some (.int v1), some (.int v2), some (.int v3), some (.int v4), none] [.int t0] h 0 0 := by
  unfold Mod_least_j90
  exact J_ireturn ok (dOf dX11_least 48 rfl) rfl (Eq.refl 0) (Nat.le_refl 0)
def Mod_least_j85 (v0 : Nat) (v1 : Int32) (v2 : Int32) (v3 : Int32) (v4 : Int32) (h : AHeap) : Option (Int32 × AHeap) :=
  Mod_least_j90 v0 v1 v2 v3 v4 v2 h
theorem Mod_least_j85_J {E : JE} {l : Launch} {G : GX} {v : Int32} {h' : AHeap} (ok : JOK E l G kMod_least 0 0 (some (.int v)) h') (v0 : Nat) (v1 : Int32) (v2 : Int32) (v3 : Int32) (v4 : Int32) (h : AHeap) : J E kMod_least (Mod_least_j85 v0 v1 v2 v3 v4 h) (fun z => z = (v, h')) 85 [some (.ref v0), some (.int v1), some (.int v2), some (.int v3), some (.int v4), none] [] h 0 0 := by
  unfold Mod_least_j85
  refine J_iload_n (pc' := 86) ok (dOf dX11_least 45 rfl) rfl rfl rfl ?_
  refine J_goto (tgt := 90) ok (dOf dX11_least 46 rfl) (by decide) ?_
  exact Mod_least_j90_J ok v0 v1 v2 v3 v4 v2 h
def Mod_least_j75 (v0 : Nat) (v1 : Int32) (v2 : Int32) (v3 : Int32) (v4 : Int32) (h : AHeap) : Option (Int32 × AHeap) :=
  (if v2 = (-1) then Mod_least_j85 v0 v1 v2 v3 v4 h else (if ¬ v1 = 1 then Mod_least_j90 v0 v1 v2 v3 v4 v3 h else Mod_least_j85 v0 v1 v2 v3 v4 h))
theorem Mod_least_j75_J {E : JE} {l : Launch} {G : GX} {v : Int32} {h' : AHeap} (ok : JOK E l G kMod_least 0 0 (some (.int v)) h') (v0 : Nat) (v1 : Int32) (v2 : Int32) (v3 : Int32) (v4 : Int32) (h : AHeap) : J E kMod_least (Mod_least_j75 v0 v1 v2 v3 v4 h) (fun z => z = (v, h')) 75 [some (.ref v0), some (.int v1), some (.int v2), some (.int v3), some (.int v4), none] [] h 0 0 := by
  unfold Mod_least_j75
  refine J_iload_n (pc' := 76) ok (dOf dX11_least 39 rfl) rfl rfl rfl ?_
  refine J_iconst (v := (-1)) (pc' := 77) ok (dOf dX11_least 40 rfl) rfl (by decide) ?_
  refine J_icmp_eq (tgt := 85) (pc' := 80) ok (dOf dX11_least 41 rfl) rfl (by decide) ?_ ?_
  · exact Mod_least_j85_J ok v0 v1 v2 v3 v4 h
  · refine J_iload_n (pc' := 81) ok (dOf dX11_least 42 rfl) rfl rfl rfl ?_
    refine J_iconst (v := 1) (pc' := 82) ok (dOf dX11_least 43 rfl) rfl (by decide) ?_
    refine J_icmp_ne (tgt := 89) (pc' := 85) ok (dOf dX11_least 44 rfl) rfl (by decide) ?_ ?_
    · refine J_iload_n (pc' := 90) ok (dOf dX11_least 47 rfl) rfl rfl rfl ?_
      exact Mod_least_j90_J ok v0 v1 v2 v3 v4 v3 h
    · exact Mod_least_j85_J ok v0 v1 v2 v3 v4 h
def Mod_least (v0 : Nat) (v1 : Int32) (h : AHeap) : Option (Int32 × AHeap) :=
  bnd2 (Mod_isIn v1 0 1 h) fun x2 h1 => (if ¬ x2 = 0 then (iter (Mod_least_b19 v0 v1) Lmax ((-1), 1000000000, 0, h1)).bind (fun (q19 : Int32 × Int32 × Int32 × AHeap) => Mod_least_j75 v0 v1 q19.1 q19.2.1 q19.2.2.1 q19.2.2.2) else some ((-1), h1))
theorem t_Mod_least {l : Launch} {G : GX} {v0 : Nat} {v1 : Int32} {h : AHeap} {v : Int32} {h1 : AHeap} (hf : Mod_least v0 v1 h = some (v, h1)) : CT l G kMod_least 0 0 [.ref v0, .int v1] h (some (.int v)) h1 := by
  refine CT_of (ls := [some (.ref v0), some (.int v1), none, none, none, none]) (Z := fun z => z = (v, h1)) (by decide +kernel) (Nat.le_of_ble_eq_true rfl) hf rfl ⟨rfl, rfl, trivial⟩ (fun E ok => ?_)
  unfold Mod_least
  refine J_iload_n (pc' := 1) ok (dOf dX11_least 0 rfl) rfl rfl rfl ?_
  refine J_iconst (v := 0) (pc' := 2) ok (dOf dX11_least 1 rfl) rfl (by decide) ?_
  refine J_iconst (v := 1) (pc' := 3) ok (dOf dX11_least 2 rfl) rfl (by decide) ?_
  refine J_callSi (k2 := kMod_isIn) (as := [.int v1, .int 0, .int 1]) (pc' := 6) ok (dOf dX11_least 3 rfl) rfl (cw_Mod_isIn (by decide) (by decide)) wml_X11_75 wstat_X11_isIn ⟨Nat.le_refl 0, Nat.le_refl 0⟩ (Nat.le_of_ble_eq_true rfl) rfl (fun _ _ hf => t_Mod_isIn hf) (fun x2 h1 => ?_)
  refine J_if_ne (tgt := 11) (pc' := 9) ok (dOf dX11_least 4 rfl) rfl (by decide) ?_ ?_
  · refine J_iconst (v := (-1)) (pc' := 12) ok (dOf dX11_least 7 rfl) rfl (by decide) ?_
    refine J_istore_n (ls' := [some (.ref v0), some (.int v1), some (.int (-1)), none, none, none]) (pc' := 13) ok (dOf dX11_least 8 rfl) rfl rfl (Nat.le_of_ble_eq_true rfl) rfl rfl ?_
    refine J_ldc (v := 1000000000) (pc' := 15) ok (dOf dX11_least 9 rfl) rfl wcon_X11_230 ?_
    refine J_istore_n (ls' := [some (.ref v0), some (.int v1), some (.int (-1)), some (.int 1000000000), none, none]) (pc' := 16) ok (dOf dX11_least 10 rfl) rfl rfl (Nat.le_of_ble_eq_true rfl) rfl rfl ?_
    refine J_iconst (v := 0) (pc' := 17) ok (dOf dX11_least 11 rfl) rfl (by decide) ?_
    refine J_istore (ls' := [some (.ref v0), some (.int v1), some (.int (-1)), some (.int 1000000000), some (.int 0), none]) (pc' := 19) ok (dOf dX11_least 12 rfl) rfl (Nat.le_of_ble_eq_true rfl) rfl rfl ?_
    refine J_iter (lf := fun z19 => [some (.ref v0), some (.int v1), some (.int z19.1), some (.int z19.2.1), some (.int z19.2.2.1), none]) (sf := fun _ => []) (hf := fun z19 => z19.2.2.2) (px := (fun (q19 : Int32 × Int32 × Int32 × AHeap) => 75)) (lx := (fun (q19 : Int32 × Int32 × Int32 × AHeap) => [some (.ref v0), some (.int v1), some (.int q19.1), some (.int q19.2.1), some (.int q19.2.2.1), none])) (sx := (fun (q19 : Int32 × Int32 × Int32 × AHeap) => [])) (hx := (fun (q19 : Int32 × Int32 × Int32 × AHeap) => q19.2.2.2)) (fun Y2 z19 m1 m2 => Mod_least_b19_J ok v0 v1 m1 m2 z19) (fun q19 => ?_) Lmax _
    exact Mod_least_j75_J ok v0 v1 q19.1 q19.2.1 q19.2.2.1 q19.2.2.2
  · refine J_iconst (v := (-1)) (pc' := 10) ok (dOf dX11_least 5 rfl) rfl (by decide) ?_
    exact J_ireturn ok (dOf dX11_least 6 rfl) rfl (Eq.refl 0) (Nat.le_refl 0)
-- X11_leastOf
abbrev kMod_leastOf : Cd := (yX11_leastOf, cX11_leastOf, 5, (some .int), 7, 166)
theorem dX11_leastOf : dcheck cX11_leastOf [(0, .ldc 230, 2), (2, .istore_n 2, 1), (3, .iconst 0, 1), (4, .istore_n 3, 1), (5, .iload_n 3, 1), (6, .sipush 256, 3), (9, .if_icmp .ge 56, 3), (12, .aload_n 0, 1), (13, .iload_n 3, 1), (14, .invokevirtual 274, 3), (17, .ifCond .eq 12, 3), (20, .aload_n 0, 1), (21, .iload_n 1, 1), (22, .iload_n 3, 1), (23, .invokevirtual 264, 3), (26, .goto 4, 3), (29, .iconst (-1), 1), (30, .istore 4, 2), (32, .iload 4, 2), (34, .iconst (-1), 1), (35, .if_icmp .eq 24, 3), (38, .aload_n 0, 1), (39, .iload_n 3, 1), (40, .invokevirtual 258, 3), (43, .iload 4, 2), (45, .iadd, 1), (46, .iload_n 2, 1), (47, .if_icmp .ge 12, 3), (50, .aload_n 0, 1), (51, .iload_n 3, 1), (52, .invokevirtual 258, 3), (55, .iload 4, 2), (57, .iadd, 1), (58, .istore_n 2, 1), (59, .iinc 3 1, 3), (62, .goto (-57), 3), (65, .iload_n 2, 1), (66, .ireturn, 1)] = true := by decide +kernel
theorem cw_Mod_leastOf {k : Cd} (h1 : kMod_leastOf.2.2.2.2.1 + 1 ≤ k.2.2.2.2.1) (h2 : 8 + (kMod_leastOf.2.2.1 + 11) + kMod_leastOf.2.2.2.2.2 ≤ k.2.2.2.2.2) : Cw k kMod_leastOf 1 := ⟨wcode_X11_leastOf, wini_SplitProgramModel, ⟨by decide, by decide, by decide +kernel⟩, h1, h2⟩
def Mod_leastOf_j59 (v0 : Nat) (v1 : Int32) (v2 : Int32) (v3 : Int32) (v4 : Int32) (h : AHeap) : Option ((Int32 × Int32 × AHeap) ⊕ ((Int32 × Int32 × AHeap))) :=
  some (Sum.inl (v2, v3 + 1, h))
theorem Mod_leastOf_j59_J {E : JE} {l : Launch} {G : GX} {r : Option Value} {h' : AHeap} (ok : JOK E l G kMod_leastOf 0 0 r h') (v0 : Nat) (v1 : Int32) (v2 : Int32) (v3 : Int32) (v4 : Int32) (h : AHeap) {Y : (Int32 × Int32 × AHeap) ⊕ ((Int32 × Int32 × AHeap)) → Prop} (k1 : ∀ s' : Int32 × Int32 × AHeap, Y (.inl s') → JW E kMod_leastOf 5 [some (.ref v0), some (.int v1), some (.int s'.1), some (.int s'.2.1), none] [] s'.2.2 0 0) (kx65 : ∀ q : Int32 × Int32 × AHeap, Y (.inr q) → JW E kMod_leastOf 65 [some (.ref v0), some (.int v1), some (.int q.1), some (.int q.2.1), none] [] q.2.2 0 0) : J E kMod_leastOf (Mod_leastOf_j59 v0 v1 v2 v3 v4 h) Y 59 [some (.ref v0), some (.int v1), some (.int v2), some (.int v3), some (.int v4)] [] h 0 0 := by
  unfold Mod_leastOf_j59
  refine J_iinc (v := v3 + 1) (ls' := [some (.ref v0), some (.int v1), some (.int v2), some (.int (v3 + 1)), some (.int v4)]) (pc' := 62) ok (dOf dX11_leastOf 34 rfl) rfl rfl (by rfl) (Nat.le_of_ble_eq_true rfl) rfl rfl ?_
  refine J_goto (tgt := 5) ok (dOf dX11_leastOf 35 rfl) (by decide) ?_
  refine J_weak (ls' := [some (.ref v0), some (.int v1), some (.int v2), some (.int (v3 + 1)), none]) ⟨rfl, rfl, rfl, rfl, trivial⟩ ?_
  exact J_fin (k1 (v2, v3 + 1, h))
def Mod_leastOf_j30 (v0 : Nat) (v1 : Int32) (v2 : Int32) (v3 : Int32) (t0 : Int32) (h : AHeap) : Option ((Int32 × Int32 × AHeap) ⊕ ((Int32 × Int32 × AHeap))) :=
  (if t0 = (-1) then Mod_leastOf_j59 v0 v1 v2 v3 t0 h else (chk h v0 11).bind fun _ => bnd2 (Mod_feesOf v0 v3 h) fun x4 h3 => (if v2 ≤ (x4 + t0) then Mod_leastOf_j59 v0 v1 v2 v3 t0 h3 else (chk h3 v0 11).bind fun _ => bnd2 (Mod_feesOf v0 v3 h3) fun x6 h5 => Mod_leastOf_j59 v0 v1 (x6 + t0) v3 t0 h5))
theorem Mod_leastOf_j30_J {E : JE} {l : Launch} {G : GX} {r : Option Value} {h' : AHeap} (ok : JOK E l G kMod_leastOf 0 0 r h') (v0 : Nat) (v1 : Int32) (v2 : Int32) (v3 : Int32) (t0 : Int32) (h : AHeap) {Y : (Int32 × Int32 × AHeap) ⊕ ((Int32 × Int32 × AHeap)) → Prop} (k1 : ∀ s' : Int32 × Int32 × AHeap, Y (.inl s') → JW E kMod_leastOf 5 [some (.ref v0), some (.int v1), some (.int s'.1), some (.int s'.2.1), none] [] s'.2.2 0 0) (kx65 : ∀ q : Int32 × Int32 × AHeap, Y (.inr q) → JW E kMod_leastOf 65 [some (.ref v0), some (.int v1), some (.int q.1), some (.int q.2.1), none] [] q.2.2 0 0) : J E kMod_leastOf (Mod_leastOf_j30 v0 v1 v2 v3 t0 h) Y 30 [some (.ref v0), some (.int v1), some (.int v2), some (.int v3), none] [.int t0] h 0 0 := by
  unfold Mod_leastOf_j30
  refine J_istore (ls' := [some (.ref v0), some (.int v1), some (.int v2), some (.int v3), some (.int t0)]) (pc' := 32) ok (dOf dX11_leastOf 17 rfl) rfl (Nat.le_of_ble_eq_true rfl) rfl rfl ?_
  refine J_iload (pc' := 34) ok (dOf dX11_leastOf 18 rfl) rfl rfl ?_
  refine J_iconst (v := (-1)) (pc' := 35) ok (dOf dX11_leastOf 19 rfl) rfl (by decide) ?_
  refine J_icmp_eq (tgt := 59) (pc' := 38) ok (dOf dX11_leastOf 20 rfl) rfl (by decide) ?_ ?_
  · exact Mod_leastOf_j59_J ok v0 v1 v2 v3 t0 h k1 kx65
  · refine J_aload_n (pc' := 39) ok (dOf dX11_leastOf 21 rfl) rfl rfl rfl ?_
    refine J_iload_n (pc' := 40) ok (dOf dX11_leastOf 22 rfl) rfl rfl rfl ?_
    refine J_callVi (k2 := kMod_feesOf) (ci := 11) (T := TX11) (N := 29) (as := [.int v3]) (pc' := 43) ok (dOf dX11_leastOf 23 rfl) rfl (cw_Mod_feesOf (by decide) (by decide)) wml_X11_258 winst_X11_feesOf wsel_X11_feesOf rfl ⟨Nat.le_refl 0, Nat.le_refl 0⟩ (Nat.le_of_ble_eq_true rfl) rfl (fun _ _ hf => t_Mod_feesOf hf) (fun x4 h3 => ?_)
    refine J_iload (pc' := 45) ok (dOf dX11_leastOf 24 rfl) rfl rfl ?_
    refine J_iadd (pc' := 46) ok (dOf dX11_leastOf 25 rfl) rfl ?_
    refine J_iload_n (pc' := 47) ok (dOf dX11_leastOf 26 rfl) rfl rfl rfl ?_
    refine J_icmp_ge (tgt := 59) (pc' := 50) ok (dOf dX11_leastOf 27 rfl) rfl (by decide) ?_ ?_
    · exact Mod_leastOf_j59_J ok v0 v1 v2 v3 t0 h3 k1 kx65
    · refine J_aload_n (pc' := 51) ok (dOf dX11_leastOf 28 rfl) rfl rfl rfl ?_
      refine J_iload_n (pc' := 52) ok (dOf dX11_leastOf 29 rfl) rfl rfl rfl ?_
      refine J_callVi (k2 := kMod_feesOf) (ci := 11) (T := TX11) (N := 29) (as := [.int v3]) (pc' := 55) ok (dOf dX11_leastOf 30 rfl) rfl (cw_Mod_feesOf (by decide) (by decide)) wml_X11_258 winst_X11_feesOf wsel_X11_feesOf rfl ⟨Nat.le_refl 0, Nat.le_refl 0⟩ (Nat.le_of_ble_eq_true rfl) rfl (fun _ _ hf => t_Mod_feesOf hf) (fun x6 h5 => ?_)
      refine J_iload (pc' := 57) ok (dOf dX11_leastOf 31 rfl) rfl rfl ?_
      refine J_iadd (pc' := 58) ok (dOf dX11_leastOf 32 rfl) rfl ?_
      refine J_istore_n (ls' := [some (.ref v0), some (.int v1), some (.int (x6 + t0)), some (.int v3), some (.int t0)]) (pc' := 59) ok (dOf dX11_leastOf 33 rfl) rfl rfl (Nat.le_of_ble_eq_true rfl) rfl rfl ?_
      exact Mod_leastOf_j59_J ok v0 v1 (x6 + t0) v3 t0 h5 k1 kx65
def Mod_leastOf_b5 (v0 : Nat) (v1 : Int32) (s : Int32 × Int32 × AHeap) : Option ((Int32 × Int32 × AHeap) ⊕ ((Int32 × Int32 × AHeap))) :=
  (if 256 ≤ s.2.1 then some (Sum.inr (s.1, s.2.1, s.2.2)) else (chk s.2.2 v0 11).bind fun _ => bnd2 (Mod_isPlan v0 s.2.1 s.2.2) fun x2 h1 => (if x2 = 0 then Mod_leastOf_j30 v0 v1 s.1 s.2.1 (-1) h1 else (chk h1 v0 11).bind fun _ => bnd2 (Mod_solves v0 v1 s.2.1 h1) fun x8 h7 => Mod_leastOf_j30 v0 v1 s.1 s.2.1 x8 h7))
theorem Mod_leastOf_b5_J {E : JE} {l : Launch} {G : GX} {r : Option Value} {h' : AHeap} (ok : JOK E l G kMod_leastOf 0 0 r h') (v0 : Nat) (v1 : Int32) {Y : (Int32 × Int32 × AHeap) ⊕ ((Int32 × Int32 × AHeap)) → Prop} (k1 : ∀ s' : Int32 × Int32 × AHeap, Y (.inl s') → JW E kMod_leastOf 5 [some (.ref v0), some (.int v1), some (.int s'.1), some (.int s'.2.1), none] [] s'.2.2 0 0) (kx65 : ∀ q : Int32 × Int32 × AHeap, Y (.inr q) → JW E kMod_leastOf 65 [some (.ref v0), some (.int v1), some (.int q.1), some (.int q.2.1), none] [] q.2.2 0 0) (s : Int32 × Int32 × AHeap) : J E kMod_leastOf (Mod_leastOf_b5 v0 v1 s) Y 5 [some (.ref v0), some (.int v1), some (.int s.1), some (.int s.2.1), none] [] s.2.2 0 0 := by
  unfold Mod_leastOf_b5
  refine J_iload_n (pc' := 6) ok (dOf dX11_leastOf 4 rfl) rfl rfl rfl ?_
  refine J_sipush (v := 256) (pc' := 9) ok (dOf dX11_leastOf 5 rfl) rfl (by decide) ?_
  refine J_icmp_ge (tgt := 65) (pc' := 12) ok (dOf dX11_leastOf 6 rfl) rfl (by decide) ?_ ?_
  · exact J_fin (kx65 (s.1, s.2.1, s.2.2))
  · refine J_aload_n (pc' := 13) ok (dOf dX11_leastOf 7 rfl) rfl rfl rfl ?_
    refine J_iload_n (pc' := 14) ok (dOf dX11_leastOf 8 rfl) rfl rfl rfl ?_
    refine J_callVi (k2 := kMod_isPlan) (ci := 11) (T := TX11) (N := 29) (as := [.int s.2.1]) (pc' := 17) ok (dOf dX11_leastOf 9 rfl) rfl (cw_Mod_isPlan (by decide) (by decide)) wml_X11_274 winst_X11_isPlan wsel_X11_isPlan rfl ⟨Nat.le_refl 0, Nat.le_refl 0⟩ (Nat.le_of_ble_eq_true rfl) rfl (fun _ _ hf => t_Mod_isPlan hf) (fun x2 h1 => ?_)
    refine J_if_eq (tgt := 29) (pc' := 20) ok (dOf dX11_leastOf 10 rfl) rfl (by decide) ?_ ?_
    · refine J_iconst (v := (-1)) (pc' := 30) ok (dOf dX11_leastOf 16 rfl) rfl (by decide) ?_
      exact Mod_leastOf_j30_J ok v0 v1 s.1 s.2.1 (-1) h1 k1 kx65
    · refine J_aload_n (pc' := 21) ok (dOf dX11_leastOf 11 rfl) rfl rfl rfl ?_
      refine J_iload_n (pc' := 22) ok (dOf dX11_leastOf 12 rfl) rfl rfl rfl ?_
      refine J_iload_n (pc' := 23) ok (dOf dX11_leastOf 13 rfl) rfl rfl rfl ?_
      refine J_callVi (k2 := kMod_solves) (ci := 11) (T := TX11) (N := 29) (as := [.int v1, .int s.2.1]) (pc' := 26) ok (dOf dX11_leastOf 14 rfl) rfl (cw_Mod_solves (by decide) (by decide)) wml_X11_264 winst_X11_solves wsel_X11_solves rfl ⟨Nat.le_refl 0, Nat.le_refl 0⟩ (Nat.le_of_ble_eq_true rfl) rfl (fun _ _ hf => t_Mod_solves hf) (fun x8 h7 => ?_)
      refine J_goto (tgt := 30) ok (dOf dX11_leastOf 15 rfl) (by decide) ?_
      exact Mod_leastOf_j30_J ok v0 v1 s.1 s.2.1 x8 h7 k1 kx65
def Mod_leastOf_j65 (v0 : Nat) (v1 : Int32) (v2 : Int32) (v3 : Int32) (h : AHeap) : Option (Int32 × AHeap) :=
  some (v2, h)
theorem Mod_leastOf_j65_J {E : JE} {l : Launch} {G : GX} {v : Int32} {h' : AHeap} (ok : JOK E l G kMod_leastOf 0 0 (some (.int v)) h') (v0 : Nat) (v1 : Int32) (v2 : Int32) (v3 : Int32) (h : AHeap) : J E kMod_leastOf (Mod_leastOf_j65 v0 v1 v2 v3 h) (fun z => z = (v, h')) 65 [some (.ref v0), some (.int v1), some (.int v2), some (.int v3), none] [] h 0 0 := by
  unfold Mod_leastOf_j65
  refine J_iload_n (pc' := 66) ok (dOf dX11_leastOf 36 rfl) rfl rfl rfl ?_
  exact J_ireturn ok (dOf dX11_leastOf 37 rfl) rfl (Eq.refl 0) (Nat.le_refl 0)
def Mod_leastOf (v0 : Nat) (v1 : Int32) (h : AHeap) : Option (Int32 × AHeap) :=
  (iter (Mod_leastOf_b5 v0 v1) Lmax (1000000000, 0, h)).bind (fun (q5 : Int32 × Int32 × AHeap) => Mod_leastOf_j65 v0 v1 q5.1 q5.2.1 q5.2.2)
theorem t_Mod_leastOf {l : Launch} {G : GX} {v0 : Nat} {v1 : Int32} {h : AHeap} {v : Int32} {h1 : AHeap} (hf : Mod_leastOf v0 v1 h = some (v, h1)) : CT l G kMod_leastOf 0 0 [.ref v0, .int v1] h (some (.int v)) h1 := by
  refine CT_of (ls := [some (.ref v0), some (.int v1), none, none, none]) (Z := fun z => z = (v, h1)) (by decide +kernel) (Nat.le_of_ble_eq_true rfl) hf rfl ⟨rfl, rfl, trivial⟩ (fun E ok => ?_)
  unfold Mod_leastOf
  refine J_ldc (v := 1000000000) (pc' := 2) ok (dOf dX11_leastOf 0 rfl) rfl wcon_X11_230 ?_
  refine J_istore_n (ls' := [some (.ref v0), some (.int v1), some (.int 1000000000), none, none]) (pc' := 3) ok (dOf dX11_leastOf 1 rfl) rfl rfl (Nat.le_of_ble_eq_true rfl) rfl rfl ?_
  refine J_iconst (v := 0) (pc' := 4) ok (dOf dX11_leastOf 2 rfl) rfl (by decide) ?_
  refine J_istore_n (ls' := [some (.ref v0), some (.int v1), some (.int 1000000000), some (.int 0), none]) (pc' := 5) ok (dOf dX11_leastOf 3 rfl) rfl rfl (Nat.le_of_ble_eq_true rfl) rfl rfl ?_
  refine J_iter (lf := fun z5 => [some (.ref v0), some (.int v1), some (.int z5.1), some (.int z5.2.1), none]) (sf := fun _ => []) (hf := fun z5 => z5.2.2) (px := (fun (q5 : Int32 × Int32 × AHeap) => 65)) (lx := (fun (q5 : Int32 × Int32 × AHeap) => [some (.ref v0), some (.int v1), some (.int q5.1), some (.int q5.2.1), none])) (sx := (fun (q5 : Int32 × Int32 × AHeap) => [])) (hx := (fun (q5 : Int32 × Int32 × AHeap) => q5.2.2)) (fun Y2 z5 m1 m2 => Mod_leastOf_b5_J ok v0 v1 m1 m2 z5) (fun q5 => ?_) Lmax _
  exact Mod_leastOf_j65_J ok v0 v1 q5.1 q5.2.1 q5.2.2
-- X11_regret
abbrev kMod_regret : Cd := (yX11_regret, cX11_regret, 5, (some .int), 9, 211)
theorem dX11_regret : dcheck cX11_regret [(0, .aload_n 0, 1), (1, .iload_n 1, 1), (2, .invokevirtual 323, 3), (5, .iconst (-1), 1), (6, .if_icmp .ne 5, 3), (9, .iconst (-1), 1), (10, .ireturn, 1), (11, .iconst 0, 1), (12, .istore_n 2, 1), (13, .iconst 0, 1), (14, .istore_n 3, 1), (15, .iload_n 3, 1), (16, .aload_n 0, 1), (17, .getfield 22, 3), (20, .iconst 2, 1), (21, .iaload, 1), (22, .if_icmp .ge 42, 3), (25, .aload_n 0, 1), (26, .iload_n 1, 1), (27, .invokevirtual 258, 3), (30, .aload_n 0, 1), (31, .iload_n 3, 1), (32, .iload_n 1, 1), (33, .invokevirtual 264, 3), (36, .iadd, 1), (37, .aload_n 0, 1), (38, .iload_n 3, 1), (39, .invokevirtual 326, 3), (42, .isub, 1), (43, .istore 4, 2), (45, .iload 4, 2), (47, .iload_n 2, 1), (48, .if_icmp .le 8, 3), (51, .iload 4, 2), (53, .goto 4, 3), (56, .iload_n 2, 1), (57, .istore_n 2, 1), (58, .iinc 3 1, 3), (61, .goto (-46), 3), (64, .iload_n 2, 1), (65, .ireturn, 1)] = true := by decide +kernel
theorem cw_Mod_regret {k : Cd} (h1 : kMod_regret.2.2.2.2.1 + 1 ≤ k.2.2.2.2.1) (h2 : 8 + (kMod_regret.2.2.1 + 11) + kMod_regret.2.2.2.2.2 ≤ k.2.2.2.2.2) : Cw k kMod_regret 1 := ⟨wcode_X11_regret, wini_SplitProgramModel, ⟨by decide, by decide, by decide +kernel⟩, h1, h2⟩
def Mod_regret_j57 (v0 : Nat) (v1 : Int32) (v2 : Int32) (v3 : Int32) (v4 : Int32) (t0 : Int32) (h : AHeap) : Option ((Int32 × Int32 × AHeap) ⊕ ((Int32 × Int32 × AHeap))) :=
  some (Sum.inl (t0, v3 + 1, h))
theorem Mod_regret_j57_J {E : JE} {l : Launch} {G : GX} {r : Option Value} {h' : AHeap} (ok : JOK E l G kMod_regret 0 0 r h') (v0 : Nat) (v1 : Int32) (v2 : Int32) (v3 : Int32) (v4 : Int32) (t0 : Int32) (h : AHeap) {Y : (Int32 × Int32 × AHeap) ⊕ ((Int32 × Int32 × AHeap)) → Prop} (k1 : ∀ s' : Int32 × Int32 × AHeap, Y (.inl s') → JW E kMod_regret 15 [some (.ref v0), some (.int v1), some (.int s'.1), some (.int s'.2.1), none] [] s'.2.2 0 0) (kx64 : ∀ q : Int32 × Int32 × AHeap, Y (.inr q) → JW E kMod_regret 64 [some (.ref v0), some (.int v1), some (.int q.1), some (.int q.2.1), none] [] q.2.2 0 0) : J E kMod_regret (Mod_regret_j57 v0 v1 v2 v3 v4 t0 h) Y 57 [some (.ref v0), some (.int v1), some (.int v2), some (.int v3), some (.int v4)] [.int t0] h 0 0 := by
  unfold Mod_regret_j57
  refine J_istore_n (ls' := [some (.ref v0), some (.int v1), some (.int t0), some (.int v3), some (.int v4)]) (pc' := 58) ok (dOf dX11_regret 36 rfl) rfl rfl (Nat.le_of_ble_eq_true rfl) rfl rfl ?_
  refine J_iinc (v := v3 + 1) (ls' := [some (.ref v0), some (.int v1), some (.int t0), some (.int (v3 + 1)), some (.int v4)]) (pc' := 61) ok (dOf dX11_regret 37 rfl) rfl rfl (by rfl) (Nat.le_of_ble_eq_true rfl) rfl rfl ?_
  refine J_goto (tgt := 15) ok (dOf dX11_regret 38 rfl) (by decide) ?_
  refine J_weak (ls' := [some (.ref v0), some (.int v1), some (.int t0), some (.int (v3 + 1)), none]) ⟨rfl, rfl, rfl, rfl, trivial⟩ ?_
  exact J_fin (k1 (t0, v3 + 1, h))
def Mod_regret_b15 (v0 : Nat) (v1 : Int32) (s : Int32 × Int32 × AHeap) : Option ((Int32 × Int32 × AHeap) ⊕ ((Int32 × Int32 × AHeap))) :=
  (gfR s.2.2 v0 11 5).bind fun a3 => (ald 0 s.2.2 a3 2).bind fun x4 => (if x4 ≤ s.2.1 then some (Sum.inr (s.1, s.2.1, s.2.2)) else (chk s.2.2 v0 11).bind fun _ => bnd2 (Mod_feesOf v0 v1 s.2.2) fun x6 h5 => (chk h5 v0 11).bind fun _ => bnd2 (Mod_solves v0 s.2.1 v1 h5) fun x8 h7 => (chk h7 v0 11).bind fun _ => bnd2 (Mod_leastOf v0 s.2.1 h7) fun x10 h9 => (if ((x6 + x8) - x10) ≤ s.1 then Mod_regret_j57 v0 v1 s.1 s.2.1 ((x6 + x8) - x10) s.1 h9 else Mod_regret_j57 v0 v1 s.1 s.2.1 ((x6 + x8) - x10) ((x6 + x8) - x10) h9))
theorem Mod_regret_b15_J {E : JE} {l : Launch} {G : GX} {r : Option Value} {h' : AHeap} (ok : JOK E l G kMod_regret 0 0 r h') (v0 : Nat) (v1 : Int32) {Y : (Int32 × Int32 × AHeap) ⊕ ((Int32 × Int32 × AHeap)) → Prop} (k1 : ∀ s' : Int32 × Int32 × AHeap, Y (.inl s') → JW E kMod_regret 15 [some (.ref v0), some (.int v1), some (.int s'.1), some (.int s'.2.1), none] [] s'.2.2 0 0) (kx64 : ∀ q : Int32 × Int32 × AHeap, Y (.inr q) → JW E kMod_regret 64 [some (.ref v0), some (.int v1), some (.int q.1), some (.int q.2.1), none] [] q.2.2 0 0) (s : Int32 × Int32 × AHeap) : J E kMod_regret (Mod_regret_b15 v0 v1 s) Y 15 [some (.ref v0), some (.int v1), some (.int s.1), some (.int s.2.1), none] [] s.2.2 0 0 := by
  unfold Mod_regret_b15
  refine J_iload_n (pc' := 16) ok (dOf dX11_regret 11 rfl) rfl rfl rfl ?_
  refine J_aload_n (pc' := 17) ok (dOf dX11_regret 12 rfl) rfl rfl rfl ?_
  refine J_getR (ci := 11) (kf := 5) (C := RX11) (T := TX11) (N := 29) (pc' := 20) ok (dOf dX11_regret 13 rfl) rfl (by decide) rfl (by decide) win_11 wfl_X11_22 (fun a3 => ?_)
  refine J_iconst (v := 2) (pc' := 21) ok (dOf dX11_regret 14 rfl) rfl (by decide) ?_
  refine J_iald (pc' := 22) ok (dOf dX11_regret 15 rfl) rfl (fun x4 => ?_)
  refine J_icmp_ge (tgt := 64) (pc' := 25) ok (dOf dX11_regret 16 rfl) rfl (by decide) ?_ ?_
  · exact J_fin (kx64 (s.1, s.2.1, s.2.2))
  · refine J_aload_n (pc' := 26) ok (dOf dX11_regret 17 rfl) rfl rfl rfl ?_
    refine J_iload_n (pc' := 27) ok (dOf dX11_regret 18 rfl) rfl rfl rfl ?_
    refine J_callVi (k2 := kMod_feesOf) (ci := 11) (T := TX11) (N := 29) (as := [.int v1]) (pc' := 30) ok (dOf dX11_regret 19 rfl) rfl (cw_Mod_feesOf (by decide) (by decide)) wml_X11_258 winst_X11_feesOf wsel_X11_feesOf rfl ⟨Nat.le_refl 0, Nat.le_refl 0⟩ (Nat.le_of_ble_eq_true rfl) rfl (fun _ _ hf => t_Mod_feesOf hf) (fun x6 h5 => ?_)
    refine J_aload_n (pc' := 31) ok (dOf dX11_regret 20 rfl) rfl rfl rfl ?_
    refine J_iload_n (pc' := 32) ok (dOf dX11_regret 21 rfl) rfl rfl rfl ?_
    refine J_iload_n (pc' := 33) ok (dOf dX11_regret 22 rfl) rfl rfl rfl ?_
    refine J_callVi (k2 := kMod_solves) (ci := 11) (T := TX11) (N := 29) (as := [.int s.2.1, .int v1]) (pc' := 36) ok (dOf dX11_regret 23 rfl) rfl (cw_Mod_solves (by decide) (by decide)) wml_X11_264 winst_X11_solves wsel_X11_solves rfl ⟨Nat.le_refl 0, Nat.le_refl 0⟩ (Nat.le_of_ble_eq_true rfl) rfl (fun _ _ hf => t_Mod_solves hf) (fun x8 h7 => ?_)
    refine J_iadd (pc' := 37) ok (dOf dX11_regret 24 rfl) rfl ?_
    refine J_aload_n (pc' := 38) ok (dOf dX11_regret 25 rfl) rfl rfl rfl ?_
    refine J_iload_n (pc' := 39) ok (dOf dX11_regret 26 rfl) rfl rfl rfl ?_
    refine J_callVi (k2 := kMod_leastOf) (ci := 11) (T := TX11) (N := 29) (as := [.int s.2.1]) (pc' := 42) ok (dOf dX11_regret 27 rfl) rfl (cw_Mod_leastOf (by decide) (by decide)) wml_X11_326 winst_X11_leastOf wsel_X11_leastOf rfl ⟨Nat.le_refl 0, Nat.le_refl 0⟩ (Nat.le_of_ble_eq_true rfl) rfl (fun _ _ hf => t_Mod_leastOf hf) (fun x10 h9 => ?_)
    refine J_isub (pc' := 43) ok (dOf dX11_regret 28 rfl) rfl ?_
    refine J_istore (ls' := [some (.ref v0), some (.int v1), some (.int s.1), some (.int s.2.1), some (.int ((x6 + x8) - x10))]) (pc' := 45) ok (dOf dX11_regret 29 rfl) rfl (Nat.le_of_ble_eq_true rfl) rfl rfl ?_
    refine J_iload (pc' := 47) ok (dOf dX11_regret 30 rfl) rfl rfl ?_
    refine J_iload_n (pc' := 48) ok (dOf dX11_regret 31 rfl) rfl rfl rfl ?_
    refine J_icmp_le (tgt := 56) (pc' := 51) ok (dOf dX11_regret 32 rfl) rfl (by decide) ?_ ?_
    · refine J_iload_n (pc' := 57) ok (dOf dX11_regret 35 rfl) rfl rfl rfl ?_
      exact Mod_regret_j57_J ok v0 v1 s.1 s.2.1 ((x6 + x8) - x10) s.1 h9 k1 kx64
    · refine J_iload (pc' := 53) ok (dOf dX11_regret 33 rfl) rfl rfl ?_
      refine J_goto (tgt := 57) ok (dOf dX11_regret 34 rfl) (by decide) ?_
      exact Mod_regret_j57_J ok v0 v1 s.1 s.2.1 ((x6 + x8) - x10) ((x6 + x8) - x10) h9 k1 kx64
def Mod_regret_j64 (v0 : Nat) (v1 : Int32) (v2 : Int32) (v3 : Int32) (h : AHeap) : Option (Int32 × AHeap) :=
  some (v2, h)
theorem Mod_regret_j64_J {E : JE} {l : Launch} {G : GX} {v : Int32} {h' : AHeap} (ok : JOK E l G kMod_regret 0 0 (some (.int v)) h') (v0 : Nat) (v1 : Int32) (v2 : Int32) (v3 : Int32) (h : AHeap) : J E kMod_regret (Mod_regret_j64 v0 v1 v2 v3 h) (fun z => z = (v, h')) 64 [some (.ref v0), some (.int v1), some (.int v2), some (.int v3), none] [] h 0 0 := by
  unfold Mod_regret_j64
  refine J_iload_n (pc' := 65) ok (dOf dX11_regret 39 rfl) rfl rfl rfl ?_
  exact J_ireturn ok (dOf dX11_regret 40 rfl) rfl (Eq.refl 0) (Nat.le_refl 0)
def Mod_regret (v0 : Nat) (v1 : Int32) (h : AHeap) : Option (Int32 × AHeap) :=
  (chk h v0 11).bind fun _ => bnd2 (Mod_total v0 v1 h) fun x2 h1 => (if ¬ x2 = (-1) then (iter (Mod_regret_b15 v0 v1) Lmax (0, 0, h1)).bind (fun (q15 : Int32 × Int32 × AHeap) => Mod_regret_j64 v0 v1 q15.1 q15.2.1 q15.2.2) else some ((-1), h1))
theorem t_Mod_regret {l : Launch} {G : GX} {v0 : Nat} {v1 : Int32} {h : AHeap} {v : Int32} {h1 : AHeap} (hf : Mod_regret v0 v1 h = some (v, h1)) : CT l G kMod_regret 0 0 [.ref v0, .int v1] h (some (.int v)) h1 := by
  refine CT_of (ls := [some (.ref v0), some (.int v1), none, none, none]) (Z := fun z => z = (v, h1)) (by decide +kernel) (Nat.le_of_ble_eq_true rfl) hf rfl ⟨rfl, rfl, trivial⟩ (fun E ok => ?_)
  unfold Mod_regret
  refine J_aload_n (pc' := 1) ok (dOf dX11_regret 0 rfl) rfl rfl rfl ?_
  refine J_iload_n (pc' := 2) ok (dOf dX11_regret 1 rfl) rfl rfl rfl ?_
  refine J_callVi (k2 := kMod_total) (ci := 11) (T := TX11) (N := 29) (as := [.int v1]) (pc' := 5) ok (dOf dX11_regret 2 rfl) rfl (cw_Mod_total (by decide) (by decide)) wml_X11_323 winst_X11_total wsel_X11_total rfl ⟨Nat.le_refl 0, Nat.le_refl 0⟩ (Nat.le_of_ble_eq_true rfl) rfl (fun _ _ hf => t_Mod_total hf) (fun x2 h1 => ?_)
  refine J_iconst (v := (-1)) (pc' := 6) ok (dOf dX11_regret 3 rfl) rfl (by decide) ?_
  refine J_icmp_ne (tgt := 11) (pc' := 9) ok (dOf dX11_regret 4 rfl) rfl (by decide) ?_ ?_
  · refine J_iconst (v := 0) (pc' := 12) ok (dOf dX11_regret 7 rfl) rfl (by decide) ?_
    refine J_istore_n (ls' := [some (.ref v0), some (.int v1), some (.int 0), none, none]) (pc' := 13) ok (dOf dX11_regret 8 rfl) rfl rfl (Nat.le_of_ble_eq_true rfl) rfl rfl ?_
    refine J_iconst (v := 0) (pc' := 14) ok (dOf dX11_regret 9 rfl) rfl (by decide) ?_
    refine J_istore_n (ls' := [some (.ref v0), some (.int v1), some (.int 0), some (.int 0), none]) (pc' := 15) ok (dOf dX11_regret 10 rfl) rfl rfl (Nat.le_of_ble_eq_true rfl) rfl rfl ?_
    refine J_iter (lf := fun z15 => [some (.ref v0), some (.int v1), some (.int z15.1), some (.int z15.2.1), none]) (sf := fun _ => []) (hf := fun z15 => z15.2.2) (px := (fun (q15 : Int32 × Int32 × AHeap) => 64)) (lx := (fun (q15 : Int32 × Int32 × AHeap) => [some (.ref v0), some (.int v1), some (.int q15.1), some (.int q15.2.1), none])) (sx := (fun (q15 : Int32 × Int32 × AHeap) => [])) (hx := (fun (q15 : Int32 × Int32 × AHeap) => q15.2.2)) (fun Y2 z15 m1 m2 => Mod_regret_b15_J ok v0 v1 m1 m2 z15) (fun q15 => ?_) Lmax _
    exact Mod_regret_j64_J ok v0 v1 q15.1 q15.2.1 q15.2.2
  · refine J_iconst (v := (-1)) (pc' := 10) ok (dOf dX11_regret 5 rfl) rfl (by decide) ?_
    exact J_ireturn ok (dOf dX11_regret 6 rfl) rfl (Eq.refl 0) (Nat.le_refl 0)
-- Jxe99ae_isNaN_b9ae7
abbrev kJxe99ae_isNaN : Cd := (yJxe99ae_isNaN_b9ae7, cJxe99ae_isNaN_b9ae7, 2, (some .boolean), 0, 0)
theorem dJxe99ae_isNaN_b9ae7 : dcheck cJxe99ae_isNaN_b9ae7 [(0, .dload_n 0, 1), (1, .dload_n 0, 1), (2, .dcmp .l, 1), (3, .ifCond .eq 7, 3), (6, .iconst 1, 1), (7, .goto 4, 3), (10, .iconst 0, 1), (11, .ireturn, 1)] = true := by decide +kernel
theorem cw_Jxe99ae_isNaN {k : Cd} (h1 : kJxe99ae_isNaN.2.2.2.2.1 + 1 ≤ k.2.2.2.2.1) (h2 : 8 + (kJxe99ae_isNaN.2.2.1 + 11) + kJxe99ae_isNaN.2.2.2.2.2 ≤ k.2.2.2.2.2) : Cw k kJxe99ae_isNaN 1 := ⟨wcode_Jxe99ae_isNaN_b9ae7, wini_java_lang_Double, ⟨by decide, by decide, by decide +kernel⟩, h1, h2⟩
def Jxe99ae_isNaN_j11 (v0 : UInt64) (t0 : Int32) (h : AHeap) : Option (Int32 × AHeap) :=
  (bz t0).bind fun z => some (z, h)
theorem Jxe99ae_isNaN_j11_J {E : JE} {l : Launch} {G : GX} {v : Int32} {h' : AHeap} (ok : JOK E l G kJxe99ae_isNaN 0 0 (some (.int v)) h') (v0 : UInt64) (t0 : Int32) (h : AHeap) : J E kJxe99ae_isNaN (Jxe99ae_isNaN_j11 v0 t0 h) (fun z => z = (v, h')) 11 [some (.double v0), none] [.int t0] h 0 0 := by
  unfold Jxe99ae_isNaN_j11
  exact J_zreturn ok (dOf dJxe99ae_isNaN_b9ae7 7 rfl) rfl (Eq.refl 0) (Nat.le_refl 0)
def Jxe99ae_isNaN (v0 : UInt64) (h : AHeap) : Option (Int32 × AHeap) :=
  (if (Op.cmpValue (FP.dcmp v0 v0) .l) = 0 then Jxe99ae_isNaN_j11 v0 0 h else Jxe99ae_isNaN_j11 v0 1 h)
theorem t_Jxe99ae_isNaN {l : Launch} {G : GX} {v0 : UInt64} {h : AHeap} {v : Int32} {h1 : AHeap} (hf : Jxe99ae_isNaN v0 h = some (v, h1)) : CT l G kJxe99ae_isNaN 0 0 [.double v0] h (some (.int v)) h1 := by
  refine CT_of (ls := [some (.double v0), none]) (Z := fun z => z = (v, h1)) (by decide +kernel) (Nat.le_of_ble_eq_true rfl) hf rfl ⟨rfl, trivial⟩ (fun E ok => ?_)
  unfold Jxe99ae_isNaN
  refine J_dload_n (pc' := 1) ok (dOf dJxe99ae_isNaN_b9ae7 0 rfl) rfl rfl rfl ?_
  refine J_dload_n (pc' := 2) ok (dOf dJxe99ae_isNaN_b9ae7 1 rfl) rfl rfl rfl ?_
  refine J_dcmp (pc' := 3) ok (dOf dJxe99ae_isNaN_b9ae7 2 rfl) rfl ?_
  refine J_if_eq (tgt := 10) (pc' := 6) ok (dOf dJxe99ae_isNaN_b9ae7 3 rfl) rfl (by decide) ?_ ?_
  · refine J_iconst (v := 0) (pc' := 11) ok (dOf dJxe99ae_isNaN_b9ae7 6 rfl) rfl (by decide) ?_
    exact Jxe99ae_isNaN_j11_J ok v0 0 h
  · refine J_iconst (v := 1) (pc' := 7) ok (dOf dJxe99ae_isNaN_b9ae7 4 rfl) rfl (by decide) ?_
    refine J_goto (tgt := 11) ok (dOf dJxe99ae_isNaN_b9ae7 5 rfl) (by decide) ?_
    exact Jxe99ae_isNaN_j11_J ok v0 1 h
-- Jxe99ae_doubleToLongBits_ccdee
abbrev kJxe99ae_doubleToLongBits : Cd := (yJxe99ae_doubleToLongBits_ccdee, cJxe99ae_doubleToLongBits_ccdee, 2, (some .long), 1, 23)
theorem dJxe99ae_doubleToLongBits_ccdee : dcheck cJxe99ae_doubleToLongBits_ccdee [(0, .dload_n 0, 1), (1, .invokestatic 122, 3), (4, .ifCond .ne 8, 3), (7, .dload_n 0, 1), (8, .invokestatic 134, 3), (11, .lreturn, 1), (12, .ldc2_w 137, 3), (15, .lreturn, 1)] = true := by decide +kernel
theorem cw_Jxe99ae_doubleToLongBits {k : Cd} (h1 : kJxe99ae_doubleToLongBits.2.2.2.2.1 + 1 ≤ k.2.2.2.2.1) (h2 : 8 + (kJxe99ae_doubleToLongBits.2.2.1 + 11) + kJxe99ae_doubleToLongBits.2.2.2.2.2 ≤ k.2.2.2.2.2) : Cw k kJxe99ae_doubleToLongBits 1 := ⟨wcode_Jxe99ae_doubleToLongBits_ccdee, wini_java_lang_Double, ⟨by decide, by decide, by decide +kernel⟩, h1, h2⟩
def Jxe99ae_doubleToLongBits (v0 : UInt64) (h : AHeap) : Option (Int64 × AHeap) :=
  bnd2 (Jxe99ae_isNaN v0 h) fun x2 h1 => (if ¬ x2 = 0 then some (9221120237041090560, h1) else some (v0.toInt64, h1))
theorem t_Jxe99ae_doubleToLongBits {l : Launch} {G : GX} {v0 : UInt64} {h : AHeap} {v : Int64} {h1 : AHeap} (hf : Jxe99ae_doubleToLongBits v0 h = some (v, h1)) : CT l G kJxe99ae_doubleToLongBits 0 0 [.double v0] h (some (.long v)) h1 := by
  refine CT_of (ls := [some (.double v0), none]) (Z := fun z => z = (v, h1)) (by decide +kernel) (Nat.le_of_ble_eq_true rfl) hf rfl ⟨rfl, trivial⟩ (fun E ok => ?_)
  unfold Jxe99ae_doubleToLongBits
  refine J_dload_n (pc' := 1) ok (dOf dJxe99ae_doubleToLongBits_ccdee 0 rfl) rfl rfl rfl ?_
  refine J_callSi (k2 := kJxe99ae_isNaN) (as := [.double v0]) (pc' := 4) ok (dOf dJxe99ae_doubleToLongBits_ccdee 1 rfl) rfl (cw_Jxe99ae_isNaN (by decide) (by decide)) wml_Jxe99ae_122 wstat_Jxe99ae_isNaN_b9ae7 ⟨Nat.le_refl 0, Nat.le_refl 0⟩ (Nat.le_of_ble_eq_true rfl) rfl (fun _ _ hf => t_Jxe99ae_isNaN hf) (fun x2 h1 => ?_)
  refine J_if_ne (tgt := 12) (pc' := 7) ok (dOf dJxe99ae_doubleToLongBits_ccdee 2 rfl) rfl (by decide) ?_ ?_
  · refine J_ldc2l (v := 9221120237041090560) (pc' := 15) ok (dOf dJxe99ae_doubleToLongBits_ccdee 6 rfl) rfl wconl_Jxe99ae_137 ?_
    exact J_lreturn ok (dOf dJxe99ae_doubleToLongBits_ccdee 7 rfl) rfl (Eq.refl 0) (Nat.le_refl 0)
  · refine J_dload_n (pc' := 8) ok (dOf dJxe99ae_doubleToLongBits_ccdee 3 rfl) rfl rfl rfl ?_
    refine J_d2raw (pc' := 11) ok (dOf dJxe99ae_doubleToLongBits_ccdee 4 rfl) rfl wml_Jxe99ae_134 wnat_java_lang_Double_doubleToRawLongBits wstat_java_lang_Double_doubleToRawLongBits wini_java_lang_Double (Nat.le_of_ble_eq_true rfl) (Nat.le_of_ble_eq_true rfl) ?_
    exact J_lreturn ok (dOf dJxe99ae_doubleToLongBits_ccdee 5 rfl) rfl (Eq.refl 0) (Nat.le_refl 0)
-- X11_mean
abbrev kMod_mean : Cd := (yX11_mean, cX11_mean, 4, (some .long), 9, 211)
theorem dX11_mean : dcheck cX11_mean [(0, .aload_n 0, 1), (1, .iload_n 1, 1), (2, .invokevirtual 323, 3), (5, .iconst (-1), 1), (6, .if_icmp .eq 12, 3), (9, .aload_n 0, 1), (10, .getfield 22, 3), (13, .iconst 2, 1), (14, .iaload, 1), (15, .ifCond .ne 7, 3), (18, .ldc2_w 329, 3), (21, .lreturn, 1), (22, .iconst 0, 1), (23, .istore_n 2, 1), (24, .iconst 0, 1), (25, .istore_n 3, 1), (26, .iload_n 3, 1), (27, .aload_n 0, 1), (28, .getfield 22, 3), (31, .iconst 2, 1), (32, .iaload, 1), (33, .if_icmp .ge 21, 3), (36, .iload_n 2, 1), (37, .aload_n 0, 1), (38, .getfield 22, 3), (41, .bipush 47, 2), (43, .iload_n 3, 1), (44, .iadd, 1), (45, .iaload, 1), (46, .iadd, 1), (47, .istore_n 2, 1), (48, .iinc 3 1, 3), (51, .goto (-25), 3), (54, .aload_n 0, 1), (55, .iload_n 1, 1), (56, .invokevirtual 286, 3), (59, .aload_n 0, 1), (60, .iload_n 1, 1), (61, .invokevirtual 258, 3), (64, .isub, 1), (65, .i2d, 1), (66, .iload_n 2, 1), (67, .i2d, 1), (68, .ddiv, 1), (69, .invokestatic 331, 3), (72, .lreturn, 1)] = true := by decide +kernel
theorem cw_Mod_mean {k : Cd} (h1 : kMod_mean.2.2.2.2.1 + 1 ≤ k.2.2.2.2.1) (h2 : 8 + (kMod_mean.2.2.1 + 11) + kMod_mean.2.2.2.2.2 ≤ k.2.2.2.2.2) : Cw k kMod_mean 1 := ⟨wcode_X11_mean, wini_SplitProgramModel, ⟨by decide, by decide, by decide +kernel⟩, h1, h2⟩
def Mod_mean_j18 (v0 : Nat) (v1 : Int32) (h : AHeap) : Option (Int64 × AHeap) :=
  some ((-1), h)
theorem Mod_mean_j18_J {E : JE} {l : Launch} {G : GX} {v : Int64} {h' : AHeap} (ok : JOK E l G kMod_mean 0 0 (some (.long v)) h') (v0 : Nat) (v1 : Int32) (h : AHeap) : J E kMod_mean (Mod_mean_j18 v0 v1 h) (fun z => z = (v, h')) 18 [some (.ref v0), some (.int v1), none, none] [] h 0 0 := by
  unfold Mod_mean_j18
  refine J_ldc2l (v := (-1)) (pc' := 21) ok (dOf dX11_mean 10 rfl) rfl wconl_X11_329 ?_
  exact J_lreturn ok (dOf dX11_mean 11 rfl) rfl (Eq.refl 0) (Nat.le_refl 0)
def Mod_mean_b26 (v0 : Nat) (v1 : Int32) (h : AHeap) (s : Int32 × Int32) : Option ((Int32 × Int32) ⊕ ((Int32 × Int32))) :=
  (gfR h v0 11 5).bind fun a5 => (ald 0 h a5 2).bind fun x6 => (if x6 ≤ s.2 then some (Sum.inr (s.1, s.2)) else (gfR h v0 11 5).bind fun a7 => (ald 0 h a7 (47 + s.2)).bind fun x8 => some (Sum.inl (s.1 + x8, s.2 + 1)))
theorem Mod_mean_b26_J {E : JE} {l : Launch} {G : GX} {r : Option Value} {h' : AHeap} (ok : JOK E l G kMod_mean 0 0 r h') (v0 : Nat) (v1 : Int32) (h : AHeap) {Y : (Int32 × Int32) ⊕ ((Int32 × Int32)) → Prop} (k1 : ∀ s' : Int32 × Int32, Y (.inl s') → JW E kMod_mean 26 [some (.ref v0), some (.int v1), some (.int s'.1), some (.int s'.2)] [] h 0 0) (kx54 : ∀ q : Int32 × Int32, Y (.inr q) → JW E kMod_mean 54 [some (.ref v0), some (.int v1), some (.int q.1), some (.int q.2)] [] h 0 0) (s : Int32 × Int32) : J E kMod_mean (Mod_mean_b26 v0 v1 h s) Y 26 [some (.ref v0), some (.int v1), some (.int s.1), some (.int s.2)] [] h 0 0 := by
  unfold Mod_mean_b26
  refine J_iload_n (pc' := 27) ok (dOf dX11_mean 16 rfl) rfl rfl rfl ?_
  refine J_aload_n (pc' := 28) ok (dOf dX11_mean 17 rfl) rfl rfl rfl ?_
  refine J_getR (ci := 11) (kf := 5) (C := RX11) (T := TX11) (N := 29) (pc' := 31) ok (dOf dX11_mean 18 rfl) rfl (by decide) rfl (by decide) win_11 wfl_X11_22 (fun a5 => ?_)
  refine J_iconst (v := 2) (pc' := 32) ok (dOf dX11_mean 19 rfl) rfl (by decide) ?_
  refine J_iald (pc' := 33) ok (dOf dX11_mean 20 rfl) rfl (fun x6 => ?_)
  refine J_icmp_ge (tgt := 54) (pc' := 36) ok (dOf dX11_mean 21 rfl) rfl (by decide) ?_ ?_
  · exact J_fin (kx54 (s.1, s.2))
  · refine J_iload_n (pc' := 37) ok (dOf dX11_mean 22 rfl) rfl rfl rfl ?_
    refine J_aload_n (pc' := 38) ok (dOf dX11_mean 23 rfl) rfl rfl rfl ?_
    refine J_getR (ci := 11) (kf := 5) (C := RX11) (T := TX11) (N := 29) (pc' := 41) ok (dOf dX11_mean 24 rfl) rfl (by decide) rfl (by decide) win_11 wfl_X11_22 (fun a7 => ?_)
    refine J_bipush (v := 47) (pc' := 43) ok (dOf dX11_mean 25 rfl) rfl (by decide) ?_
    refine J_iload_n (pc' := 44) ok (dOf dX11_mean 26 rfl) rfl rfl rfl ?_
    refine J_iadd (pc' := 45) ok (dOf dX11_mean 27 rfl) rfl ?_
    refine J_iald (pc' := 46) ok (dOf dX11_mean 28 rfl) rfl (fun x8 => ?_)
    refine J_iadd (pc' := 47) ok (dOf dX11_mean 29 rfl) rfl ?_
    refine J_istore_n (ls' := [some (.ref v0), some (.int v1), some (.int (s.1 + x8)), some (.int s.2)]) (pc' := 48) ok (dOf dX11_mean 30 rfl) rfl rfl (Nat.le_of_ble_eq_true rfl) rfl rfl ?_
    refine J_iinc (v := s.2 + 1) (ls' := [some (.ref v0), some (.int v1), some (.int (s.1 + x8)), some (.int (s.2 + 1))]) (pc' := 51) ok (dOf dX11_mean 31 rfl) rfl rfl (by rfl) (Nat.le_of_ble_eq_true rfl) rfl rfl ?_
    refine J_goto (tgt := 26) ok (dOf dX11_mean 32 rfl) (by decide) ?_
    exact J_fin (k1 (s.1 + x8, s.2 + 1))
def Mod_mean_j54 (v0 : Nat) (v1 : Int32) (v2 : Int32) (v3 : Int32) (h : AHeap) : Option (Int64 × AHeap) :=
  (chk h v0 11).bind fun _ => bnd2 (Mod_totalOf v0 v1 h) fun x10 h9 => (chk h9 v0 11).bind fun _ => bnd2 (Mod_feesOf v0 v1 h9) fun x12 h11 => (n64 (FP.ddiv (FP.i2d (x10 - x12)) (FP.i2d v2))).bind fun x13 => bnd2 (Jxe99ae_doubleToLongBits x13 h11) fun x15 h14 => some (x15, h14)
theorem Mod_mean_j54_J {E : JE} {l : Launch} {G : GX} {v : Int64} {h' : AHeap} (ok : JOK E l G kMod_mean 0 0 (some (.long v)) h') (v0 : Nat) (v1 : Int32) (v2 : Int32) (v3 : Int32) (h : AHeap) : J E kMod_mean (Mod_mean_j54 v0 v1 v2 v3 h) (fun z => z = (v, h')) 54 [some (.ref v0), some (.int v1), some (.int v2), some (.int v3)] [] h 0 0 := by
  unfold Mod_mean_j54
  refine J_aload_n (pc' := 55) ok (dOf dX11_mean 33 rfl) rfl rfl rfl ?_
  refine J_iload_n (pc' := 56) ok (dOf dX11_mean 34 rfl) rfl rfl rfl ?_
  refine J_callVi (k2 := kMod_totalOf) (ci := 11) (T := TX11) (N := 29) (as := [.int v1]) (pc' := 59) ok (dOf dX11_mean 35 rfl) rfl (cw_Mod_totalOf (by decide) (by decide)) wml_X11_286 winst_X11_totalOf wsel_X11_totalOf rfl ⟨Nat.le_refl 0, Nat.le_refl 0⟩ (Nat.le_of_ble_eq_true rfl) rfl (fun _ _ hf => t_Mod_totalOf hf) (fun x10 h9 => ?_)
  refine J_aload_n (pc' := 60) ok (dOf dX11_mean 36 rfl) rfl rfl rfl ?_
  refine J_iload_n (pc' := 61) ok (dOf dX11_mean 37 rfl) rfl rfl rfl ?_
  refine J_callVi (k2 := kMod_feesOf) (ci := 11) (T := TX11) (N := 29) (as := [.int v1]) (pc' := 64) ok (dOf dX11_mean 38 rfl) rfl (cw_Mod_feesOf (by decide) (by decide)) wml_X11_258 winst_X11_feesOf wsel_X11_feesOf rfl ⟨Nat.le_refl 0, Nat.le_refl 0⟩ (Nat.le_of_ble_eq_true rfl) rfl (fun _ _ hf => t_Mod_feesOf hf) (fun x12 h11 => ?_)
  refine J_isub (pc' := 65) ok (dOf dX11_mean 39 rfl) rfl ?_
  refine J_i2d (pc' := 66) ok (dOf dX11_mean 40 rfl) rfl ?_
  refine J_iload_n (pc' := 67) ok (dOf dX11_mean 41 rfl) rfl rfl rfl ?_
  refine J_i2d (pc' := 68) ok (dOf dX11_mean 42 rfl) rfl ?_
  refine J_ddiv (pc' := 69) ok (dOf dX11_mean 43 rfl) rfl ?_
  refine J_callSl (k2 := kJxe99ae_doubleToLongBits) (as := [.double (FP.ddiv (FP.i2d (x10 - x12)) (FP.i2d v2))]) (pc' := 72) ok (dOf dX11_mean 44 rfl) rfl (cw_Jxe99ae_doubleToLongBits (by decide) (by decide)) wml_X11_331 wstat_Jxe99ae_doubleToLongBits_ccdee ⟨Nat.le_refl 0, Nat.le_refl 0⟩ (Nat.le_of_ble_eq_true rfl) rfl (fun _ _ hf => t_Jxe99ae_doubleToLongBits hf) (fun x15 h14 => ?_)
  exact J_lreturn ok (dOf dX11_mean 45 rfl) rfl (Eq.refl 0) (Nat.le_refl 0)
def Mod_mean (v0 : Nat) (v1 : Int32) (h : AHeap) : Option (Int64 × AHeap) :=
  (chk h v0 11).bind fun _ => bnd2 (Mod_total v0 v1 h) fun x2 h1 => (if x2 = (-1) then Mod_mean_j18 v0 v1 h1 else (gfR h1 v0 11 5).bind fun a3 => (ald 0 h1 a3 2).bind fun x4 => (if ¬ x4 = 0 then (iter (Mod_mean_b26 v0 v1 h1) Lmax (0, 0)).bind (fun (q26 : Int32 × Int32) => Mod_mean_j54 v0 v1 q26.1 q26.2 h1) else Mod_mean_j18 v0 v1 h1))
theorem t_Mod_mean {l : Launch} {G : GX} {v0 : Nat} {v1 : Int32} {h : AHeap} {v : Int64} {h1 : AHeap} (hf : Mod_mean v0 v1 h = some (v, h1)) : CT l G kMod_mean 0 0 [.ref v0, .int v1] h (some (.long v)) h1 := by
  refine CT_of (ls := [some (.ref v0), some (.int v1), none, none]) (Z := fun z => z = (v, h1)) (by decide +kernel) (Nat.le_of_ble_eq_true rfl) hf rfl ⟨rfl, rfl, trivial⟩ (fun E ok => ?_)
  unfold Mod_mean
  refine J_aload_n (pc' := 1) ok (dOf dX11_mean 0 rfl) rfl rfl rfl ?_
  refine J_iload_n (pc' := 2) ok (dOf dX11_mean 1 rfl) rfl rfl rfl ?_
  refine J_callVi (k2 := kMod_total) (ci := 11) (T := TX11) (N := 29) (as := [.int v1]) (pc' := 5) ok (dOf dX11_mean 2 rfl) rfl (cw_Mod_total (by decide) (by decide)) wml_X11_323 winst_X11_total wsel_X11_total rfl ⟨Nat.le_refl 0, Nat.le_refl 0⟩ (Nat.le_of_ble_eq_true rfl) rfl (fun _ _ hf => t_Mod_total hf) (fun x2 h1 => ?_)
  refine J_iconst (v := (-1)) (pc' := 6) ok (dOf dX11_mean 3 rfl) rfl (by decide) ?_
  refine J_icmp_eq (tgt := 18) (pc' := 9) ok (dOf dX11_mean 4 rfl) rfl (by decide) ?_ ?_
  · exact Mod_mean_j18_J ok v0 v1 h1
  · refine J_aload_n (pc' := 10) ok (dOf dX11_mean 5 rfl) rfl rfl rfl ?_
    refine J_getR (ci := 11) (kf := 5) (C := RX11) (T := TX11) (N := 29) (pc' := 13) ok (dOf dX11_mean 6 rfl) rfl (by decide) rfl (by decide) win_11 wfl_X11_22 (fun a3 => ?_)
    refine J_iconst (v := 2) (pc' := 14) ok (dOf dX11_mean 7 rfl) rfl (by decide) ?_
    refine J_iald (pc' := 15) ok (dOf dX11_mean 8 rfl) rfl (fun x4 => ?_)
    refine J_if_ne (tgt := 22) (pc' := 18) ok (dOf dX11_mean 9 rfl) rfl (by decide) ?_ ?_
    · refine J_iconst (v := 0) (pc' := 23) ok (dOf dX11_mean 12 rfl) rfl (by decide) ?_
      refine J_istore_n (ls' := [some (.ref v0), some (.int v1), some (.int 0), none]) (pc' := 24) ok (dOf dX11_mean 13 rfl) rfl rfl (Nat.le_of_ble_eq_true rfl) rfl rfl ?_
      refine J_iconst (v := 0) (pc' := 25) ok (dOf dX11_mean 14 rfl) rfl (by decide) ?_
      refine J_istore_n (ls' := [some (.ref v0), some (.int v1), some (.int 0), some (.int 0)]) (pc' := 26) ok (dOf dX11_mean 15 rfl) rfl rfl (Nat.le_of_ble_eq_true rfl) rfl rfl ?_
      refine J_iter (lf := fun z26 => [some (.ref v0), some (.int v1), some (.int z26.1), some (.int z26.2)]) (sf := fun _ => []) (hf := fun z26 => h1) (px := (fun (q26 : Int32 × Int32) => 54)) (lx := (fun (q26 : Int32 × Int32) => [some (.ref v0), some (.int v1), some (.int q26.1), some (.int q26.2)])) (sx := (fun (q26 : Int32 × Int32) => [])) (hx := (fun (q26 : Int32 × Int32) => h1)) (fun Y2 z26 m1 m2 => Mod_mean_b26_J ok v0 v1 h1 m1 m2 z26) (fun q26 => ?_) Lmax _
      exact Mod_mean_j54_J ok v0 v1 q26.1 q26.2 h1
    · exact Mod_mean_j18_J ok v0 v1 h1
-- X11_would
abbrev kMod_would : Cd := (yX11_would, cX11_would, 7, (some .int), 9, 221)
theorem dX11_would : dcheck cX11_would [(0, .iload_n 1, 1), (1, .iconst 0, 1), (2, .iconst 1, 1), (3, .invokestatic 75, 3), (6, .ifCond .eq 13, 3), (9, .iload_n 2, 1), (10, .iconst 0, 1), (11, .bipush 9, 2), (13, .invokestatic 75, 3), (16, .ifCond .ne 5, 3), (19, .iconst (-1), 1), (20, .ireturn, 1), (21, .aload_n 0, 1), (22, .invokevirtual 172, 3), (25, .iconst 0, 1), (26, .istore_n 3, 1), (27, .iload_n 3, 1), (28, .iconst 4, 1), (29, .if_icmp .ge 21, 3), (32, .aload_n 0, 1), (33, .getfield 63, 3), (36, .iload_n 3, 1), (37, .aload_n 0, 1), (38, .getfield 13, 3), (41, .iload_n 3, 1), (42, .iaload, 1), (43, .iastore, 1), (44, .iinc 3 1, 3), (47, .goto (-20), 3), (50, .aload_n 0, 1), (51, .getfield 13, 3), (54, .iconst 0, 1), (55, .iload_n 1, 1), (56, .iastore, 1), (57, .aload_n 0, 1), (58, .getfield 13, 3), (61, .iconst 1, 1), (62, .iload_n 2, 1), (63, .iastore, 1), (64, .aload_n 0, 1), (65, .getfield 13, 3), (68, .iconst 2, 1), (69, .iconst 0, 1), (70, .iastore, 1), (71, .aload_n 0, 1), (72, .getfield 13, 3), (75, .iconst 3, 1), (76, .bipush 99, 2), (78, .iastore, 1), (79, .aload_n 0, 1), (80, .getfield 22, 3), (83, .bipush 9, 2), (85, .iconst 0, 1), (86, .iastore, 1), (87, .aload_n 0, 1), (88, .invokevirtual 69, 3), (91, .iconst 0, 1), (92, .istore_n 3, 1), (93, .iconst 1, 1), (94, .istore 4, 2), (96, .iload 4, 2), (98, .ifCond .eq 38, 3), (101, .iload_n 3, 1), (102, .bipush 99, 2), (104, .if_icmp .ge 32, 3), (107, .aload_n 0, 1), (108, .getfield 22, 3), (111, .iconst 3, 1), (112, .iaload, 1), (113, .ifCond .ne 23, 3), (116, .aload_n 0, 1), (117, .invokevirtual 297, 3), (120, .ifCond .lt 7, 3), (123, .iconst 1, 1), (124, .goto 4, 3), (127, .iconst 0, 1), (128, .istore 4, 2), (130, .iinc 3 1, 3), (133, .goto (-37), 3), (136, .iload 4, 2), (138, .ifCond .eq 16, 3), (141, .aload_n 0, 1), (142, .getfield 22, 3), (145, .iconst 3, 1), (146, .iaload, 1), (147, .ifCond .eq 7, 3), (150, .iload_n 3, 1), (151, .goto 4, 3), (154, .iconst (-1), 1), (155, .istore 5, 2), (157, .iconst 0, 1), (158, .istore 6, 2), (160, .iload 6, 2), (162, .iconst 4, 1), (163, .if_icmp .ge 23, 3), (166, .aload_n 0, 1), (167, .getfield 13, 3), (170, .iload 6, 2), (172, .aload_n 0, 1), (173, .getfield 63, 3), (176, .iload 6, 2), (178, .iaload, 1), (179, .iastore, 1), (180, .iinc 6 1, 3), (183, .goto (-23), 3), (186, .aload_n 0, 1), (187, .aload_n 0, 1), (188, .getfield 25, 3), (191, .invokevirtual 300, 3), (194, .iload 5, 2), (196, .ireturn, 1)] = true := by decide +kernel
theorem cw_Mod_would {k : Cd} (h1 : kMod_would.2.2.2.2.1 + 1 ≤ k.2.2.2.2.1) (h2 : 8 + (kMod_would.2.2.1 + 11) + kMod_would.2.2.2.2.2 ≤ k.2.2.2.2.2) : Cw k kMod_would 2 := ⟨wcode_X11_would, wini_SplitProgramModel, ⟨by decide, by decide, by decide +kernel⟩, h1, h2⟩
def Mod_would_j19 (v0 : Nat) (v1 : Int32) (v2 : Int32) (h : AHeap) : Option (Int32 × AHeap) :=
  some ((-1), h)
theorem Mod_would_j19_J {E : JE} {l : Launch} {G : GX} {v : Int32} {h' : AHeap} (ok : JOK E l G kMod_would 0 0 (some (.int v)) h') (v0 : Nat) (v1 : Int32) (v2 : Int32) (h : AHeap) : J E kMod_would (Mod_would_j19 v0 v1 v2 h) (fun z => z = (v, h')) 19 [some (.ref v0), some (.int v1), some (.int v2), none, none, none, none] [] h 0 0 := by
  unfold Mod_would_j19
  refine J_iconst (v := (-1)) (pc' := 20) ok (dOf dX11_would 10 rfl) rfl (by decide) ?_
  exact J_ireturn ok (dOf dX11_would 11 rfl) rfl (Eq.refl 0) (Nat.le_refl 0)
def Mod_would_b27 (v0 : Nat) (v1 : Int32) (v2 : Int32) (s : Int32 × AHeap) : Option ((Int32 × AHeap) ⊕ ((Int32 × AHeap))) :=
  (if 4 ≤ s.1 then some (Sum.inr (s.1, s.2)) else (gfR s.2 v0 11 28).bind fun a6 => (gfR s.2 v0 11 2).bind fun a7 => (ald 0 s.2 a7 s.1).bind fun x8 => (ast 0 s.2 a6 s.1 x8).bind fun h9 => some (Sum.inl (s.1 + 1, h9)))
theorem Mod_would_b27_J {E : JE} {l : Launch} {G : GX} {r : Option Value} {h' : AHeap} (ok : JOK E l G kMod_would 0 0 r h') (v0 : Nat) (v1 : Int32) (v2 : Int32) {Y : (Int32 × AHeap) ⊕ ((Int32 × AHeap)) → Prop} (k1 : ∀ s' : Int32 × AHeap, Y (.inl s') → JW E kMod_would 27 [some (.ref v0), some (.int v1), some (.int v2), some (.int s'.1), none, none, none] [] s'.2 0 0) (kx50 : ∀ q : Int32 × AHeap, Y (.inr q) → JW E kMod_would 50 [some (.ref v0), some (.int v1), some (.int v2), some (.int q.1), none, none, none] [] q.2 0 0) (s : Int32 × AHeap) : J E kMod_would (Mod_would_b27 v0 v1 v2 s) Y 27 [some (.ref v0), some (.int v1), some (.int v2), some (.int s.1), none, none, none] [] s.2 0 0 := by
  unfold Mod_would_b27
  refine J_iload_n (pc' := 28) ok (dOf dX11_would 16 rfl) rfl rfl rfl ?_
  refine J_iconst (v := 4) (pc' := 29) ok (dOf dX11_would 17 rfl) rfl (by decide) ?_
  refine J_icmp_ge (tgt := 50) (pc' := 32) ok (dOf dX11_would 18 rfl) rfl (by decide) ?_ ?_
  · exact J_fin (kx50 (s.1, s.2))
  · refine J_aload_n (pc' := 33) ok (dOf dX11_would 19 rfl) rfl rfl rfl ?_
    refine J_getR (ci := 11) (kf := 28) (C := RX11) (T := TX11) (N := 29) (pc' := 36) ok (dOf dX11_would 20 rfl) rfl (by decide) rfl (by decide) win_11 wfl_X11_63 (fun a6 => ?_)
    refine J_iload_n (pc' := 37) ok (dOf dX11_would 21 rfl) rfl rfl rfl ?_
    refine J_aload_n (pc' := 38) ok (dOf dX11_would 22 rfl) rfl rfl rfl ?_
    refine J_getR (ci := 11) (kf := 2) (C := RX11) (T := TX11) (N := 29) (pc' := 41) ok (dOf dX11_would 23 rfl) rfl (by decide) rfl (by decide) win_11 wfl_X11_13 (fun a7 => ?_)
    refine J_iload_n (pc' := 42) ok (dOf dX11_would 24 rfl) rfl rfl rfl ?_
    refine J_iald (pc' := 43) ok (dOf dX11_would 25 rfl) rfl (fun x8 => ?_)
    refine J_iast (pc' := 44) ok (dOf dX11_would 26 rfl) rfl (fun h9 _ => ?_)
    refine J_iinc (v := s.1 + 1) (ls' := [some (.ref v0), some (.int v1), some (.int v2), some (.int (s.1 + 1)), none, none, none]) (pc' := 47) ok (dOf dX11_would 27 rfl) rfl rfl (by rfl) (Nat.le_of_ble_eq_true rfl) rfl rfl ?_
    refine J_goto (tgt := 27) ok (dOf dX11_would 28 rfl) (by decide) ?_
    exact J_fin (k1 (s.1 + 1, h9))
def Mod_would_j128 (v0 : Nat) (v1 : Int32) (v2 : Int32) (v3 : Int32) (v4 : Int32) (t0 : Int32) (h : AHeap) : Option ((Int32 × Int32 × AHeap) ⊕ ((Int32 × Int32 × AHeap))) :=
  some (Sum.inl (v3 + 1, t0, h))
theorem Mod_would_j128_J {E : JE} {l : Launch} {G : GX} {r : Option Value} {h' : AHeap} (ok : JOK E l G kMod_would 0 0 r h') (v0 : Nat) (v1 : Int32) (v2 : Int32) (v3 : Int32) (v4 : Int32) (t0 : Int32) (h : AHeap) {Y : (Int32 × Int32 × AHeap) ⊕ ((Int32 × Int32 × AHeap)) → Prop} (k1 : ∀ s' : Int32 × Int32 × AHeap, Y (.inl s') → JW E kMod_would 96 [some (.ref v0), some (.int v1), some (.int v2), some (.int s'.1), some (.int s'.2.1), none, none] [] s'.2.2 0 0) (kx136 : ∀ q : Int32 × Int32 × AHeap, Y (.inr q) → JW E kMod_would 136 [some (.ref v0), some (.int v1), some (.int v2), some (.int q.1), some (.int q.2.1), none, none] [] q.2.2 0 0) : J E kMod_would (Mod_would_j128 v0 v1 v2 v3 v4 t0 h) Y 128 [some (.ref v0), some (.int v1), some (.int v2), some (.int v3), some (.int v4), none, none] [.int t0] h 0 0 := by
  unfold Mod_would_j128
  refine J_istore (ls' := [some (.ref v0), some (.int v1), some (.int v2), some (.int v3), some (.int t0), none, none]) (pc' := 130) ok (dOf dX11_would 76 rfl) rfl (Nat.le_of_ble_eq_true rfl) rfl rfl ?_
  refine J_iinc (v := v3 + 1) (ls' := [some (.ref v0), some (.int v1), some (.int v2), some (.int (v3 + 1)), some (.int t0), none, none]) (pc' := 133) ok (dOf dX11_would 77 rfl) rfl rfl (by rfl) (Nat.le_of_ble_eq_true rfl) rfl rfl ?_
  refine J_goto (tgt := 96) ok (dOf dX11_would 78 rfl) (by decide) ?_
  exact J_fin (k1 (v3 + 1, t0, h))
def Mod_would_b96 (v0 : Nat) (v1 : Int32) (v2 : Int32) (s : Int32 × Int32 × AHeap) : Option ((Int32 × Int32 × AHeap) ⊕ ((Int32 × Int32 × AHeap))) :=
  (if s.2.1 = 0 then some (Sum.inr (s.1, s.2.1, s.2.2)) else (if 99 ≤ s.1 then some (Sum.inr (s.1, s.2.1, s.2.2)) else (gfR s.2.2 v0 11 5).bind fun a21 => (ald 0 s.2.2 a21 3).bind fun x22 => (if ¬ x22 = 0 then some (Sum.inr (s.1, s.2.1, s.2.2)) else (chk s.2.2 v0 11).bind fun _ => bnd2 (Mod_goesRound v0 s.2.2) fun x24 h23 => (if x24 < 0 then Mod_would_j128 v0 v1 v2 s.1 s.2.1 0 h23 else Mod_would_j128 v0 v1 v2 s.1 s.2.1 1 h23))))
theorem Mod_would_b96_J {E : JE} {l : Launch} {G : GX} {r : Option Value} {h' : AHeap} (ok : JOK E l G kMod_would 0 0 r h') (v0 : Nat) (v1 : Int32) (v2 : Int32) {Y : (Int32 × Int32 × AHeap) ⊕ ((Int32 × Int32 × AHeap)) → Prop} (k1 : ∀ s' : Int32 × Int32 × AHeap, Y (.inl s') → JW E kMod_would 96 [some (.ref v0), some (.int v1), some (.int v2), some (.int s'.1), some (.int s'.2.1), none, none] [] s'.2.2 0 0) (kx136 : ∀ q : Int32 × Int32 × AHeap, Y (.inr q) → JW E kMod_would 136 [some (.ref v0), some (.int v1), some (.int v2), some (.int q.1), some (.int q.2.1), none, none] [] q.2.2 0 0) (s : Int32 × Int32 × AHeap) : J E kMod_would (Mod_would_b96 v0 v1 v2 s) Y 96 [some (.ref v0), some (.int v1), some (.int v2), some (.int s.1), some (.int s.2.1), none, none] [] s.2.2 0 0 := by
  unfold Mod_would_b96
  refine J_iload (pc' := 98) ok (dOf dX11_would 60 rfl) rfl rfl ?_
  refine J_if_eq (tgt := 136) (pc' := 101) ok (dOf dX11_would 61 rfl) rfl (by decide) ?_ ?_
  · exact J_fin (kx136 (s.1, s.2.1, s.2.2))
  · refine J_iload_n (pc' := 102) ok (dOf dX11_would 62 rfl) rfl rfl rfl ?_
    refine J_bipush (v := 99) (pc' := 104) ok (dOf dX11_would 63 rfl) rfl (by decide) ?_
    refine J_icmp_ge (tgt := 136) (pc' := 107) ok (dOf dX11_would 64 rfl) rfl (by decide) ?_ ?_
    · exact J_fin (kx136 (s.1, s.2.1, s.2.2))
    · refine J_aload_n (pc' := 108) ok (dOf dX11_would 65 rfl) rfl rfl rfl ?_
      refine J_getR (ci := 11) (kf := 5) (C := RX11) (T := TX11) (N := 29) (pc' := 111) ok (dOf dX11_would 66 rfl) rfl (by decide) rfl (by decide) win_11 wfl_X11_22 (fun a21 => ?_)
      refine J_iconst (v := 3) (pc' := 112) ok (dOf dX11_would 67 rfl) rfl (by decide) ?_
      refine J_iald (pc' := 113) ok (dOf dX11_would 68 rfl) rfl (fun x22 => ?_)
      refine J_if_ne (tgt := 136) (pc' := 116) ok (dOf dX11_would 69 rfl) rfl (by decide) ?_ ?_
      · exact J_fin (kx136 (s.1, s.2.1, s.2.2))
      · refine J_aload_n (pc' := 117) ok (dOf dX11_would 70 rfl) rfl rfl rfl ?_
        refine J_callVi (k2 := kMod_goesRound) (ci := 11) (T := TX11) (N := 29) (as := []) (pc' := 120) ok (dOf dX11_would 71 rfl) rfl (cw_Mod_goesRound (by decide) (by decide)) wml_X11_297 winst_X11_goesRound wsel_X11_goesRound rfl ⟨Nat.le_refl 0, Nat.le_refl 0⟩ (Nat.le_of_ble_eq_true rfl) rfl (fun _ _ hf => t_Mod_goesRound hf) (fun x24 h23 => ?_)
        refine J_if_lt (tgt := 127) (pc' := 123) ok (dOf dX11_would 72 rfl) rfl (by decide) ?_ ?_
        · refine J_iconst (v := 0) (pc' := 128) ok (dOf dX11_would 75 rfl) rfl (by decide) ?_
          exact Mod_would_j128_J ok v0 v1 v2 s.1 s.2.1 0 h23 k1 kx136
        · refine J_iconst (v := 1) (pc' := 124) ok (dOf dX11_would 73 rfl) rfl (by decide) ?_
          refine J_goto (tgt := 128) ok (dOf dX11_would 74 rfl) (by decide) ?_
          exact Mod_would_j128_J ok v0 v1 v2 s.1 s.2.1 1 h23 k1 kx136
def Mod_would_b160 (v0 : Nat) (v1 : Int32) (v2 : Int32) (v3 : Int32) (v4 : Int32) (v5 : Int32) (s : Int32 × AHeap) : Option ((Int32 × AHeap) ⊕ ((Int32 × AHeap))) :=
  (if 4 ≤ s.1 then some (Sum.inr (s.1, s.2)) else (gfR s.2 v0 11 2).bind fun a25 => (gfR s.2 v0 11 28).bind fun a26 => (ald 0 s.2 a26 s.1).bind fun x27 => (ast 0 s.2 a25 s.1 x27).bind fun h28 => some (Sum.inl (s.1 + 1, h28)))
theorem Mod_would_b160_J {E : JE} {l : Launch} {G : GX} {r : Option Value} {h' : AHeap} (ok : JOK E l G kMod_would 0 0 r h') (v0 : Nat) (v1 : Int32) (v2 : Int32) (v3 : Int32) (v4 : Int32) (v5 : Int32) {Y : (Int32 × AHeap) ⊕ ((Int32 × AHeap)) → Prop} (k1 : ∀ s' : Int32 × AHeap, Y (.inl s') → JW E kMod_would 160 [some (.ref v0), some (.int v1), some (.int v2), some (.int v3), some (.int v4), some (.int v5), some (.int s'.1)] [] s'.2 0 0) (kx186 : ∀ q : Int32 × AHeap, Y (.inr q) → JW E kMod_would 186 [some (.ref v0), some (.int v1), some (.int v2), some (.int v3), some (.int v4), some (.int v5), some (.int q.1)] [] q.2 0 0) (s : Int32 × AHeap) : J E kMod_would (Mod_would_b160 v0 v1 v2 v3 v4 v5 s) Y 160 [some (.ref v0), some (.int v1), some (.int v2), some (.int v3), some (.int v4), some (.int v5), some (.int s.1)] [] s.2 0 0 := by
  unfold Mod_would_b160
  refine J_iload (pc' := 162) ok (dOf dX11_would 92 rfl) rfl rfl ?_
  refine J_iconst (v := 4) (pc' := 163) ok (dOf dX11_would 93 rfl) rfl (by decide) ?_
  refine J_icmp_ge (tgt := 186) (pc' := 166) ok (dOf dX11_would 94 rfl) rfl (by decide) ?_ ?_
  · exact J_fin (kx186 (s.1, s.2))
  · refine J_aload_n (pc' := 167) ok (dOf dX11_would 95 rfl) rfl rfl rfl ?_
    refine J_getR (ci := 11) (kf := 2) (C := RX11) (T := TX11) (N := 29) (pc' := 170) ok (dOf dX11_would 96 rfl) rfl (by decide) rfl (by decide) win_11 wfl_X11_13 (fun a25 => ?_)
    refine J_iload (pc' := 172) ok (dOf dX11_would 97 rfl) rfl rfl ?_
    refine J_aload_n (pc' := 173) ok (dOf dX11_would 98 rfl) rfl rfl rfl ?_
    refine J_getR (ci := 11) (kf := 28) (C := RX11) (T := TX11) (N := 29) (pc' := 176) ok (dOf dX11_would 99 rfl) rfl (by decide) rfl (by decide) win_11 wfl_X11_63 (fun a26 => ?_)
    refine J_iload (pc' := 178) ok (dOf dX11_would 100 rfl) rfl rfl ?_
    refine J_iald (pc' := 179) ok (dOf dX11_would 101 rfl) rfl (fun x27 => ?_)
    refine J_iast (pc' := 180) ok (dOf dX11_would 102 rfl) rfl (fun h28 _ => ?_)
    refine J_iinc (v := s.1 + 1) (ls' := [some (.ref v0), some (.int v1), some (.int v2), some (.int v3), some (.int v4), some (.int v5), some (.int (s.1 + 1))]) (pc' := 183) ok (dOf dX11_would 103 rfl) rfl rfl (by rfl) (Nat.le_of_ble_eq_true rfl) rfl rfl ?_
    refine J_goto (tgt := 160) ok (dOf dX11_would 104 rfl) (by decide) ?_
    exact J_fin (k1 (s.1 + 1, h28))
def Mod_would_j186 (v0 : Nat) (v1 : Int32) (v2 : Int32) (v3 : Int32) (v4 : Int32) (v5 : Int32) (v6 : Int32) (h : AHeap) : Option (Int32 × AHeap) :=
  (gfR h v0 11 6).bind fun a29 => (chk h v0 11).bind fun _ => bnd2 (Mod_comesBack v0 a29 h) fun _ h30 => some (v5, h30)
theorem Mod_would_j186_J {E : JE} {l : Launch} {G : GX} {v : Int32} {h' : AHeap} (ok : JOK E l G kMod_would 0 0 (some (.int v)) h') (v0 : Nat) (v1 : Int32) (v2 : Int32) (v3 : Int32) (v4 : Int32) (v5 : Int32) (v6 : Int32) (h : AHeap) : J E kMod_would (Mod_would_j186 v0 v1 v2 v3 v4 v5 v6 h) (fun z => z = (v, h')) 186 [some (.ref v0), some (.int v1), some (.int v2), some (.int v3), some (.int v4), some (.int v5), some (.int v6)] [] h 0 0 := by
  unfold Mod_would_j186
  refine J_aload_n (pc' := 187) ok (dOf dX11_would 105 rfl) rfl rfl rfl ?_
  refine J_aload_n (pc' := 188) ok (dOf dX11_would 106 rfl) rfl rfl rfl ?_
  refine J_getR (ci := 11) (kf := 6) (C := RX11) (T := TX11) (N := 29) (pc' := 191) ok (dOf dX11_would 107 rfl) rfl (by decide) rfl (by decide) win_11 wfl_X11_25 (fun a29 => ?_)
  refine J_callVv (k2 := kMod_comesBack) (ci := 11) (T := TX11) (N := 29) (as := [.ref a29]) (pc' := 194) ok (dOf dX11_would 108 rfl) rfl (cw_Mod_comesBack (by decide) (by decide)) wml_X11_300 winst_X11_comesBack wsel_X11_comesBack rfl ⟨Nat.le_refl 0, Nat.le_refl 0⟩ (Nat.le_of_ble_eq_true rfl) rfl (fun _ _ hf => t_Mod_comesBack hf) (fun _ h30 => ?_)
  refine J_iload (pc' := 196) ok (dOf dX11_would 109 rfl) rfl rfl ?_
  exact J_ireturn ok (dOf dX11_would 110 rfl) rfl (Eq.refl 0) (Nat.le_refl 0)
def Mod_would_j155 (v0 : Nat) (v1 : Int32) (v2 : Int32) (v3 : Int32) (v4 : Int32) (t0 : Int32) (h : AHeap) : Option (Int32 × AHeap) :=
  (iter (Mod_would_b160 v0 v1 v2 v3 v4 t0) Lmax (0, h)).bind (fun (q160 : Int32 × AHeap) => Mod_would_j186 v0 v1 v2 v3 v4 t0 q160.1 q160.2)
theorem Mod_would_j155_J {E : JE} {l : Launch} {G : GX} {v : Int32} {h' : AHeap} (ok : JOK E l G kMod_would 0 0 (some (.int v)) h') (v0 : Nat) (v1 : Int32) (v2 : Int32) (v3 : Int32) (v4 : Int32) (t0 : Int32) (h : AHeap) : J E kMod_would (Mod_would_j155 v0 v1 v2 v3 v4 t0 h) (fun z => z = (v, h')) 155 [some (.ref v0), some (.int v1), some (.int v2), some (.int v3), some (.int v4), none, none] [.int t0] h 0 0 := by
  unfold Mod_would_j155
  refine J_istore (ls' := [some (.ref v0), some (.int v1), some (.int v2), some (.int v3), some (.int v4), some (.int t0), none]) (pc' := 157) ok (dOf dX11_would 89 rfl) rfl (Nat.le_of_ble_eq_true rfl) rfl rfl ?_
  refine J_iconst (v := 0) (pc' := 158) ok (dOf dX11_would 90 rfl) rfl (by decide) ?_
  refine J_istore (ls' := [some (.ref v0), some (.int v1), some (.int v2), some (.int v3), some (.int v4), some (.int t0), some (.int 0)]) (pc' := 160) ok (dOf dX11_would 91 rfl) rfl (Nat.le_of_ble_eq_true rfl) rfl rfl ?_
  refine J_iter (lf := fun z160 => [some (.ref v0), some (.int v1), some (.int v2), some (.int v3), some (.int v4), some (.int t0), some (.int z160.1)]) (sf := fun _ => []) (hf := fun z160 => z160.2) (px := (fun (q160 : Int32 × AHeap) => 186)) (lx := (fun (q160 : Int32 × AHeap) => [some (.ref v0), some (.int v1), some (.int v2), some (.int v3), some (.int v4), some (.int t0), some (.int q160.1)])) (sx := (fun (q160 : Int32 × AHeap) => [])) (hx := (fun (q160 : Int32 × AHeap) => q160.2)) (fun Y2 z160 m1 m2 => Mod_would_b160_J ok v0 v1 v2 v3 v4 t0 m1 m2 z160) (fun q160 => ?_) Lmax _
  exact Mod_would_j186_J ok v0 v1 v2 v3 v4 t0 q160.1 q160.2
def Mod_would_j154 (v0 : Nat) (v1 : Int32) (v2 : Int32) (v3 : Int32) (v4 : Int32) (h : AHeap) : Option (Int32 × AHeap) :=
  Mod_would_j155 v0 v1 v2 v3 v4 (-1) h
theorem Mod_would_j154_J {E : JE} {l : Launch} {G : GX} {v : Int32} {h' : AHeap} (ok : JOK E l G kMod_would 0 0 (some (.int v)) h') (v0 : Nat) (v1 : Int32) (v2 : Int32) (v3 : Int32) (v4 : Int32) (h : AHeap) : J E kMod_would (Mod_would_j154 v0 v1 v2 v3 v4 h) (fun z => z = (v, h')) 154 [some (.ref v0), some (.int v1), some (.int v2), some (.int v3), some (.int v4), none, none] [] h 0 0 := by
  unfold Mod_would_j154
  refine J_iconst (v := (-1)) (pc' := 155) ok (dOf dX11_would 88 rfl) rfl (by decide) ?_
  exact Mod_would_j155_J ok v0 v1 v2 v3 v4 (-1) h
def Mod_would_j136 (v0 : Nat) (v1 : Int32) (v2 : Int32) (v3 : Int32) (v4 : Int32) (h : AHeap) : Option (Int32 × AHeap) :=
  (if v4 = 0 then Mod_would_j154 v0 v1 v2 v3 v4 h else (gfR h v0 11 5).bind fun a31 => (ald 0 h a31 3).bind fun x32 => (if x32 = 0 then Mod_would_j154 v0 v1 v2 v3 v4 h else Mod_would_j155 v0 v1 v2 v3 v4 v3 h))
theorem Mod_would_j136_J {E : JE} {l : Launch} {G : GX} {v : Int32} {h' : AHeap} (ok : JOK E l G kMod_would 0 0 (some (.int v)) h') (v0 : Nat) (v1 : Int32) (v2 : Int32) (v3 : Int32) (v4 : Int32) (h : AHeap) : J E kMod_would (Mod_would_j136 v0 v1 v2 v3 v4 h) (fun z => z = (v, h')) 136 [some (.ref v0), some (.int v1), some (.int v2), some (.int v3), some (.int v4), none, none] [] h 0 0 := by
  unfold Mod_would_j136
  refine J_iload (pc' := 138) ok (dOf dX11_would 79 rfl) rfl rfl ?_
  refine J_if_eq (tgt := 154) (pc' := 141) ok (dOf dX11_would 80 rfl) rfl (by decide) ?_ ?_
  · exact Mod_would_j154_J ok v0 v1 v2 v3 v4 h
  · refine J_aload_n (pc' := 142) ok (dOf dX11_would 81 rfl) rfl rfl rfl ?_
    refine J_getR (ci := 11) (kf := 5) (C := RX11) (T := TX11) (N := 29) (pc' := 145) ok (dOf dX11_would 82 rfl) rfl (by decide) rfl (by decide) win_11 wfl_X11_22 (fun a31 => ?_)
    refine J_iconst (v := 3) (pc' := 146) ok (dOf dX11_would 83 rfl) rfl (by decide) ?_
    refine J_iald (pc' := 147) ok (dOf dX11_would 84 rfl) rfl (fun x32 => ?_)
    refine J_if_eq (tgt := 154) (pc' := 150) ok (dOf dX11_would 85 rfl) rfl (by decide) ?_ ?_
    · exact Mod_would_j154_J ok v0 v1 v2 v3 v4 h
    · refine J_iload_n (pc' := 151) ok (dOf dX11_would 86 rfl) rfl rfl rfl ?_
      refine J_goto (tgt := 155) ok (dOf dX11_would 87 rfl) (by decide) ?_
      exact Mod_would_j155_J ok v0 v1 v2 v3 v4 v3 h
def Mod_would_j50 (v0 : Nat) (v1 : Int32) (v2 : Int32) (v3 : Int32) (h : AHeap) : Option (Int32 × AHeap) :=
  (gfR h v0 11 2).bind fun a10 => (ast 0 h a10 0 v1).bind fun h11 => (gfR h11 v0 11 2).bind fun a12 => (ast 0 h11 a12 1 v2).bind fun h13 => (gfR h13 v0 11 2).bind fun a14 => (ast 0 h13 a14 2 0).bind fun h15 => (gfR h15 v0 11 2).bind fun a16 => (ast 0 h15 a16 3 99).bind fun h17 => (gfR h17 v0 11 5).bind fun a18 => (ast 0 h17 a18 9 0).bind fun h19 => (chk h19 v0 11).bind fun _ => bnd2 (Mod_forgets v0 h19) fun _ h20 => (iter (Mod_would_b96 v0 v1 v2) Lmax (0, 1, h20)).bind (fun (q96 : Int32 × Int32 × AHeap) => Mod_would_j136 v0 v1 v2 q96.1 q96.2.1 q96.2.2)
theorem Mod_would_j50_J {E : JE} {l : Launch} {G : GX} {v : Int32} {h' : AHeap} (ok : JOK E l G kMod_would 0 0 (some (.int v)) h') (v0 : Nat) (v1 : Int32) (v2 : Int32) (v3 : Int32) (h : AHeap) : J E kMod_would (Mod_would_j50 v0 v1 v2 v3 h) (fun z => z = (v, h')) 50 [some (.ref v0), some (.int v1), some (.int v2), some (.int v3), none, none, none] [] h 0 0 := by
  unfold Mod_would_j50
  refine J_aload_n (pc' := 51) ok (dOf dX11_would 29 rfl) rfl rfl rfl ?_
  refine J_getR (ci := 11) (kf := 2) (C := RX11) (T := TX11) (N := 29) (pc' := 54) ok (dOf dX11_would 30 rfl) rfl (by decide) rfl (by decide) win_11 wfl_X11_13 (fun a10 => ?_)
  refine J_iconst (v := 0) (pc' := 55) ok (dOf dX11_would 31 rfl) rfl (by decide) ?_
  refine J_iload_n (pc' := 56) ok (dOf dX11_would 32 rfl) rfl rfl rfl ?_
  refine J_iast (pc' := 57) ok (dOf dX11_would 33 rfl) rfl (fun h11 _ => ?_)
  refine J_aload_n (pc' := 58) ok (dOf dX11_would 34 rfl) rfl rfl rfl ?_
  refine J_getR (ci := 11) (kf := 2) (C := RX11) (T := TX11) (N := 29) (pc' := 61) ok (dOf dX11_would 35 rfl) rfl (by decide) rfl (by decide) win_11 wfl_X11_13 (fun a12 => ?_)
  refine J_iconst (v := 1) (pc' := 62) ok (dOf dX11_would 36 rfl) rfl (by decide) ?_
  refine J_iload_n (pc' := 63) ok (dOf dX11_would 37 rfl) rfl rfl rfl ?_
  refine J_iast (pc' := 64) ok (dOf dX11_would 38 rfl) rfl (fun h13 _ => ?_)
  refine J_aload_n (pc' := 65) ok (dOf dX11_would 39 rfl) rfl rfl rfl ?_
  refine J_getR (ci := 11) (kf := 2) (C := RX11) (T := TX11) (N := 29) (pc' := 68) ok (dOf dX11_would 40 rfl) rfl (by decide) rfl (by decide) win_11 wfl_X11_13 (fun a14 => ?_)
  refine J_iconst (v := 2) (pc' := 69) ok (dOf dX11_would 41 rfl) rfl (by decide) ?_
  refine J_iconst (v := 0) (pc' := 70) ok (dOf dX11_would 42 rfl) rfl (by decide) ?_
  refine J_iast (pc' := 71) ok (dOf dX11_would 43 rfl) rfl (fun h15 _ => ?_)
  refine J_aload_n (pc' := 72) ok (dOf dX11_would 44 rfl) rfl rfl rfl ?_
  refine J_getR (ci := 11) (kf := 2) (C := RX11) (T := TX11) (N := 29) (pc' := 75) ok (dOf dX11_would 45 rfl) rfl (by decide) rfl (by decide) win_11 wfl_X11_13 (fun a16 => ?_)
  refine J_iconst (v := 3) (pc' := 76) ok (dOf dX11_would 46 rfl) rfl (by decide) ?_
  refine J_bipush (v := 99) (pc' := 78) ok (dOf dX11_would 47 rfl) rfl (by decide) ?_
  refine J_iast (pc' := 79) ok (dOf dX11_would 48 rfl) rfl (fun h17 _ => ?_)
  refine J_aload_n (pc' := 80) ok (dOf dX11_would 49 rfl) rfl rfl rfl ?_
  refine J_getR (ci := 11) (kf := 5) (C := RX11) (T := TX11) (N := 29) (pc' := 83) ok (dOf dX11_would 50 rfl) rfl (by decide) rfl (by decide) win_11 wfl_X11_22 (fun a18 => ?_)
  refine J_bipush (v := 9) (pc' := 85) ok (dOf dX11_would 51 rfl) rfl (by decide) ?_
  refine J_iconst (v := 0) (pc' := 86) ok (dOf dX11_would 52 rfl) rfl (by decide) ?_
  refine J_iast (pc' := 87) ok (dOf dX11_would 53 rfl) rfl (fun h19 _ => ?_)
  refine J_aload_n (pc' := 88) ok (dOf dX11_would 54 rfl) rfl rfl rfl ?_
  refine J_callVv (k2 := kMod_forgets) (ci := 11) (T := TX11) (N := 29) (as := []) (pc' := 91) ok (dOf dX11_would 55 rfl) rfl (cw_Mod_forgets (by decide) (by decide)) wml_X11_69 winst_X11_forgets wsel_X11_forgets rfl ⟨Nat.le_refl 0, Nat.le_refl 0⟩ (Nat.le_of_ble_eq_true rfl) rfl (fun _ _ hf => t_Mod_forgets hf) (fun _ h20 => ?_)
  refine J_iconst (v := 0) (pc' := 92) ok (dOf dX11_would 56 rfl) rfl (by decide) ?_
  refine J_istore_n (ls' := [some (.ref v0), some (.int v1), some (.int v2), some (.int 0), none, none, none]) (pc' := 93) ok (dOf dX11_would 57 rfl) rfl rfl (Nat.le_of_ble_eq_true rfl) rfl rfl ?_
  refine J_iconst (v := 1) (pc' := 94) ok (dOf dX11_would 58 rfl) rfl (by decide) ?_
  refine J_istore (ls' := [some (.ref v0), some (.int v1), some (.int v2), some (.int 0), some (.int 1), none, none]) (pc' := 96) ok (dOf dX11_would 59 rfl) rfl (Nat.le_of_ble_eq_true rfl) rfl rfl ?_
  refine J_iter (lf := fun z96 => [some (.ref v0), some (.int v1), some (.int v2), some (.int z96.1), some (.int z96.2.1), none, none]) (sf := fun _ => []) (hf := fun z96 => z96.2.2) (px := (fun (q96 : Int32 × Int32 × AHeap) => 136)) (lx := (fun (q96 : Int32 × Int32 × AHeap) => [some (.ref v0), some (.int v1), some (.int v2), some (.int q96.1), some (.int q96.2.1), none, none])) (sx := (fun (q96 : Int32 × Int32 × AHeap) => [])) (hx := (fun (q96 : Int32 × Int32 × AHeap) => q96.2.2)) (fun Y2 z96 m1 m2 => Mod_would_b96_J ok v0 v1 v2 m1 m2 z96) (fun q96 => ?_) Lmax _
  exact Mod_would_j136_J ok v0 v1 v2 q96.1 q96.2.1 q96.2.2
def Mod_would (v0 : Nat) (v1 : Int32) (v2 : Int32) (h : AHeap) : Option (Int32 × AHeap) :=
  bnd2 (Mod_isIn v1 0 1 h) fun x2 h1 => (if x2 = 0 then Mod_would_j19 v0 v1 v2 h1 else bnd2 (Mod_isIn v2 0 9 h1) fun x4 h3 => (if ¬ x4 = 0 then (chk h3 v0 11).bind fun _ => bnd2 (Mod_keepsAhead v0 h3) fun _ h5 => (iter (Mod_would_b27 v0 v1 v2) Lmax (0, h5)).bind (fun (q27 : Int32 × AHeap) => Mod_would_j50 v0 v1 v2 q27.1 q27.2) else Mod_would_j19 v0 v1 v2 h3))
theorem t_Mod_would {l : Launch} {G : GX} {v0 : Nat} {v1 : Int32} {v2 : Int32} {h : AHeap} {v : Int32} {h1 : AHeap} (hf : Mod_would v0 v1 v2 h = some (v, h1)) : CT l G kMod_would 0 0 [.ref v0, .int v1, .int v2] h (some (.int v)) h1 := by
  refine CT_of (ls := [some (.ref v0), some (.int v1), some (.int v2), none, none, none, none]) (Z := fun z => z = (v, h1)) (by decide +kernel) (Nat.le_of_ble_eq_true rfl) hf rfl ⟨rfl, rfl, rfl, trivial⟩ (fun E ok => ?_)
  unfold Mod_would
  refine J_iload_n (pc' := 1) ok (dOf dX11_would 0 rfl) rfl rfl rfl ?_
  refine J_iconst (v := 0) (pc' := 2) ok (dOf dX11_would 1 rfl) rfl (by decide) ?_
  refine J_iconst (v := 1) (pc' := 3) ok (dOf dX11_would 2 rfl) rfl (by decide) ?_
  refine J_callSi (k2 := kMod_isIn) (as := [.int v1, .int 0, .int 1]) (pc' := 6) ok (dOf dX11_would 3 rfl) rfl (cw_Mod_isIn (by decide) (by decide)) wml_X11_75 wstat_X11_isIn ⟨Nat.le_refl 0, Nat.le_refl 0⟩ (Nat.le_of_ble_eq_true rfl) rfl (fun _ _ hf => t_Mod_isIn hf) (fun x2 h1 => ?_)
  refine J_if_eq (tgt := 19) (pc' := 9) ok (dOf dX11_would 4 rfl) rfl (by decide) ?_ ?_
  · exact Mod_would_j19_J ok v0 v1 v2 h1
  · refine J_iload_n (pc' := 10) ok (dOf dX11_would 5 rfl) rfl rfl rfl ?_
    refine J_iconst (v := 0) (pc' := 11) ok (dOf dX11_would 6 rfl) rfl (by decide) ?_
    refine J_bipush (v := 9) (pc' := 13) ok (dOf dX11_would 7 rfl) rfl (by decide) ?_
    refine J_callSi (k2 := kMod_isIn) (as := [.int v2, .int 0, .int 9]) (pc' := 16) ok (dOf dX11_would 8 rfl) rfl (cw_Mod_isIn (by decide) (by decide)) wml_X11_75 wstat_X11_isIn ⟨Nat.le_refl 0, Nat.le_refl 0⟩ (Nat.le_of_ble_eq_true rfl) rfl (fun _ _ hf => t_Mod_isIn hf) (fun x4 h3 => ?_)
    refine J_if_ne (tgt := 21) (pc' := 19) ok (dOf dX11_would 9 rfl) rfl (by decide) ?_ ?_
    · refine J_aload_n (pc' := 22) ok (dOf dX11_would 12 rfl) rfl rfl rfl ?_
      refine J_callVv (k2 := kMod_keepsAhead) (ci := 11) (T := TX11) (N := 29) (as := []) (pc' := 25) ok (dOf dX11_would 13 rfl) rfl (cw_Mod_keepsAhead (by decide) (by decide)) wml_X11_172 winst_X11_keepsAhead wsel_X11_keepsAhead rfl ⟨Nat.le_refl 0, Nat.le_refl 0⟩ (Nat.le_of_ble_eq_true rfl) rfl (fun _ _ hf => t_Mod_keepsAhead hf) (fun _ h5 => ?_)
      refine J_iconst (v := 0) (pc' := 26) ok (dOf dX11_would 14 rfl) rfl (by decide) ?_
      refine J_istore_n (ls' := [some (.ref v0), some (.int v1), some (.int v2), some (.int 0), none, none, none]) (pc' := 27) ok (dOf dX11_would 15 rfl) rfl rfl (Nat.le_of_ble_eq_true rfl) rfl rfl ?_
      refine J_iter (lf := fun z27 => [some (.ref v0), some (.int v1), some (.int v2), some (.int z27.1), none, none, none]) (sf := fun _ => []) (hf := fun z27 => z27.2) (px := (fun (q27 : Int32 × AHeap) => 50)) (lx := (fun (q27 : Int32 × AHeap) => [some (.ref v0), some (.int v1), some (.int v2), some (.int q27.1), none, none, none])) (sx := (fun (q27 : Int32 × AHeap) => [])) (hx := (fun (q27 : Int32 × AHeap) => q27.2)) (fun Y2 z27 m1 m2 => Mod_would_b27_J ok v0 v1 v2 m1 m2 z27) (fun q27 => ?_) Lmax _
      exact Mod_would_j50_J ok v0 v1 v2 q27.1 q27.2
    · exact Mod_would_j19_J ok v0 v1 v2 h3
