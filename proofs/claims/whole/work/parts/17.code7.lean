-- X11_plantLine
abbrev kMod_plantLine : Cd := (yX11_plantLine, cX11_plantLine, 4, none, 4, 86)
theorem dX11_plantLine : dcheck cX11_plantLine [(0, .aload_n 0, 1), (1, .getfield 22, 3), (4, .iconst 0, 1), (5, .iaload, 1), (6, .iconst 4, 1), (7, .if_icmp .ne 7, 3), (10, .aload_n 0, 1), (11, .invokevirtual 134, 3), (14, .aload_n 0, 1), (15, .getfield 125, 3), (18, .ifCond .eq 4, 3), (21, .return_, 1), (22, .aload_n 0, 1), (23, .invokevirtual 137, 3), (26, .aload_n 0, 1), (27, .iconst 0, 1), (28, .sipush 999, 3), (31, .invokevirtual 140, 3), (34, .istore_n 1, 1), (35, .aload_n 0, 1), (36, .iconst 1, 1), (37, .bipush 20, 2), (39, .invokevirtual 140, 3), (42, .istore_n 2, 1), (43, .aload_n 0, 1), (44, .iconst 0, 1), (45, .iconst 3, 1), (46, .invokevirtual 140, 3), (49, .istore_n 3, 1), (50, .aload_n 0, 1), (51, .getfield 125, 3), (54, .ifCond .ne 10, 3), (57, .aload_n 0, 1), (58, .iload_n 1, 1), (59, .iload_n 2, 1), (60, .iload_n 3, 1), (61, .invokevirtual 144, 3), (64, .return_, 1)] = true := by decide +kernel
theorem cw_Mod_plantLine {k : Cd} (h1 : kMod_plantLine.2.2.2.2.1 + 1 ≤ k.2.2.2.2.1) (h2 : 8 + (kMod_plantLine.2.2.1 + 11) + kMod_plantLine.2.2.2.2.2 ≤ k.2.2.2.2.2) : Cw k kMod_plantLine 0 := ⟨wcode_X11_plantLine, wini_SplitProgramModel, ⟨by decide, by decide, by decide +kernel⟩, h1, h2⟩
def Mod_plantLine_j64 (v0 : Nat) (v1 : Int32) (v2 : Int32) (v3 : Int32) (h : AHeap) : Option (Unit × AHeap) :=
  some ((), h)
theorem Mod_plantLine_j64_J {E : JE} {l : Launch} {G : GX} {h' : AHeap} (ok : JOK E l G kMod_plantLine 0 0 none h') (v0 : Nat) (v1 : Int32) (v2 : Int32) (v3 : Int32) (h : AHeap) : J E kMod_plantLine (Mod_plantLine_j64 v0 v1 v2 v3 h) (fun z => z = ((), h')) 64 [some (.ref v0), some (.int v1), some (.int v2), some (.int v3)] [] h 0 0 := by
  unfold Mod_plantLine_j64
  exact J_vreturn ok (dOf dX11_plantLine 37 rfl) rfl (Eq.refl 0) (Nat.le_refl 0)
def Mod_plantLine_j14 (v0 : Nat) (h : AHeap) : Option (Unit × AHeap) :=
  (gfI h v0 11 20).bind fun x3 => (if x3 = 0 then (chk h v0 11).bind fun _ => bnd2 (Mod_reads v0 h) fun _ h4 => (chk h4 v0 11).bind fun _ => bnd2 (Mod_number v0 0 999 h4) fun x6 h5 => (chk h5 v0 11).bind fun _ => bnd2 (Mod_number v0 1 20 h5) fun x8 h7 => (chk h7 v0 11).bind fun _ => bnd2 (Mod_number v0 0 3 h7) fun x10 h9 => (gfI h9 v0 11 20).bind fun x11 => (if ¬ x11 = 0 then Mod_plantLine_j64 v0 x6 x8 x10 h9 else (chk h9 v0 11).bind fun _ => bnd2 (Mod_comesPlant v0 x6 x8 x10 h9) fun _ h12 => Mod_plantLine_j64 v0 x6 x8 x10 h12) else some ((), h))
theorem Mod_plantLine_j14_J {E : JE} {l : Launch} {G : GX} {h' : AHeap} (ok : JOK E l G kMod_plantLine 0 0 none h') (v0 : Nat) (h : AHeap) : J E kMod_plantLine (Mod_plantLine_j14 v0 h) (fun z => z = ((), h')) 14 [some (.ref v0), none, none, none] [] h 0 0 := by
  unfold Mod_plantLine_j14
  refine J_aload_n (pc' := 15) ok (dOf dX11_plantLine 8 rfl) rfl rfl rfl ?_
  refine J_getI (ci := 11) (kf := 20) (C := RX11) (T := TX11) (N := 29) (pc' := 18) ok (dOf dX11_plantLine 9 rfl) rfl (by decide) rfl (by decide) win_11 wfl_X11_125 (fun x3 => ?_)
  refine J_if_eq (tgt := 22) (pc' := 21) ok (dOf dX11_plantLine 10 rfl) rfl (by decide) ?_ ?_
  · refine J_aload_n (pc' := 23) ok (dOf dX11_plantLine 12 rfl) rfl rfl rfl ?_
    refine J_callVv (k2 := kMod_reads) (ci := 11) (T := TX11) (N := 29) (as := []) (pc' := 26) ok (dOf dX11_plantLine 13 rfl) rfl (cw_Mod_reads (by decide) (by decide)) wml_X11_137 winst_X11_reads wsel_X11_reads rfl ⟨Nat.le_refl 0, Nat.le_refl 0⟩ (Nat.le_of_ble_eq_true rfl) rfl (fun _ _ hf => t_Mod_reads hf) (fun _ h4 => ?_)
    refine J_aload_n (pc' := 27) ok (dOf dX11_plantLine 14 rfl) rfl rfl rfl ?_
    refine J_iconst (v := 0) (pc' := 28) ok (dOf dX11_plantLine 15 rfl) rfl (by decide) ?_
    refine J_sipush (v := 999) (pc' := 31) ok (dOf dX11_plantLine 16 rfl) rfl (by decide) ?_
    refine J_callVi (k2 := kMod_number) (ci := 11) (T := TX11) (N := 29) (as := [.int 0, .int 999]) (pc' := 34) ok (dOf dX11_plantLine 17 rfl) rfl (cw_Mod_number (by decide) (by decide)) wml_X11_140 winst_X11_number wsel_X11_number rfl ⟨Nat.le_refl 0, Nat.le_refl 0⟩ (Nat.le_of_ble_eq_true rfl) rfl (fun _ _ hf => t_Mod_number hf) (fun x6 h5 => ?_)
    refine J_istore_n (ls' := [some (.ref v0), some (.int x6), none, none]) (pc' := 35) ok (dOf dX11_plantLine 18 rfl) rfl rfl (Nat.le_of_ble_eq_true rfl) rfl rfl ?_
    refine J_aload_n (pc' := 36) ok (dOf dX11_plantLine 19 rfl) rfl rfl rfl ?_
    refine J_iconst (v := 1) (pc' := 37) ok (dOf dX11_plantLine 20 rfl) rfl (by decide) ?_
    refine J_bipush (v := 20) (pc' := 39) ok (dOf dX11_plantLine 21 rfl) rfl (by decide) ?_
    refine J_callVi (k2 := kMod_number) (ci := 11) (T := TX11) (N := 29) (as := [.int 1, .int 20]) (pc' := 42) ok (dOf dX11_plantLine 22 rfl) rfl (cw_Mod_number (by decide) (by decide)) wml_X11_140 winst_X11_number wsel_X11_number rfl ⟨Nat.le_refl 0, Nat.le_refl 0⟩ (Nat.le_of_ble_eq_true rfl) rfl (fun _ _ hf => t_Mod_number hf) (fun x8 h7 => ?_)
    refine J_istore_n (ls' := [some (.ref v0), some (.int x6), some (.int x8), none]) (pc' := 43) ok (dOf dX11_plantLine 23 rfl) rfl rfl (Nat.le_of_ble_eq_true rfl) rfl rfl ?_
    refine J_aload_n (pc' := 44) ok (dOf dX11_plantLine 24 rfl) rfl rfl rfl ?_
    refine J_iconst (v := 0) (pc' := 45) ok (dOf dX11_plantLine 25 rfl) rfl (by decide) ?_
    refine J_iconst (v := 3) (pc' := 46) ok (dOf dX11_plantLine 26 rfl) rfl (by decide) ?_
    refine J_callVi (k2 := kMod_number) (ci := 11) (T := TX11) (N := 29) (as := [.int 0, .int 3]) (pc' := 49) ok (dOf dX11_plantLine 27 rfl) rfl (cw_Mod_number (by decide) (by decide)) wml_X11_140 winst_X11_number wsel_X11_number rfl ⟨Nat.le_refl 0, Nat.le_refl 0⟩ (Nat.le_of_ble_eq_true rfl) rfl (fun _ _ hf => t_Mod_number hf) (fun x10 h9 => ?_)
    refine J_istore_n (ls' := [some (.ref v0), some (.int x6), some (.int x8), some (.int x10)]) (pc' := 50) ok (dOf dX11_plantLine 28 rfl) rfl rfl (Nat.le_of_ble_eq_true rfl) rfl rfl ?_
    refine J_aload_n (pc' := 51) ok (dOf dX11_plantLine 29 rfl) rfl rfl rfl ?_
    refine J_getI (ci := 11) (kf := 20) (C := RX11) (T := TX11) (N := 29) (pc' := 54) ok (dOf dX11_plantLine 30 rfl) rfl (by decide) rfl (by decide) win_11 wfl_X11_125 (fun x11 => ?_)
    refine J_if_ne (tgt := 64) (pc' := 57) ok (dOf dX11_plantLine 31 rfl) rfl (by decide) ?_ ?_
    · exact Mod_plantLine_j64_J ok v0 x6 x8 x10 h9
    · refine J_aload_n (pc' := 58) ok (dOf dX11_plantLine 32 rfl) rfl rfl rfl ?_
      refine J_iload_n (pc' := 59) ok (dOf dX11_plantLine 33 rfl) rfl rfl rfl ?_
      refine J_iload_n (pc' := 60) ok (dOf dX11_plantLine 34 rfl) rfl rfl rfl ?_
      refine J_iload_n (pc' := 61) ok (dOf dX11_plantLine 35 rfl) rfl rfl rfl ?_
      refine J_callVv (k2 := kMod_comesPlant) (ci := 11) (T := TX11) (N := 29) (as := [.int x6, .int x8, .int x10]) (pc' := 64) ok (dOf dX11_plantLine 36 rfl) rfl (cw_Mod_comesPlant (by decide) (by decide)) wml_X11_144 winst_X11_comesPlant wsel_X11_comesPlant rfl ⟨Nat.le_refl 0, Nat.le_refl 0⟩ (Nat.le_of_ble_eq_true rfl) rfl (fun _ _ hf => t_Mod_comesPlant hf) (fun _ h12 => ?_)
      exact Mod_plantLine_j64_J ok v0 x6 x8 x10 h12
  · exact J_vreturn ok (dOf dX11_plantLine 11 rfl) rfl (Eq.refl 0) (Nat.le_refl 0)
def Mod_plantLine (v0 : Nat) (h : AHeap) : Option (Unit × AHeap) :=
  (gfR h v0 11 5).bind fun a1 => (ald 0 h a1 0).bind fun x2 => (if ¬ x2 = 4 then Mod_plantLine_j14 v0 h else (chk h v0 11).bind fun _ => bnd2 (Mod_wrong v0 h) fun _ h13 => Mod_plantLine_j14 v0 h13)
theorem t_Mod_plantLine {l : Launch} {G : GX} {v0 : Nat} {h : AHeap} {h1 : AHeap} (hf : Mod_plantLine v0 h = some ((), h1)) : CT l G kMod_plantLine 0 0 [.ref v0] h none h1 := by
  refine CT_of (ls := [some (.ref v0), none, none, none]) (Z := fun z => z = ((), h1)) (by decide +kernel) (Nat.le_of_ble_eq_true rfl) hf rfl ⟨rfl, trivial⟩ (fun E ok => ?_)
  unfold Mod_plantLine
  refine J_aload_n (pc' := 1) ok (dOf dX11_plantLine 0 rfl) rfl rfl rfl ?_
  refine J_getR (ci := 11) (kf := 5) (C := RX11) (T := TX11) (N := 29) (pc' := 4) ok (dOf dX11_plantLine 1 rfl) rfl (by decide) rfl (by decide) win_11 wfl_X11_22 (fun a1 => ?_)
  refine J_iconst (v := 0) (pc' := 5) ok (dOf dX11_plantLine 2 rfl) rfl (by decide) ?_
  refine J_iald (pc' := 6) ok (dOf dX11_plantLine 3 rfl) rfl (fun x2 => ?_)
  refine J_iconst (v := 4) (pc' := 7) ok (dOf dX11_plantLine 4 rfl) rfl (by decide) ?_
  refine J_icmp_ne (tgt := 14) (pc' := 10) ok (dOf dX11_plantLine 5 rfl) rfl (by decide) ?_ ?_
  · exact Mod_plantLine_j14_J ok v0 h
  · refine J_aload_n (pc' := 11) ok (dOf dX11_plantLine 6 rfl) rfl rfl rfl ?_
    refine J_callVv (k2 := kMod_wrong) (ci := 11) (T := TX11) (N := 29) (as := []) (pc' := 14) ok (dOf dX11_plantLine 7 rfl) rfl (cw_Mod_wrong (by decide) (by decide)) wml_X11_134 winst_X11_wrong wsel_X11_wrong rfl ⟨Nat.le_refl 0, Nat.le_refl 0⟩ (Nat.le_of_ble_eq_true rfl) rfl (fun _ _ hf => t_Mod_wrong hf) (fun _ h13 => ?_)
    exact Mod_plantLine_j14_J ok v0 h13
-- X11_toll
abbrev kMod_toll : Cd := (yX11_toll, cX11_toll, 3, (some .int), 0, 0)
theorem dX11_toll : dcheck cX11_toll [(0, .aload_n 0, 1), (1, .getfield 22, 3), (4, .bipush 23, 2), (6, .bipush 6, 2), (8, .iload_n 1, 1), (9, .imul, 1), (10, .iadd, 1), (11, .iload_n 2, 1), (12, .iadd, 1), (13, .iaload, 1), (14, .ireturn, 1)] = true := by decide +kernel
theorem cw_Mod_toll {k : Cd} (h1 : kMod_toll.2.2.2.2.1 + 1 ≤ k.2.2.2.2.1) (h2 : 8 + (kMod_toll.2.2.1 + 11) + kMod_toll.2.2.2.2.2 ≤ k.2.2.2.2.2) : Cw k kMod_toll 2 := ⟨wcode_X11_toll, wini_SplitProgramModel, ⟨by decide, by decide, by decide +kernel⟩, h1, h2⟩
def Mod_toll (v0 : Nat) (v1 : Int32) (v2 : Int32) (h : AHeap) : Option (Int32 × AHeap) :=
  (gfR h v0 11 5).bind fun a1 => (ald 0 h a1 ((23 + (6 * v1)) + v2)).bind fun x2 => some (x2, h)
theorem t_Mod_toll {l : Launch} {G : GX} {v0 : Nat} {v1 : Int32} {v2 : Int32} {h : AHeap} {v : Int32} {h1 : AHeap} (hf : Mod_toll v0 v1 v2 h = some (v, h1)) : CT l G kMod_toll 0 0 [.ref v0, .int v1, .int v2] h (some (.int v)) h1 := by
  refine CT_of (ls := [some (.ref v0), some (.int v1), some (.int v2)]) (Z := fun z => z = (v, h1)) (by decide +kernel) (Nat.le_of_ble_eq_true rfl) hf rfl ⟨rfl, rfl, rfl, trivial⟩ (fun E ok => ?_)
  unfold Mod_toll
  refine J_aload_n (pc' := 1) ok (dOf dX11_toll 0 rfl) rfl rfl rfl ?_
  refine J_getR (ci := 11) (kf := 5) (C := RX11) (T := TX11) (N := 29) (pc' := 4) ok (dOf dX11_toll 1 rfl) rfl (by decide) rfl (by decide) win_11 wfl_X11_22 (fun a1 => ?_)
  refine J_bipush (v := 23) (pc' := 6) ok (dOf dX11_toll 2 rfl) rfl (by decide) ?_
  refine J_bipush (v := 6) (pc' := 8) ok (dOf dX11_toll 3 rfl) rfl (by decide) ?_
  refine J_iload_n (pc' := 9) ok (dOf dX11_toll 4 rfl) rfl rfl rfl ?_
  refine J_imul (pc' := 10) ok (dOf dX11_toll 5 rfl) rfl ?_
  refine J_iadd (pc' := 11) ok (dOf dX11_toll 6 rfl) rfl ?_
  refine J_iload_n (pc' := 12) ok (dOf dX11_toll 7 rfl) rfl rfl rfl ?_
  refine J_iadd (pc' := 13) ok (dOf dX11_toll 8 rfl) rfl ?_
  refine J_iald (pc' := 14) ok (dOf dX11_toll 9 rfl) rfl (fun x2 => ?_)
  exact J_ireturn ok (dOf dX11_toll 10 rfl) rfl (Eq.refl 0) (Nat.le_refl 0)
-- X11_roadLine
abbrev kMod_roadLine : Cd := (yX11_roadLine, cX11_roadLine, 5, none, 4, 86)
theorem dX11_roadLine : dcheck cX11_roadLine [(0, .aload_n 0, 1), (1, .invokevirtual 137, 3), (4, .aload_n 0, 1), (5, .iconst 0, 1), (6, .aload_n 0, 1), (7, .getfield 22, 3), (10, .iconst 0, 1), (11, .iaload, 1), (12, .iconst 1, 1), (13, .isub, 1), (14, .invokevirtual 140, 3), (17, .istore_n 1, 1), (18, .aload_n 0, 1), (19, .getfield 125, 3), (22, .ifCond .eq 4, 3), (25, .return_, 1), (26, .aload_n 0, 1), (27, .getfield 102, 3), (30, .istore_n 2, 1), (31, .aload_n 0, 1), (32, .iconst 0, 1), (33, .aload_n 0, 1), (34, .getfield 22, 3), (37, .iconst 1, 1), (38, .iaload, 1), (39, .iconst 1, 1), (40, .isub, 1), (41, .invokevirtual 140, 3), (44, .istore_n 3, 1), (45, .aload_n 0, 1), (46, .getfield 125, 3), (49, .ifCond .ne 23, 3), (52, .aload_n 0, 1), (53, .iload_n 1, 1), (54, .iload_n 3, 1), (55, .invokevirtual 148, 3), (58, .iconst (-1), 1), (59, .if_icmp .eq 13, 3), (62, .aload_n 0, 1), (63, .iload_n 2, 1), (64, .putfield 34, 3), (67, .aload_n 0, 1), (68, .iconst 1, 1), (69, .putfield 125, 3), (72, .aload_n 0, 1), (73, .iconst 0, 1), (74, .bipush 99, 2), (76, .invokevirtual 140, 3), (79, .istore 4, 2), (81, .aload_n 0, 1), (82, .getfield 125, 3), (85, .ifCond .ne 19, 3), (88, .aload_n 0, 1), (89, .getfield 22, 3), (92, .bipush 23, 2), (94, .bipush 6, 2), (96, .iload_n 1, 1), (97, .imul, 1), (98, .iadd, 1), (99, .iload_n 3, 1), (100, .iadd, 1), (101, .iload 4, 2), (103, .iastore, 1), (104, .return_, 1)] = true := by decide +kernel
theorem cw_Mod_roadLine {k : Cd} (h1 : kMod_roadLine.2.2.2.2.1 + 1 ≤ k.2.2.2.2.1) (h2 : 8 + (kMod_roadLine.2.2.1 + 11) + kMod_roadLine.2.2.2.2.2 ≤ k.2.2.2.2.2) : Cw k kMod_roadLine 0 := ⟨wcode_X11_roadLine, wini_SplitProgramModel, ⟨by decide, by decide, by decide +kernel⟩, h1, h2⟩
def Mod_roadLine_j104 (v0 : Nat) (v1 : Int32) (v2 : Int32) (v3 : Int32) (v4 : Int32) (h : AHeap) : Option (Unit × AHeap) :=
  some ((), h)
theorem Mod_roadLine_j104_J {E : JE} {l : Launch} {G : GX} {h' : AHeap} (ok : JOK E l G kMod_roadLine 0 0 none h') (v0 : Nat) (v1 : Int32) (v2 : Int32) (v3 : Int32) (v4 : Int32) (h : AHeap) : J E kMod_roadLine (Mod_roadLine_j104 v0 v1 v2 v3 v4 h) (fun z => z = ((), h')) 104 [some (.ref v0), some (.int v1), some (.int v2), some (.int v3), some (.int v4)] [] h 0 0 := by
  unfold Mod_roadLine_j104
  exact J_vreturn ok (dOf dX11_roadLine 63 rfl) rfl (Eq.refl 0) (Nat.le_refl 0)
def Mod_roadLine_j72 (v0 : Nat) (v1 : Int32) (v2 : Int32) (v3 : Int32) (h : AHeap) : Option (Unit × AHeap) :=
  (chk h v0 11).bind fun _ => bnd2 (Mod_number v0 0 99 h) fun x14 h13 => (gfI h13 v0 11 20).bind fun x15 => (if ¬ x15 = 0 then Mod_roadLine_j104 v0 v1 v2 v3 x14 h13 else (gfR h13 v0 11 5).bind fun a16 => (ast 0 h13 a16 ((23 + (6 * v1)) + v3) x14).bind fun h17 => Mod_roadLine_j104 v0 v1 v2 v3 x14 h17)
theorem Mod_roadLine_j72_J {E : JE} {l : Launch} {G : GX} {h' : AHeap} (ok : JOK E l G kMod_roadLine 0 0 none h') (v0 : Nat) (v1 : Int32) (v2 : Int32) (v3 : Int32) (h : AHeap) : J E kMod_roadLine (Mod_roadLine_j72 v0 v1 v2 v3 h) (fun z => z = ((), h')) 72 [some (.ref v0), some (.int v1), some (.int v2), some (.int v3), none] [] h 0 0 := by
  unfold Mod_roadLine_j72
  refine J_aload_n (pc' := 73) ok (dOf dX11_roadLine 44 rfl) rfl rfl rfl ?_
  refine J_iconst (v := 0) (pc' := 74) ok (dOf dX11_roadLine 45 rfl) rfl (by decide) ?_
  refine J_bipush (v := 99) (pc' := 76) ok (dOf dX11_roadLine 46 rfl) rfl (by decide) ?_
  refine J_callVi (k2 := kMod_number) (ci := 11) (T := TX11) (N := 29) (as := [.int 0, .int 99]) (pc' := 79) ok (dOf dX11_roadLine 47 rfl) rfl (cw_Mod_number (by decide) (by decide)) wml_X11_140 winst_X11_number wsel_X11_number rfl ⟨Nat.le_refl 0, Nat.le_refl 0⟩ (Nat.le_of_ble_eq_true rfl) rfl (fun _ _ hf => t_Mod_number hf) (fun x14 h13 => ?_)
  refine J_istore (ls' := [some (.ref v0), some (.int v1), some (.int v2), some (.int v3), some (.int x14)]) (pc' := 81) ok (dOf dX11_roadLine 48 rfl) rfl (Nat.le_of_ble_eq_true rfl) rfl rfl ?_
  refine J_aload_n (pc' := 82) ok (dOf dX11_roadLine 49 rfl) rfl rfl rfl ?_
  refine J_getI (ci := 11) (kf := 20) (C := RX11) (T := TX11) (N := 29) (pc' := 85) ok (dOf dX11_roadLine 50 rfl) rfl (by decide) rfl (by decide) win_11 wfl_X11_125 (fun x15 => ?_)
  refine J_if_ne (tgt := 104) (pc' := 88) ok (dOf dX11_roadLine 51 rfl) rfl (by decide) ?_ ?_
  · exact Mod_roadLine_j104_J ok v0 v1 v2 v3 x14 h13
  · refine J_aload_n (pc' := 89) ok (dOf dX11_roadLine 52 rfl) rfl rfl rfl ?_
    refine J_getR (ci := 11) (kf := 5) (C := RX11) (T := TX11) (N := 29) (pc' := 92) ok (dOf dX11_roadLine 53 rfl) rfl (by decide) rfl (by decide) win_11 wfl_X11_22 (fun a16 => ?_)
    refine J_bipush (v := 23) (pc' := 94) ok (dOf dX11_roadLine 54 rfl) rfl (by decide) ?_
    refine J_bipush (v := 6) (pc' := 96) ok (dOf dX11_roadLine 55 rfl) rfl (by decide) ?_
    refine J_iload_n (pc' := 97) ok (dOf dX11_roadLine 56 rfl) rfl rfl rfl ?_
    refine J_imul (pc' := 98) ok (dOf dX11_roadLine 57 rfl) rfl ?_
    refine J_iadd (pc' := 99) ok (dOf dX11_roadLine 58 rfl) rfl ?_
    refine J_iload_n (pc' := 100) ok (dOf dX11_roadLine 59 rfl) rfl rfl rfl ?_
    refine J_iadd (pc' := 101) ok (dOf dX11_roadLine 60 rfl) rfl ?_
    refine J_iload (pc' := 103) ok (dOf dX11_roadLine 61 rfl) rfl rfl ?_
    refine J_iast (pc' := 104) ok (dOf dX11_roadLine 62 rfl) rfl (fun h17 _ => ?_)
    exact Mod_roadLine_j104_J ok v0 v1 v2 v3 x14 h17
def Mod_roadLine (v0 : Nat) (h : AHeap) : Option (Unit × AHeap) :=
  (chk h v0 11).bind fun _ => bnd2 (Mod_reads v0 h) fun _ h1 => (gfR h1 v0 11 5).bind fun a2 => (ald 0 h1 a2 0).bind fun x3 => (chk h1 v0 11).bind fun _ => bnd2 (Mod_number v0 0 (x3 - 1) h1) fun x5 h4 => (gfI h4 v0 11 20).bind fun x6 => (if x6 = 0 then (gfI h4 v0 11 18).bind fun x7 => (gfR h4 v0 11 5).bind fun a8 => (ald 0 h4 a8 1).bind fun x9 => (chk h4 v0 11).bind fun _ => bnd2 (Mod_number v0 0 (x9 - 1) h4) fun x11 h10 => (gfI h10 v0 11 20).bind fun x12 => (if ¬ x12 = 0 then Mod_roadLine_j72 v0 x5 x7 x11 h10 else (chk h10 v0 11).bind fun _ => bnd2 (Mod_toll v0 x5 x11 h10) fun x19 h18 => (if x19 = (-1) then Mod_roadLine_j72 v0 x5 x7 x11 h18 else (pfV h18 v0 11 10 (.int x7)).bind fun h20 => (bz 1).bind fun x22 => (pfV h20 v0 11 20 (.int x22)).bind fun h21 => Mod_roadLine_j72 v0 x5 x7 x11 h21)) else some ((), h4))
theorem t_Mod_roadLine {l : Launch} {G : GX} {v0 : Nat} {h : AHeap} {h1 : AHeap} (hf : Mod_roadLine v0 h = some ((), h1)) : CT l G kMod_roadLine 0 0 [.ref v0] h none h1 := by
  refine CT_of (ls := [some (.ref v0), none, none, none, none]) (Z := fun z => z = ((), h1)) (by decide +kernel) (Nat.le_of_ble_eq_true rfl) hf rfl ⟨rfl, trivial⟩ (fun E ok => ?_)
  unfold Mod_roadLine
  refine J_aload_n (pc' := 1) ok (dOf dX11_roadLine 0 rfl) rfl rfl rfl ?_
  refine J_callVv (k2 := kMod_reads) (ci := 11) (T := TX11) (N := 29) (as := []) (pc' := 4) ok (dOf dX11_roadLine 1 rfl) rfl (cw_Mod_reads (by decide) (by decide)) wml_X11_137 winst_X11_reads wsel_X11_reads rfl ⟨Nat.le_refl 0, Nat.le_refl 0⟩ (Nat.le_of_ble_eq_true rfl) rfl (fun _ _ hf => t_Mod_reads hf) (fun _ h1 => ?_)
  refine J_aload_n (pc' := 5) ok (dOf dX11_roadLine 2 rfl) rfl rfl rfl ?_
  refine J_iconst (v := 0) (pc' := 6) ok (dOf dX11_roadLine 3 rfl) rfl (by decide) ?_
  refine J_aload_n (pc' := 7) ok (dOf dX11_roadLine 4 rfl) rfl rfl rfl ?_
  refine J_getR (ci := 11) (kf := 5) (C := RX11) (T := TX11) (N := 29) (pc' := 10) ok (dOf dX11_roadLine 5 rfl) rfl (by decide) rfl (by decide) win_11 wfl_X11_22 (fun a2 => ?_)
  refine J_iconst (v := 0) (pc' := 11) ok (dOf dX11_roadLine 6 rfl) rfl (by decide) ?_
  refine J_iald (pc' := 12) ok (dOf dX11_roadLine 7 rfl) rfl (fun x3 => ?_)
  refine J_iconst (v := 1) (pc' := 13) ok (dOf dX11_roadLine 8 rfl) rfl (by decide) ?_
  refine J_isub (pc' := 14) ok (dOf dX11_roadLine 9 rfl) rfl ?_
  refine J_callVi (k2 := kMod_number) (ci := 11) (T := TX11) (N := 29) (as := [.int 0, .int (x3 - 1)]) (pc' := 17) ok (dOf dX11_roadLine 10 rfl) rfl (cw_Mod_number (by decide) (by decide)) wml_X11_140 winst_X11_number wsel_X11_number rfl ⟨Nat.le_refl 0, Nat.le_refl 0⟩ (Nat.le_of_ble_eq_true rfl) rfl (fun _ _ hf => t_Mod_number hf) (fun x5 h4 => ?_)
  refine J_istore_n (ls' := [some (.ref v0), some (.int x5), none, none, none]) (pc' := 18) ok (dOf dX11_roadLine 11 rfl) rfl rfl (Nat.le_of_ble_eq_true rfl) rfl rfl ?_
  refine J_aload_n (pc' := 19) ok (dOf dX11_roadLine 12 rfl) rfl rfl rfl ?_
  refine J_getI (ci := 11) (kf := 20) (C := RX11) (T := TX11) (N := 29) (pc' := 22) ok (dOf dX11_roadLine 13 rfl) rfl (by decide) rfl (by decide) win_11 wfl_X11_125 (fun x6 => ?_)
  refine J_if_eq (tgt := 26) (pc' := 25) ok (dOf dX11_roadLine 14 rfl) rfl (by decide) ?_ ?_
  · refine J_aload_n (pc' := 27) ok (dOf dX11_roadLine 16 rfl) rfl rfl rfl ?_
    refine J_getI (ci := 11) (kf := 18) (C := RX11) (T := TX11) (N := 29) (pc' := 30) ok (dOf dX11_roadLine 17 rfl) rfl (by decide) rfl (by decide) win_11 wfl_X11_102 (fun x7 => ?_)
    refine J_istore_n (ls' := [some (.ref v0), some (.int x5), some (.int x7), none, none]) (pc' := 31) ok (dOf dX11_roadLine 18 rfl) rfl rfl (Nat.le_of_ble_eq_true rfl) rfl rfl ?_
    refine J_aload_n (pc' := 32) ok (dOf dX11_roadLine 19 rfl) rfl rfl rfl ?_
    refine J_iconst (v := 0) (pc' := 33) ok (dOf dX11_roadLine 20 rfl) rfl (by decide) ?_
    refine J_aload_n (pc' := 34) ok (dOf dX11_roadLine 21 rfl) rfl rfl rfl ?_
    refine J_getR (ci := 11) (kf := 5) (C := RX11) (T := TX11) (N := 29) (pc' := 37) ok (dOf dX11_roadLine 22 rfl) rfl (by decide) rfl (by decide) win_11 wfl_X11_22 (fun a8 => ?_)
    refine J_iconst (v := 1) (pc' := 38) ok (dOf dX11_roadLine 23 rfl) rfl (by decide) ?_
    refine J_iald (pc' := 39) ok (dOf dX11_roadLine 24 rfl) rfl (fun x9 => ?_)
    refine J_iconst (v := 1) (pc' := 40) ok (dOf dX11_roadLine 25 rfl) rfl (by decide) ?_
    refine J_isub (pc' := 41) ok (dOf dX11_roadLine 26 rfl) rfl ?_
    refine J_callVi (k2 := kMod_number) (ci := 11) (T := TX11) (N := 29) (as := [.int 0, .int (x9 - 1)]) (pc' := 44) ok (dOf dX11_roadLine 27 rfl) rfl (cw_Mod_number (by decide) (by decide)) wml_X11_140 winst_X11_number wsel_X11_number rfl ⟨Nat.le_refl 0, Nat.le_refl 0⟩ (Nat.le_of_ble_eq_true rfl) rfl (fun _ _ hf => t_Mod_number hf) (fun x11 h10 => ?_)
    refine J_istore_n (ls' := [some (.ref v0), some (.int x5), some (.int x7), some (.int x11), none]) (pc' := 45) ok (dOf dX11_roadLine 28 rfl) rfl rfl (Nat.le_of_ble_eq_true rfl) rfl rfl ?_
    refine J_aload_n (pc' := 46) ok (dOf dX11_roadLine 29 rfl) rfl rfl rfl ?_
    refine J_getI (ci := 11) (kf := 20) (C := RX11) (T := TX11) (N := 29) (pc' := 49) ok (dOf dX11_roadLine 30 rfl) rfl (by decide) rfl (by decide) win_11 wfl_X11_125 (fun x12 => ?_)
    refine J_if_ne (tgt := 72) (pc' := 52) ok (dOf dX11_roadLine 31 rfl) rfl (by decide) ?_ ?_
    · exact Mod_roadLine_j72_J ok v0 x5 x7 x11 h10
    · refine J_aload_n (pc' := 53) ok (dOf dX11_roadLine 32 rfl) rfl rfl rfl ?_
      refine J_iload_n (pc' := 54) ok (dOf dX11_roadLine 33 rfl) rfl rfl rfl ?_
      refine J_iload_n (pc' := 55) ok (dOf dX11_roadLine 34 rfl) rfl rfl rfl ?_
      refine J_callVi (k2 := kMod_toll) (ci := 11) (T := TX11) (N := 29) (as := [.int x5, .int x11]) (pc' := 58) ok (dOf dX11_roadLine 35 rfl) rfl (cw_Mod_toll (by decide) (by decide)) wml_X11_148 winst_X11_toll wsel_X11_toll rfl ⟨Nat.le_refl 0, Nat.le_refl 0⟩ (Nat.le_of_ble_eq_true rfl) rfl (fun _ _ hf => t_Mod_toll hf) (fun x19 h18 => ?_)
      refine J_iconst (v := (-1)) (pc' := 59) ok (dOf dX11_roadLine 36 rfl) rfl (by decide) ?_
      refine J_icmp_eq (tgt := 72) (pc' := 62) ok (dOf dX11_roadLine 37 rfl) rfl (by decide) ?_ ?_
      · exact Mod_roadLine_j72_J ok v0 x5 x7 x11 h18
      · refine J_aload_n (pc' := 63) ok (dOf dX11_roadLine 38 rfl) rfl rfl rfl ?_
        refine J_iload_n (pc' := 64) ok (dOf dX11_roadLine 39 rfl) rfl rfl rfl ?_
        refine J_putI (ci := 11) (kf := 10) (C := RX11) (T := TX11) (N := 29) (pc' := 67) ok tyX11 (dOf dX11_roadLine 40 rfl) rfl rfl (by decide) win_11 tyX11_ok nmX11 rfl rfl wfl_X11_34 (fun h20 _ => ?_)
        refine J_aload_n (pc' := 68) ok (dOf dX11_roadLine 41 rfl) rfl rfl rfl ?_
        refine J_iconst (v := 1) (pc' := 69) ok (dOf dX11_roadLine 42 rfl) rfl (by decide) ?_
        refine J_putZ (ci := 11) (kf := 20) (C := RX11) (T := TX11) (N := 29) (pc' := 72) ok tyX11 (dOf dX11_roadLine 43 rfl) rfl rfl (by decide) win_11 tyX11_ok nmX11 rfl rfl wfl_X11_125 (fun h21 _ => ?_)
        exact Mod_roadLine_j72_J ok v0 x5 x7 x11 h21
  · exact J_vreturn ok (dOf dX11_roadLine 15 rfl) rfl (Eq.refl 0) (Nat.le_refl 0)
-- X11_caseLine
abbrev kMod_caseLine : Cd := (yX11_caseLine, cX11_caseLine, 3, none, 4, 86)
theorem dX11_caseLine : dcheck cX11_caseLine [(0, .aload_n 0, 1), (1, .getfield 22, 3), (4, .iconst 2, 1), (5, .iaload, 1), (6, .iconst 4, 1), (7, .if_icmp .ne 7, 3), (10, .aload_n 0, 1), (11, .invokevirtual 134, 3), (14, .aload_n 0, 1), (15, .getfield 125, 3), (18, .ifCond .eq 4, 3), (21, .return_, 1), (22, .aload_n 0, 1), (23, .invokevirtual 137, 3), (26, .aload_n 0, 1), (27, .getfield 22, 3), (30, .iconst 2, 1), (31, .iaload, 1), (32, .istore_n 1, 1), (33, .aload_n 0, 1), (34, .getfield 22, 3), (37, .bipush 47, 2), (39, .iload_n 1, 1), (40, .iadd, 1), (41, .aload_n 0, 1), (42, .iconst 1, 1), (43, .bipush 9, 2), (45, .invokevirtual 140, 3), (48, .iastore, 1), (49, .iconst 0, 1), (50, .istore_n 2, 1), (51, .iload_n 2, 1), (52, .aload_n 0, 1), (53, .getfield 22, 3), (56, .iconst 1, 1), (57, .iaload, 1), (58, .if_icmp .ge 44, 3), (61, .aload_n 0, 1), (62, .getfield 125, 3), (65, .ifCond .ne 37, 3), (68, .aload_n 0, 1), (69, .invokevirtual 129, 3), (72, .ifCond .eq 30, 3), (75, .aload_n 0, 1), (76, .getfield 22, 3), (79, .bipush 51, 2), (81, .bipush 6, 2), (83, .iload_n 1, 1), (84, .imul, 1), (85, .iadd, 1), (86, .iload_n 2, 1), (87, .iadd, 1), (88, .aload_n 0, 1), (89, .iconst 0, 1), (90, .bipush 20, 2), (92, .invokevirtual 140, 3), (95, .iastore, 1), (96, .iinc 2 1, 3), (99, .goto (-48), 3), (102, .aload_n 0, 1), (103, .getfield 125, 3), (106, .ifCond .ne 13, 3), (109, .aload_n 0, 1), (110, .getfield 22, 3), (113, .iconst 2, 1), (114, .dup2, 1), (115, .iaload, 1), (116, .iconst 1, 1), (117, .iadd, 1), (118, .iastore, 1), (119, .return_, 1)] = true := by decide +kernel
theorem cw_Mod_caseLine {k : Cd} (h1 : kMod_caseLine.2.2.2.2.1 + 1 ≤ k.2.2.2.2.1) (h2 : 8 + (kMod_caseLine.2.2.1 + 11) + kMod_caseLine.2.2.2.2.2 ≤ k.2.2.2.2.2) : Cw k kMod_caseLine 0 := ⟨wcode_X11_caseLine, wini_SplitProgramModel, ⟨by decide, by decide, by decide +kernel⟩, h1, h2⟩
def Mod_caseLine_b51 (v0 : Nat) (v1 : Int32) (s : Int32 × AHeap) : Option ((Int32 × AHeap) ⊕ ((Int32 × AHeap))) :=
  (gfR s.2 v0 11 5).bind fun a11 => (ald 0 s.2 a11 1).bind fun x12 => (if x12 ≤ s.1 then some (Sum.inr (s.1, s.2)) else (gfI s.2 v0 11 20).bind fun x13 => (if ¬ x13 = 0 then some (Sum.inr (s.1, s.2)) else (chk s.2 v0 11).bind fun _ => bnd2 (Mod_isNumber v0 s.2) fun x15 h14 => (if x15 = 0 then some (Sum.inr (s.1, h14)) else (gfR h14 v0 11 5).bind fun a16 => (chk h14 v0 11).bind fun _ => bnd2 (Mod_number v0 0 20 h14) fun x18 h17 => (ast 0 h17 a16 ((51 + (6 * v1)) + s.1) x18).bind fun h19 => some (Sum.inl (s.1 + 1, h19)))))
theorem Mod_caseLine_b51_J {E : JE} {l : Launch} {G : GX} {r : Option Value} {h' : AHeap} (ok : JOK E l G kMod_caseLine 0 0 r h') (v0 : Nat) (v1 : Int32) {Y : (Int32 × AHeap) ⊕ ((Int32 × AHeap)) → Prop} (k1 : ∀ s' : Int32 × AHeap, Y (.inl s') → JW E kMod_caseLine 51 [some (.ref v0), some (.int v1), some (.int s'.1)] [] s'.2 0 0) (kx102 : ∀ q : Int32 × AHeap, Y (.inr q) → JW E kMod_caseLine 102 [some (.ref v0), some (.int v1), some (.int q.1)] [] q.2 0 0) (s : Int32 × AHeap) : J E kMod_caseLine (Mod_caseLine_b51 v0 v1 s) Y 51 [some (.ref v0), some (.int v1), some (.int s.1)] [] s.2 0 0 := by
  unfold Mod_caseLine_b51
  refine J_iload_n (pc' := 52) ok (dOf dX11_caseLine 31 rfl) rfl rfl rfl ?_
  refine J_aload_n (pc' := 53) ok (dOf dX11_caseLine 32 rfl) rfl rfl rfl ?_
  refine J_getR (ci := 11) (kf := 5) (C := RX11) (T := TX11) (N := 29) (pc' := 56) ok (dOf dX11_caseLine 33 rfl) rfl (by decide) rfl (by decide) win_11 wfl_X11_22 (fun a11 => ?_)
  refine J_iconst (v := 1) (pc' := 57) ok (dOf dX11_caseLine 34 rfl) rfl (by decide) ?_
  refine J_iald (pc' := 58) ok (dOf dX11_caseLine 35 rfl) rfl (fun x12 => ?_)
  refine J_icmp_ge (tgt := 102) (pc' := 61) ok (dOf dX11_caseLine 36 rfl) rfl (by decide) ?_ ?_
  · exact J_fin (kx102 (s.1, s.2))
  · refine J_aload_n (pc' := 62) ok (dOf dX11_caseLine 37 rfl) rfl rfl rfl ?_
    refine J_getI (ci := 11) (kf := 20) (C := RX11) (T := TX11) (N := 29) (pc' := 65) ok (dOf dX11_caseLine 38 rfl) rfl (by decide) rfl (by decide) win_11 wfl_X11_125 (fun x13 => ?_)
    refine J_if_ne (tgt := 102) (pc' := 68) ok (dOf dX11_caseLine 39 rfl) rfl (by decide) ?_ ?_
    · exact J_fin (kx102 (s.1, s.2))
    · refine J_aload_n (pc' := 69) ok (dOf dX11_caseLine 40 rfl) rfl rfl rfl ?_
      refine J_callVi (k2 := kMod_isNumber) (ci := 11) (T := TX11) (N := 29) (as := []) (pc' := 72) ok (dOf dX11_caseLine 41 rfl) rfl (cw_Mod_isNumber (by decide) (by decide)) wml_X11_129 winst_X11_isNumber wsel_X11_isNumber rfl ⟨Nat.le_refl 0, Nat.le_refl 0⟩ (Nat.le_of_ble_eq_true rfl) rfl (fun _ _ hf => t_Mod_isNumber hf) (fun x15 h14 => ?_)
      refine J_if_eq (tgt := 102) (pc' := 75) ok (dOf dX11_caseLine 42 rfl) rfl (by decide) ?_ ?_
      · exact J_fin (kx102 (s.1, h14))
      · refine J_aload_n (pc' := 76) ok (dOf dX11_caseLine 43 rfl) rfl rfl rfl ?_
        refine J_getR (ci := 11) (kf := 5) (C := RX11) (T := TX11) (N := 29) (pc' := 79) ok (dOf dX11_caseLine 44 rfl) rfl (by decide) rfl (by decide) win_11 wfl_X11_22 (fun a16 => ?_)
        refine J_bipush (v := 51) (pc' := 81) ok (dOf dX11_caseLine 45 rfl) rfl (by decide) ?_
        refine J_bipush (v := 6) (pc' := 83) ok (dOf dX11_caseLine 46 rfl) rfl (by decide) ?_
        refine J_iload_n (pc' := 84) ok (dOf dX11_caseLine 47 rfl) rfl rfl rfl ?_
        refine J_imul (pc' := 85) ok (dOf dX11_caseLine 48 rfl) rfl ?_
        refine J_iadd (pc' := 86) ok (dOf dX11_caseLine 49 rfl) rfl ?_
        refine J_iload_n (pc' := 87) ok (dOf dX11_caseLine 50 rfl) rfl rfl rfl ?_
        refine J_iadd (pc' := 88) ok (dOf dX11_caseLine 51 rfl) rfl ?_
        refine J_aload_n (pc' := 89) ok (dOf dX11_caseLine 52 rfl) rfl rfl rfl ?_
        refine J_iconst (v := 0) (pc' := 90) ok (dOf dX11_caseLine 53 rfl) rfl (by decide) ?_
        refine J_bipush (v := 20) (pc' := 92) ok (dOf dX11_caseLine 54 rfl) rfl (by decide) ?_
        refine J_callVi (k2 := kMod_number) (ci := 11) (T := TX11) (N := 29) (as := [.int 0, .int 20]) (pc' := 95) ok (dOf dX11_caseLine 55 rfl) rfl (cw_Mod_number (by decide) (by decide)) wml_X11_140 winst_X11_number wsel_X11_number rfl ⟨Nat.le_refl 0, Nat.le_refl 0⟩ (Nat.le_of_ble_eq_true rfl) rfl (fun _ _ hf => t_Mod_number hf) (fun x18 h17 => ?_)
        refine J_iast (pc' := 96) ok (dOf dX11_caseLine 56 rfl) rfl (fun h19 _ => ?_)
        refine J_iinc (v := s.1 + 1) (ls' := [some (.ref v0), some (.int v1), some (.int (s.1 + 1))]) (pc' := 99) ok (dOf dX11_caseLine 57 rfl) rfl rfl (by rfl) (Nat.le_of_ble_eq_true rfl) rfl rfl ?_
        refine J_goto (tgt := 51) ok (dOf dX11_caseLine 58 rfl) (by decide) ?_
        exact J_fin (k1 (s.1 + 1, h19))
def Mod_caseLine_j119 (v0 : Nat) (v1 : Int32) (v2 : Int32) (h : AHeap) : Option (Unit × AHeap) :=
  some ((), h)
theorem Mod_caseLine_j119_J {E : JE} {l : Launch} {G : GX} {h' : AHeap} (ok : JOK E l G kMod_caseLine 0 0 none h') (v0 : Nat) (v1 : Int32) (v2 : Int32) (h : AHeap) : J E kMod_caseLine (Mod_caseLine_j119 v0 v1 v2 h) (fun z => z = ((), h')) 119 [some (.ref v0), some (.int v1), some (.int v2)] [] h 0 0 := by
  unfold Mod_caseLine_j119
  exact J_vreturn ok (dOf dX11_caseLine 70 rfl) rfl (Eq.refl 0) (Nat.le_refl 0)
def Mod_caseLine_j102 (v0 : Nat) (v1 : Int32) (v2 : Int32) (h : AHeap) : Option (Unit × AHeap) :=
  (gfI h v0 11 20).bind fun x20 => (if ¬ x20 = 0 then Mod_caseLine_j119 v0 v1 v2 h else (gfR h v0 11 5).bind fun a21 => (ald 0 h a21 2).bind fun x22 => (ast 0 h a21 2 (x22 + 1)).bind fun h23 => Mod_caseLine_j119 v0 v1 v2 h23)
theorem Mod_caseLine_j102_J {E : JE} {l : Launch} {G : GX} {h' : AHeap} (ok : JOK E l G kMod_caseLine 0 0 none h') (v0 : Nat) (v1 : Int32) (v2 : Int32) (h : AHeap) : J E kMod_caseLine (Mod_caseLine_j102 v0 v1 v2 h) (fun z => z = ((), h')) 102 [some (.ref v0), some (.int v1), some (.int v2)] [] h 0 0 := by
  unfold Mod_caseLine_j102
  refine J_aload_n (pc' := 103) ok (dOf dX11_caseLine 59 rfl) rfl rfl rfl ?_
  refine J_getI (ci := 11) (kf := 20) (C := RX11) (T := TX11) (N := 29) (pc' := 106) ok (dOf dX11_caseLine 60 rfl) rfl (by decide) rfl (by decide) win_11 wfl_X11_125 (fun x20 => ?_)
  refine J_if_ne (tgt := 119) (pc' := 109) ok (dOf dX11_caseLine 61 rfl) rfl (by decide) ?_ ?_
  · exact Mod_caseLine_j119_J ok v0 v1 v2 h
  · refine J_aload_n (pc' := 110) ok (dOf dX11_caseLine 62 rfl) rfl rfl rfl ?_
    refine J_getR (ci := 11) (kf := 5) (C := RX11) (T := TX11) (N := 29) (pc' := 113) ok (dOf dX11_caseLine 63 rfl) rfl (by decide) rfl (by decide) win_11 wfl_X11_22 (fun a21 => ?_)
    refine J_iconst (v := 2) (pc' := 114) ok (dOf dX11_caseLine 64 rfl) rfl (by decide) ?_
    refine J_dup2 (pc' := 115) ok (dOf dX11_caseLine 65 rfl) rfl rfl rfl ?_
    refine J_iald (pc' := 116) ok (dOf dX11_caseLine 66 rfl) rfl (fun x22 => ?_)
    refine J_iconst (v := 1) (pc' := 117) ok (dOf dX11_caseLine 67 rfl) rfl (by decide) ?_
    refine J_iadd (pc' := 118) ok (dOf dX11_caseLine 68 rfl) rfl ?_
    refine J_iast (pc' := 119) ok (dOf dX11_caseLine 69 rfl) rfl (fun h23 _ => ?_)
    exact Mod_caseLine_j119_J ok v0 v1 v2 h23
def Mod_caseLine_j14 (v0 : Nat) (h : AHeap) : Option (Unit × AHeap) :=
  (gfI h v0 11 20).bind fun x3 => (if x3 = 0 then (chk h v0 11).bind fun _ => bnd2 (Mod_reads v0 h) fun _ h4 => (gfR h4 v0 11 5).bind fun a5 => (ald 0 h4 a5 2).bind fun x6 => (gfR h4 v0 11 5).bind fun a7 => (chk h4 v0 11).bind fun _ => bnd2 (Mod_number v0 1 9 h4) fun x9 h8 => (ast 0 h8 a7 (47 + x6) x9).bind fun h10 => (iter (Mod_caseLine_b51 v0 x6) Lmax (0, h10)).bind (fun (q51 : Int32 × AHeap) => Mod_caseLine_j102 v0 x6 q51.1 q51.2) else some ((), h))
theorem Mod_caseLine_j14_J {E : JE} {l : Launch} {G : GX} {h' : AHeap} (ok : JOK E l G kMod_caseLine 0 0 none h') (v0 : Nat) (h : AHeap) : J E kMod_caseLine (Mod_caseLine_j14 v0 h) (fun z => z = ((), h')) 14 [some (.ref v0), none, none] [] h 0 0 := by
  unfold Mod_caseLine_j14
  refine J_aload_n (pc' := 15) ok (dOf dX11_caseLine 8 rfl) rfl rfl rfl ?_
  refine J_getI (ci := 11) (kf := 20) (C := RX11) (T := TX11) (N := 29) (pc' := 18) ok (dOf dX11_caseLine 9 rfl) rfl (by decide) rfl (by decide) win_11 wfl_X11_125 (fun x3 => ?_)
  refine J_if_eq (tgt := 22) (pc' := 21) ok (dOf dX11_caseLine 10 rfl) rfl (by decide) ?_ ?_
  · refine J_aload_n (pc' := 23) ok (dOf dX11_caseLine 12 rfl) rfl rfl rfl ?_
    refine J_callVv (k2 := kMod_reads) (ci := 11) (T := TX11) (N := 29) (as := []) (pc' := 26) ok (dOf dX11_caseLine 13 rfl) rfl (cw_Mod_reads (by decide) (by decide)) wml_X11_137 winst_X11_reads wsel_X11_reads rfl ⟨Nat.le_refl 0, Nat.le_refl 0⟩ (Nat.le_of_ble_eq_true rfl) rfl (fun _ _ hf => t_Mod_reads hf) (fun _ h4 => ?_)
    refine J_aload_n (pc' := 27) ok (dOf dX11_caseLine 14 rfl) rfl rfl rfl ?_
    refine J_getR (ci := 11) (kf := 5) (C := RX11) (T := TX11) (N := 29) (pc' := 30) ok (dOf dX11_caseLine 15 rfl) rfl (by decide) rfl (by decide) win_11 wfl_X11_22 (fun a5 => ?_)
    refine J_iconst (v := 2) (pc' := 31) ok (dOf dX11_caseLine 16 rfl) rfl (by decide) ?_
    refine J_iald (pc' := 32) ok (dOf dX11_caseLine 17 rfl) rfl (fun x6 => ?_)
    refine J_istore_n (ls' := [some (.ref v0), some (.int x6), none]) (pc' := 33) ok (dOf dX11_caseLine 18 rfl) rfl rfl (Nat.le_of_ble_eq_true rfl) rfl rfl ?_
    refine J_aload_n (pc' := 34) ok (dOf dX11_caseLine 19 rfl) rfl rfl rfl ?_
    refine J_getR (ci := 11) (kf := 5) (C := RX11) (T := TX11) (N := 29) (pc' := 37) ok (dOf dX11_caseLine 20 rfl) rfl (by decide) rfl (by decide) win_11 wfl_X11_22 (fun a7 => ?_)
    refine J_bipush (v := 47) (pc' := 39) ok (dOf dX11_caseLine 21 rfl) rfl (by decide) ?_
    refine J_iload_n (pc' := 40) ok (dOf dX11_caseLine 22 rfl) rfl rfl rfl ?_
    refine J_iadd (pc' := 41) ok (dOf dX11_caseLine 23 rfl) rfl ?_
    refine J_aload_n (pc' := 42) ok (dOf dX11_caseLine 24 rfl) rfl rfl rfl ?_
    refine J_iconst (v := 1) (pc' := 43) ok (dOf dX11_caseLine 25 rfl) rfl (by decide) ?_
    refine J_bipush (v := 9) (pc' := 45) ok (dOf dX11_caseLine 26 rfl) rfl (by decide) ?_
    refine J_callVi (k2 := kMod_number) (ci := 11) (T := TX11) (N := 29) (as := [.int 1, .int 9]) (pc' := 48) ok (dOf dX11_caseLine 27 rfl) rfl (cw_Mod_number (by decide) (by decide)) wml_X11_140 winst_X11_number wsel_X11_number rfl ⟨Nat.le_refl 0, Nat.le_refl 0⟩ (Nat.le_of_ble_eq_true rfl) rfl (fun _ _ hf => t_Mod_number hf) (fun x9 h8 => ?_)
    refine J_iast (pc' := 49) ok (dOf dX11_caseLine 28 rfl) rfl (fun h10 _ => ?_)
    refine J_iconst (v := 0) (pc' := 50) ok (dOf dX11_caseLine 29 rfl) rfl (by decide) ?_
    refine J_istore_n (ls' := [some (.ref v0), some (.int x6), some (.int 0)]) (pc' := 51) ok (dOf dX11_caseLine 30 rfl) rfl rfl (Nat.le_of_ble_eq_true rfl) rfl rfl ?_
    refine J_iter (lf := fun z51 => [some (.ref v0), some (.int x6), some (.int z51.1)]) (sf := fun _ => []) (hf := fun z51 => z51.2) (px := (fun (q51 : Int32 × AHeap) => 102)) (lx := (fun (q51 : Int32 × AHeap) => [some (.ref v0), some (.int x6), some (.int q51.1)])) (sx := (fun (q51 : Int32 × AHeap) => [])) (hx := (fun (q51 : Int32 × AHeap) => q51.2)) (fun Y2 z51 m1 m2 => Mod_caseLine_b51_J ok v0 x6 m1 m2 z51) (fun q51 => ?_) Lmax _
    exact Mod_caseLine_j102_J ok v0 x6 q51.1 q51.2
  · exact J_vreturn ok (dOf dX11_caseLine 11 rfl) rfl (Eq.refl 0) (Nat.le_refl 0)
def Mod_caseLine (v0 : Nat) (h : AHeap) : Option (Unit × AHeap) :=
  (gfR h v0 11 5).bind fun a1 => (ald 0 h a1 2).bind fun x2 => (if ¬ x2 = 4 then Mod_caseLine_j14 v0 h else (chk h v0 11).bind fun _ => bnd2 (Mod_wrong v0 h) fun _ h24 => Mod_caseLine_j14 v0 h24)
theorem t_Mod_caseLine {l : Launch} {G : GX} {v0 : Nat} {h : AHeap} {h1 : AHeap} (hf : Mod_caseLine v0 h = some ((), h1)) : CT l G kMod_caseLine 0 0 [.ref v0] h none h1 := by
  refine CT_of (ls := [some (.ref v0), none, none]) (Z := fun z => z = ((), h1)) (by decide +kernel) (Nat.le_of_ble_eq_true rfl) hf rfl ⟨rfl, trivial⟩ (fun E ok => ?_)
  unfold Mod_caseLine
  refine J_aload_n (pc' := 1) ok (dOf dX11_caseLine 0 rfl) rfl rfl rfl ?_
  refine J_getR (ci := 11) (kf := 5) (C := RX11) (T := TX11) (N := 29) (pc' := 4) ok (dOf dX11_caseLine 1 rfl) rfl (by decide) rfl (by decide) win_11 wfl_X11_22 (fun a1 => ?_)
  refine J_iconst (v := 2) (pc' := 5) ok (dOf dX11_caseLine 2 rfl) rfl (by decide) ?_
  refine J_iald (pc' := 6) ok (dOf dX11_caseLine 3 rfl) rfl (fun x2 => ?_)
  refine J_iconst (v := 4) (pc' := 7) ok (dOf dX11_caseLine 4 rfl) rfl (by decide) ?_
  refine J_icmp_ne (tgt := 14) (pc' := 10) ok (dOf dX11_caseLine 5 rfl) rfl (by decide) ?_ ?_
  · exact Mod_caseLine_j14_J ok v0 h
  · refine J_aload_n (pc' := 11) ok (dOf dX11_caseLine 6 rfl) rfl rfl rfl ?_
    refine J_callVv (k2 := kMod_wrong) (ci := 11) (T := TX11) (N := 29) (as := []) (pc' := 14) ok (dOf dX11_caseLine 7 rfl) rfl (cw_Mod_wrong (by decide) (by decide)) wml_X11_134 winst_X11_wrong wsel_X11_wrong rfl ⟨Nat.le_refl 0, Nat.le_refl 0⟩ (Nat.le_of_ble_eq_true rfl) rfl (fun _ _ hf => t_Mod_wrong hf) (fun _ h24 => ?_)
    exact Mod_caseLine_j14_J ok v0 h24
-- X11_line
abbrev kMod_line : Cd := (yX11_line, cX11_line, 1, none, 5, 110)
theorem dX11_line : dcheck cX11_line [(0, .aload_n 0, 1), (1, .ldc 151, 2), (3, .invokevirtual 153, 3), (6, .ifCond .eq 10, 3), (9, .aload_n 0, 1), (10, .invokevirtual 157, 3), (13, .goto 91, 3), (16, .aload_n 0, 1), (17, .ldc 160, 2), (19, .invokevirtual 153, 3), (22, .ifCond .eq 46, 3), (25, .aload_n 0, 1), (26, .getfield 22, 3), (29, .iconst 1, 1), (30, .iaload, 1), (31, .bipush 6, 2), (33, .if_icmp .ne 7, 3), (36, .aload_n 0, 1), (37, .invokevirtual 134, 3), (40, .aload_n 0, 1), (41, .getfield 22, 3), (44, .iconst 1, 1), (45, .dup2, 1), (46, .iaload, 1), (47, .aload_n 0, 1), (48, .getfield 125, 3), (51, .ifCond .eq 7, 3), (54, .iconst 0, 1), (55, .goto 4, 3), (58, .iconst 1, 1), (59, .iadd, 1), (60, .iastore, 1), (61, .aload_n 0, 1), (62, .invokevirtual 137, 3), (65, .goto 39, 3), (68, .aload_n 0, 1), (69, .ldc 162, 2), (71, .invokevirtual 153, 3), (74, .ifCond .eq 10, 3), (77, .aload_n 0, 1), (78, .invokevirtual 164, 3), (81, .goto 23, 3), (84, .aload_n 0, 1), (85, .ldc 167, 2), (87, .invokevirtual 153, 3), (90, .ifCond .eq 10, 3), (93, .aload_n 0, 1), (94, .invokevirtual 169, 3), (97, .goto 7, 3), (100, .aload_n 0, 1), (101, .invokevirtual 134, 3), (104, .return_, 1)] = true := by decide +kernel
theorem cw_Mod_line {k : Cd} (h1 : kMod_line.2.2.2.2.1 + 1 ≤ k.2.2.2.2.1) (h2 : 8 + (kMod_line.2.2.1 + 11) + kMod_line.2.2.2.2.2 ≤ k.2.2.2.2.2) : Cw k kMod_line 0 := ⟨wcode_X11_line, wini_SplitProgramModel, ⟨by decide, by decide, by decide +kernel⟩, h1, h2⟩
def Mod_line_j104 (v0 : Nat) (h : AHeap) : Option (Unit × AHeap) :=
  some ((), h)
theorem Mod_line_j104_J {E : JE} {l : Launch} {G : GX} {h' : AHeap} (ok : JOK E l G kMod_line 0 0 none h') (v0 : Nat) (h : AHeap) : J E kMod_line (Mod_line_j104 v0 h) (fun z => z = ((), h')) 104 [some (.ref v0)] [] h 0 0 := by
  unfold Mod_line_j104
  exact J_vreturn ok (dOf dX11_line 51 rfl) rfl (Eq.refl 0) (Nat.le_refl 0)
def Mod_line_j59 (v0 : Nat) (t0 : Nat) (t1 : Int32) (t2 : Int32) (t3 : Int32) (h : AHeap) : Option (Unit × AHeap) :=
  (ast 0 h t0 t1 (t2 + t3)).bind fun h17 => (chk h17 v0 11).bind fun _ => bnd2 (Mod_reads v0 h17) fun _ h18 => Mod_line_j104 v0 h18
theorem Mod_line_j59_J {E : JE} {l : Launch} {G : GX} {h' : AHeap} (ok : JOK E l G kMod_line 0 0 none h') (v0 : Nat) (t0 : Nat) (t1 : Int32) (t2 : Int32) (t3 : Int32) (h : AHeap) : J E kMod_line (Mod_line_j59 v0 t0 t1 t2 t3 h) (fun z => z = ((), h')) 59 [some (.ref v0)] [.int t3, .int t2, .int t1, .ref t0] h 0 0 := by
  unfold Mod_line_j59
  refine J_iadd (pc' := 60) ok (dOf dX11_line 30 rfl) rfl ?_
  refine J_iast (pc' := 61) ok (dOf dX11_line 31 rfl) rfl (fun h17 _ => ?_)
  refine J_aload_n (pc' := 62) ok (dOf dX11_line 32 rfl) rfl rfl rfl ?_
  refine J_callVv (k2 := kMod_reads) (ci := 11) (T := TX11) (N := 29) (as := []) (pc' := 65) ok (dOf dX11_line 33 rfl) rfl (cw_Mod_reads (by decide) (by decide)) wml_X11_137 winst_X11_reads wsel_X11_reads rfl ⟨Nat.le_refl 0, Nat.le_refl 0⟩ (Nat.le_of_ble_eq_true rfl) rfl (fun _ _ hf => t_Mod_reads hf) (fun _ h18 => ?_)
  refine J_goto (tgt := 104) ok (dOf dX11_line 34 rfl) (by decide) ?_
  exact Mod_line_j104_J ok v0 h18
def Mod_line_j40 (v0 : Nat) (h : AHeap) : Option (Unit × AHeap) :=
  (gfR h v0 11 5).bind fun a14 => (ald 0 h a14 1).bind fun x15 => (gfI h v0 11 20).bind fun x16 => (if x16 = 0 then Mod_line_j59 v0 a14 1 x15 1 h else Mod_line_j59 v0 a14 1 x15 0 h)
theorem Mod_line_j40_J {E : JE} {l : Launch} {G : GX} {h' : AHeap} (ok : JOK E l G kMod_line 0 0 none h') (v0 : Nat) (h : AHeap) : J E kMod_line (Mod_line_j40 v0 h) (fun z => z = ((), h')) 40 [some (.ref v0)] [] h 0 0 := by
  unfold Mod_line_j40
  refine J_aload_n (pc' := 41) ok (dOf dX11_line 19 rfl) rfl rfl rfl ?_
  refine J_getR (ci := 11) (kf := 5) (C := RX11) (T := TX11) (N := 29) (pc' := 44) ok (dOf dX11_line 20 rfl) rfl (by decide) rfl (by decide) win_11 wfl_X11_22 (fun a14 => ?_)
  refine J_iconst (v := 1) (pc' := 45) ok (dOf dX11_line 21 rfl) rfl (by decide) ?_
  refine J_dup2 (pc' := 46) ok (dOf dX11_line 22 rfl) rfl rfl rfl ?_
  refine J_iald (pc' := 47) ok (dOf dX11_line 23 rfl) rfl (fun x15 => ?_)
  refine J_aload_n (pc' := 48) ok (dOf dX11_line 24 rfl) rfl rfl rfl ?_
  refine J_getI (ci := 11) (kf := 20) (C := RX11) (T := TX11) (N := 29) (pc' := 51) ok (dOf dX11_line 25 rfl) rfl (by decide) rfl (by decide) win_11 wfl_X11_125 (fun x16 => ?_)
  refine J_if_eq (tgt := 58) (pc' := 54) ok (dOf dX11_line 26 rfl) rfl (by decide) ?_ ?_
  · refine J_iconst (v := 1) (pc' := 59) ok (dOf dX11_line 29 rfl) rfl (by decide) ?_
    exact Mod_line_j59_J ok v0 a14 1 x15 1 h
  · refine J_iconst (v := 0) (pc' := 55) ok (dOf dX11_line 27 rfl) rfl (by decide) ?_
    refine J_goto (tgt := 59) ok (dOf dX11_line 28 rfl) (by decide) ?_
    exact Mod_line_j59_J ok v0 a14 1 x15 0 h
def Mod_line (v0 : Nat) (h : AHeap) : Option (Unit × AHeap) :=
  (chk h v0 11).bind fun _ => bnd2 (Mod_isWord v0 (FB + 2) h) fun x2 h1 => (if x2 = 0 then (chk h1 v0 11).bind fun _ => bnd2 (Mod_isWord v0 (FB + 3) h1) fun x4 h3 => (if x4 = 0 then (chk h3 v0 11).bind fun _ => bnd2 (Mod_isWord v0 (FB + 4) h3) fun x6 h5 => (if x6 = 0 then (chk h5 v0 11).bind fun _ => bnd2 (Mod_isWord v0 (FB + 5) h5) fun x8 h7 => (if x8 = 0 then (chk h7 v0 11).bind fun _ => bnd2 (Mod_wrong v0 h7) fun _ h9 => Mod_line_j104 v0 h9 else (chk h7 v0 11).bind fun _ => bnd2 (Mod_caseLine v0 h7) fun _ h10 => Mod_line_j104 v0 h10) else (chk h5 v0 11).bind fun _ => bnd2 (Mod_roadLine v0 h5) fun _ h11 => Mod_line_j104 v0 h11) else (gfR h3 v0 11 5).bind fun a12 => (ald 0 h3 a12 1).bind fun x13 => (if ¬ x13 = 6 then Mod_line_j40 v0 h3 else (chk h3 v0 11).bind fun _ => bnd2 (Mod_wrong v0 h3) fun _ h19 => Mod_line_j40 v0 h19)) else (chk h1 v0 11).bind fun _ => bnd2 (Mod_plantLine v0 h1) fun _ h20 => Mod_line_j104 v0 h20)
theorem t_Mod_line {l : Launch} {G : GX} {v0 : Nat} {h : AHeap} {h1 : AHeap} (hf : Mod_line v0 h = some ((), h1)) : CT l G kMod_line 0 0 [.ref v0] h none h1 := by
  refine CT_of (ls := [some (.ref v0)]) (Z := fun z => z = ((), h1)) (by decide +kernel) (Nat.le_of_ble_eq_true rfl) hf rfl ⟨rfl, trivial⟩ (fun E ok => ?_)
  unfold Mod_line
  refine J_aload_n (pc' := 1) ok (dOf dX11_line 0 rfl) rfl rfl rfl ?_
  refine J_ldcS (tx := "plant") (q := 2) (pc' := 3) ok (dOf dX11_line 1 rfl) rfl (by decide) ?_
  refine J_callVi (k2 := kMod_isWord) (ci := 11) (T := TX11) (N := 29) (as := [.ref (FB + 2)]) (pc' := 6) ok (dOf dX11_line 2 rfl) rfl (cw_Mod_isWord (by decide) (by decide)) wml_X11_153 winst_X11_isWord wsel_X11_isWord rfl ⟨Nat.le_refl 0, Nat.le_refl 0⟩ (Nat.le_of_ble_eq_true rfl) rfl (fun _ _ hf => t_Mod_isWord hf) (fun x2 h1 => ?_)
  refine J_if_eq (tgt := 16) (pc' := 9) ok (dOf dX11_line 3 rfl) rfl (by decide) ?_ ?_
  · refine J_aload_n (pc' := 17) ok (dOf dX11_line 7 rfl) rfl rfl rfl ?_
    refine J_ldcS (tx := "site") (q := 3) (pc' := 19) ok (dOf dX11_line 8 rfl) rfl (by decide) ?_
    refine J_callVi (k2 := kMod_isWord) (ci := 11) (T := TX11) (N := 29) (as := [.ref (FB + 3)]) (pc' := 22) ok (dOf dX11_line 9 rfl) rfl (cw_Mod_isWord (by decide) (by decide)) wml_X11_153 winst_X11_isWord wsel_X11_isWord rfl ⟨Nat.le_refl 0, Nat.le_refl 0⟩ (Nat.le_of_ble_eq_true rfl) rfl (fun _ _ hf => t_Mod_isWord hf) (fun x4 h3 => ?_)
    refine J_if_eq (tgt := 68) (pc' := 25) ok (dOf dX11_line 10 rfl) rfl (by decide) ?_ ?_
    · refine J_aload_n (pc' := 69) ok (dOf dX11_line 35 rfl) rfl rfl rfl ?_
      refine J_ldcS (tx := "road") (q := 4) (pc' := 71) ok (dOf dX11_line 36 rfl) rfl (by decide) ?_
      refine J_callVi (k2 := kMod_isWord) (ci := 11) (T := TX11) (N := 29) (as := [.ref (FB + 4)]) (pc' := 74) ok (dOf dX11_line 37 rfl) rfl (cw_Mod_isWord (by decide) (by decide)) wml_X11_153 winst_X11_isWord wsel_X11_isWord rfl ⟨Nat.le_refl 0, Nat.le_refl 0⟩ (Nat.le_of_ble_eq_true rfl) rfl (fun _ _ hf => t_Mod_isWord hf) (fun x6 h5 => ?_)
      refine J_if_eq (tgt := 84) (pc' := 77) ok (dOf dX11_line 38 rfl) rfl (by decide) ?_ ?_
      · refine J_aload_n (pc' := 85) ok (dOf dX11_line 42 rfl) rfl rfl rfl ?_
        refine J_ldcS (tx := "case") (q := 5) (pc' := 87) ok (dOf dX11_line 43 rfl) rfl (by decide) ?_
        refine J_callVi (k2 := kMod_isWord) (ci := 11) (T := TX11) (N := 29) (as := [.ref (FB + 5)]) (pc' := 90) ok (dOf dX11_line 44 rfl) rfl (cw_Mod_isWord (by decide) (by decide)) wml_X11_153 winst_X11_isWord wsel_X11_isWord rfl ⟨Nat.le_refl 0, Nat.le_refl 0⟩ (Nat.le_of_ble_eq_true rfl) rfl (fun _ _ hf => t_Mod_isWord hf) (fun x8 h7 => ?_)
        refine J_if_eq (tgt := 100) (pc' := 93) ok (dOf dX11_line 45 rfl) rfl (by decide) ?_ ?_
        · refine J_aload_n (pc' := 101) ok (dOf dX11_line 49 rfl) rfl rfl rfl ?_
          refine J_callVv (k2 := kMod_wrong) (ci := 11) (T := TX11) (N := 29) (as := []) (pc' := 104) ok (dOf dX11_line 50 rfl) rfl (cw_Mod_wrong (by decide) (by decide)) wml_X11_134 winst_X11_wrong wsel_X11_wrong rfl ⟨Nat.le_refl 0, Nat.le_refl 0⟩ (Nat.le_of_ble_eq_true rfl) rfl (fun _ _ hf => t_Mod_wrong hf) (fun _ h9 => ?_)
          exact Mod_line_j104_J ok v0 h9
        · refine J_aload_n (pc' := 94) ok (dOf dX11_line 46 rfl) rfl rfl rfl ?_
          refine J_callVv (k2 := kMod_caseLine) (ci := 11) (T := TX11) (N := 29) (as := []) (pc' := 97) ok (dOf dX11_line 47 rfl) rfl (cw_Mod_caseLine (by decide) (by decide)) wml_X11_169 winst_X11_caseLine wsel_X11_caseLine rfl ⟨Nat.le_refl 0, Nat.le_refl 0⟩ (Nat.le_of_ble_eq_true rfl) rfl (fun _ _ hf => t_Mod_caseLine hf) (fun _ h10 => ?_)
          refine J_goto (tgt := 104) ok (dOf dX11_line 48 rfl) (by decide) ?_
          exact Mod_line_j104_J ok v0 h10
      · refine J_aload_n (pc' := 78) ok (dOf dX11_line 39 rfl) rfl rfl rfl ?_
        refine J_callVv (k2 := kMod_roadLine) (ci := 11) (T := TX11) (N := 29) (as := []) (pc' := 81) ok (dOf dX11_line 40 rfl) rfl (cw_Mod_roadLine (by decide) (by decide)) wml_X11_164 winst_X11_roadLine wsel_X11_roadLine rfl ⟨Nat.le_refl 0, Nat.le_refl 0⟩ (Nat.le_of_ble_eq_true rfl) rfl (fun _ _ hf => t_Mod_roadLine hf) (fun _ h11 => ?_)
        refine J_goto (tgt := 104) ok (dOf dX11_line 41 rfl) (by decide) ?_
        exact Mod_line_j104_J ok v0 h11
    · refine J_aload_n (pc' := 26) ok (dOf dX11_line 11 rfl) rfl rfl rfl ?_
      refine J_getR (ci := 11) (kf := 5) (C := RX11) (T := TX11) (N := 29) (pc' := 29) ok (dOf dX11_line 12 rfl) rfl (by decide) rfl (by decide) win_11 wfl_X11_22 (fun a12 => ?_)
      refine J_iconst (v := 1) (pc' := 30) ok (dOf dX11_line 13 rfl) rfl (by decide) ?_
      refine J_iald (pc' := 31) ok (dOf dX11_line 14 rfl) rfl (fun x13 => ?_)
      refine J_bipush (v := 6) (pc' := 33) ok (dOf dX11_line 15 rfl) rfl (by decide) ?_
      refine J_icmp_ne (tgt := 40) (pc' := 36) ok (dOf dX11_line 16 rfl) rfl (by decide) ?_ ?_
      · exact Mod_line_j40_J ok v0 h3
      · refine J_aload_n (pc' := 37) ok (dOf dX11_line 17 rfl) rfl rfl rfl ?_
        refine J_callVv (k2 := kMod_wrong) (ci := 11) (T := TX11) (N := 29) (as := []) (pc' := 40) ok (dOf dX11_line 18 rfl) rfl (cw_Mod_wrong (by decide) (by decide)) wml_X11_134 winst_X11_wrong wsel_X11_wrong rfl ⟨Nat.le_refl 0, Nat.le_refl 0⟩ (Nat.le_of_ble_eq_true rfl) rfl (fun _ _ hf => t_Mod_wrong hf) (fun _ h19 => ?_)
        exact Mod_line_j40_J ok v0 h19
  · refine J_aload_n (pc' := 10) ok (dOf dX11_line 4 rfl) rfl rfl rfl ?_
    refine J_callVv (k2 := kMod_plantLine) (ci := 11) (T := TX11) (N := 29) (as := []) (pc' := 13) ok (dOf dX11_line 5 rfl) rfl (cw_Mod_plantLine (by decide) (by decide)) wml_X11_157 winst_X11_plantLine wsel_X11_plantLine rfl ⟨Nat.le_refl 0, Nat.le_refl 0⟩ (Nat.le_of_ble_eq_true rfl) rfl (fun _ _ hf => t_Mod_plantLine hf) (fun _ h20 => ?_)
    refine J_goto (tgt := 104) ok (dOf dX11_line 6 rfl) (by decide) ?_
    exact Mod_line_j104_J ok v0 h20
-- X11_keeps
abbrev kMod_keeps : Cd := (yX11_keeps, cX11_keeps, 3, none, 0, 0)
theorem dX11_keeps : dcheck cX11_keeps [(0, .aload_n 0, 1), (1, .aload_n 0, 1), (2, .getfield 79, 3), (5, .iconst 1, 1), (6, .iadd, 1), (7, .bipush 12, 2), (9, .irem, 1), (10, .putfield 79, 3), (13, .iconst 0, 1), (14, .istore_n 2, 1), (15, .iload_n 2, 1), (16, .sipush 1427, 3), (19, .if_icmp .ge 30, 3), (22, .aload_n 0, 1), (23, .getfield 38, 3), (26, .sipush 1427, 3), (29, .aload_n 0, 1), (30, .getfield 79, 3), (33, .imul, 1), (34, .iload_n 2, 1), (35, .iadd, 1), (36, .aload_n 0, 1), (37, .getfield 25, 3), (40, .iload_n 2, 1), (41, .iaload, 1), (42, .iastore, 1), (43, .iinc 2 1, 3), (46, .goto (-31), 3), (49, .aload_n 0, 1), (50, .getfield 41, 3), (53, .aload_n 0, 1), (54, .getfield 79, 3), (57, .iload_n 1, 1), (58, .iastore, 1), (59, .aload_n 0, 1), (60, .getfield 82, 3), (63, .bipush 12, 2), (65, .if_icmp .ge 13, 3), (68, .aload_n 0, 1), (69, .dup, 1), (70, .getfield 82, 3), (73, .iconst 1, 1), (74, .iadd, 1), (75, .putfield 82, 3), (78, .return_, 1)] = true := by decide +kernel
theorem cw_Mod_keeps {k : Cd} (h1 : kMod_keeps.2.2.2.2.1 + 1 ≤ k.2.2.2.2.1) (h2 : 8 + (kMod_keeps.2.2.1 + 11) + kMod_keeps.2.2.2.2.2 ≤ k.2.2.2.2.2) : Cw k kMod_keeps 1 := ⟨wcode_X11_keeps, wini_SplitProgramModel, ⟨by decide, by decide, by decide +kernel⟩, h1, h2⟩
def Mod_keeps_b15 (v0 : Nat) (v1 : Int32) (s : Int32 × AHeap) : Option ((Int32 × AHeap) ⊕ ((Int32 × AHeap))) :=
  (if 1427 ≤ s.1 then some (Sum.inr (s.1, s.2)) else (gfR s.2 v0 11 11).bind fun a3 => (gfI s.2 v0 11 14).bind fun x4 => (gfR s.2 v0 11 6).bind fun a5 => (ald 0 s.2 a5 s.1).bind fun x6 => (ast 0 s.2 a3 ((1427 * x4) + s.1) x6).bind fun h7 => some (Sum.inl (s.1 + 1, h7)))
theorem Mod_keeps_b15_J {E : JE} {l : Launch} {G : GX} {r : Option Value} {h' : AHeap} (ok : JOK E l G kMod_keeps 0 0 r h') (v0 : Nat) (v1 : Int32) {Y : (Int32 × AHeap) ⊕ ((Int32 × AHeap)) → Prop} (k1 : ∀ s' : Int32 × AHeap, Y (.inl s') → JW E kMod_keeps 15 [some (.ref v0), some (.int v1), some (.int s'.1)] [] s'.2 0 0) (kx49 : ∀ q : Int32 × AHeap, Y (.inr q) → JW E kMod_keeps 49 [some (.ref v0), some (.int v1), some (.int q.1)] [] q.2 0 0) (s : Int32 × AHeap) : J E kMod_keeps (Mod_keeps_b15 v0 v1 s) Y 15 [some (.ref v0), some (.int v1), some (.int s.1)] [] s.2 0 0 := by
  unfold Mod_keeps_b15
  refine J_iload_n (pc' := 16) ok (dOf dX11_keeps 10 rfl) rfl rfl rfl ?_
  refine J_sipush (v := 1427) (pc' := 19) ok (dOf dX11_keeps 11 rfl) rfl (by decide) ?_
  refine J_icmp_ge (tgt := 49) (pc' := 22) ok (dOf dX11_keeps 12 rfl) rfl (by decide) ?_ ?_
  · exact J_fin (kx49 (s.1, s.2))
  · refine J_aload_n (pc' := 23) ok (dOf dX11_keeps 13 rfl) rfl rfl rfl ?_
    refine J_getR (ci := 11) (kf := 11) (C := RX11) (T := TX11) (N := 29) (pc' := 26) ok (dOf dX11_keeps 14 rfl) rfl (by decide) rfl (by decide) win_11 wfl_X11_38 (fun a3 => ?_)
    refine J_sipush (v := 1427) (pc' := 29) ok (dOf dX11_keeps 15 rfl) rfl (by decide) ?_
    refine J_aload_n (pc' := 30) ok (dOf dX11_keeps 16 rfl) rfl rfl rfl ?_
    refine J_getI (ci := 11) (kf := 14) (C := RX11) (T := TX11) (N := 29) (pc' := 33) ok (dOf dX11_keeps 17 rfl) rfl (by decide) rfl (by decide) win_11 wfl_X11_79 (fun x4 => ?_)
    refine J_imul (pc' := 34) ok (dOf dX11_keeps 18 rfl) rfl ?_
    refine J_iload_n (pc' := 35) ok (dOf dX11_keeps 19 rfl) rfl rfl rfl ?_
    refine J_iadd (pc' := 36) ok (dOf dX11_keeps 20 rfl) rfl ?_
    refine J_aload_n (pc' := 37) ok (dOf dX11_keeps 21 rfl) rfl rfl rfl ?_
    refine J_getR (ci := 11) (kf := 6) (C := RX11) (T := TX11) (N := 29) (pc' := 40) ok (dOf dX11_keeps 22 rfl) rfl (by decide) rfl (by decide) win_11 wfl_X11_25 (fun a5 => ?_)
    refine J_iload_n (pc' := 41) ok (dOf dX11_keeps 23 rfl) rfl rfl rfl ?_
    refine J_iald (pc' := 42) ok (dOf dX11_keeps 24 rfl) rfl (fun x6 => ?_)
    refine J_iast (pc' := 43) ok (dOf dX11_keeps 25 rfl) rfl (fun h7 _ => ?_)
    refine J_iinc (v := s.1 + 1) (ls' := [some (.ref v0), some (.int v1), some (.int (s.1 + 1))]) (pc' := 46) ok (dOf dX11_keeps 26 rfl) rfl rfl (by rfl) (Nat.le_of_ble_eq_true rfl) rfl rfl ?_
    refine J_goto (tgt := 15) ok (dOf dX11_keeps 27 rfl) (by decide) ?_
    exact J_fin (k1 (s.1 + 1, h7))
def Mod_keeps_j78 (v0 : Nat) (v1 : Int32) (v2 : Int32) (h : AHeap) : Option (Unit × AHeap) :=
  some ((), h)
theorem Mod_keeps_j78_J {E : JE} {l : Launch} {G : GX} {h' : AHeap} (ok : JOK E l G kMod_keeps 0 0 none h') (v0 : Nat) (v1 : Int32) (v2 : Int32) (h : AHeap) : J E kMod_keeps (Mod_keeps_j78 v0 v1 v2 h) (fun z => z = ((), h')) 78 [some (.ref v0), some (.int v1), some (.int v2)] [] h 0 0 := by
  unfold Mod_keeps_j78
  exact J_vreturn ok (dOf dX11_keeps 44 rfl) rfl (Eq.refl 0) (Nat.le_refl 0)
def Mod_keeps_j49 (v0 : Nat) (v1 : Int32) (v2 : Int32) (h : AHeap) : Option (Unit × AHeap) :=
  (gfR h v0 11 12).bind fun a8 => (gfI h v0 11 14).bind fun x9 => (ast 0 h a8 x9 v1).bind fun h10 => (gfI h10 v0 11 13).bind fun x11 => (if 12 ≤ x11 then Mod_keeps_j78 v0 v1 v2 h10 else (gfI h10 v0 11 13).bind fun x12 => (pfV h10 v0 11 13 (.int (x12 + 1))).bind fun h13 => Mod_keeps_j78 v0 v1 v2 h13)
theorem Mod_keeps_j49_J {E : JE} {l : Launch} {G : GX} {h' : AHeap} (ok : JOK E l G kMod_keeps 0 0 none h') (v0 : Nat) (v1 : Int32) (v2 : Int32) (h : AHeap) : J E kMod_keeps (Mod_keeps_j49 v0 v1 v2 h) (fun z => z = ((), h')) 49 [some (.ref v0), some (.int v1), some (.int v2)] [] h 0 0 := by
  unfold Mod_keeps_j49
  refine J_aload_n (pc' := 50) ok (dOf dX11_keeps 28 rfl) rfl rfl rfl ?_
  refine J_getR (ci := 11) (kf := 12) (C := RX11) (T := TX11) (N := 29) (pc' := 53) ok (dOf dX11_keeps 29 rfl) rfl (by decide) rfl (by decide) win_11 wfl_X11_41 (fun a8 => ?_)
  refine J_aload_n (pc' := 54) ok (dOf dX11_keeps 30 rfl) rfl rfl rfl ?_
  refine J_getI (ci := 11) (kf := 14) (C := RX11) (T := TX11) (N := 29) (pc' := 57) ok (dOf dX11_keeps 31 rfl) rfl (by decide) rfl (by decide) win_11 wfl_X11_79 (fun x9 => ?_)
  refine J_iload_n (pc' := 58) ok (dOf dX11_keeps 32 rfl) rfl rfl rfl ?_
  refine J_iast (pc' := 59) ok (dOf dX11_keeps 33 rfl) rfl (fun h10 _ => ?_)
  refine J_aload_n (pc' := 60) ok (dOf dX11_keeps 34 rfl) rfl rfl rfl ?_
  refine J_getI (ci := 11) (kf := 13) (C := RX11) (T := TX11) (N := 29) (pc' := 63) ok (dOf dX11_keeps 35 rfl) rfl (by decide) rfl (by decide) win_11 wfl_X11_82 (fun x11 => ?_)
  refine J_bipush (v := 12) (pc' := 65) ok (dOf dX11_keeps 36 rfl) rfl (by decide) ?_
  refine J_icmp_ge (tgt := 78) (pc' := 68) ok (dOf dX11_keeps 37 rfl) rfl (by decide) ?_ ?_
  · exact Mod_keeps_j78_J ok v0 v1 v2 h10
  · refine J_aload_n (pc' := 69) ok (dOf dX11_keeps 38 rfl) rfl rfl rfl ?_
    refine J_dup (pc' := 70) ok (dOf dX11_keeps 39 rfl) rfl rfl ?_
    refine J_getI (ci := 11) (kf := 13) (C := RX11) (T := TX11) (N := 29) (pc' := 73) ok (dOf dX11_keeps 40 rfl) rfl (by decide) rfl (by decide) win_11 wfl_X11_82 (fun x12 => ?_)
    refine J_iconst (v := 1) (pc' := 74) ok (dOf dX11_keeps 41 rfl) rfl (by decide) ?_
    refine J_iadd (pc' := 75) ok (dOf dX11_keeps 42 rfl) rfl ?_
    refine J_putI (ci := 11) (kf := 13) (C := RX11) (T := TX11) (N := 29) (pc' := 78) ok tyX11 (dOf dX11_keeps 43 rfl) rfl rfl (by decide) win_11 tyX11_ok nmX11 rfl rfl wfl_X11_82 (fun h13 _ => ?_)
    exact Mod_keeps_j78_J ok v0 v1 v2 h13
def Mod_keeps (v0 : Nat) (v1 : Int32) (h : AHeap) : Option (Unit × AHeap) :=
  (gfI h v0 11 14).bind fun x1 => (pfV h v0 11 14 (.int ((x1 + 1) - (x1 + 1) / 12 * 12))).bind fun h2 => (iter (Mod_keeps_b15 v0 v1) Lmax (0, h2)).bind (fun (q15 : Int32 × AHeap) => Mod_keeps_j49 v0 v1 q15.1 q15.2)
theorem t_Mod_keeps {l : Launch} {G : GX} {v0 : Nat} {v1 : Int32} {h : AHeap} {h1 : AHeap} (hf : Mod_keeps v0 v1 h = some ((), h1)) : CT l G kMod_keeps 0 0 [.ref v0, .int v1] h none h1 := by
  refine CT_of (ls := [some (.ref v0), some (.int v1), none]) (Z := fun z => z = ((), h1)) (by decide +kernel) (Nat.le_of_ble_eq_true rfl) hf rfl ⟨rfl, rfl, trivial⟩ (fun E ok => ?_)
  unfold Mod_keeps
  refine J_aload_n (pc' := 1) ok (dOf dX11_keeps 0 rfl) rfl rfl rfl ?_
  refine J_aload_n (pc' := 2) ok (dOf dX11_keeps 1 rfl) rfl rfl rfl ?_
  refine J_getI (ci := 11) (kf := 14) (C := RX11) (T := TX11) (N := 29) (pc' := 5) ok (dOf dX11_keeps 2 rfl) rfl (by decide) rfl (by decide) win_11 wfl_X11_79 (fun x1 => ?_)
  refine J_iconst (v := 1) (pc' := 6) ok (dOf dX11_keeps 3 rfl) rfl (by decide) ?_
  refine J_iadd (pc' := 7) ok (dOf dX11_keeps 4 rfl) rfl ?_
  refine J_bipush (v := 12) (pc' := 9) ok (dOf dX11_keeps 5 rfl) rfl (by decide) ?_
  refine J_irem (pc' := 10) ok (dOf dX11_keeps 6 rfl) rfl (by decide) ?_
  refine J_putI (ci := 11) (kf := 14) (C := RX11) (T := TX11) (N := 29) (pc' := 13) ok tyX11 (dOf dX11_keeps 7 rfl) rfl rfl (by decide) win_11 tyX11_ok nmX11 rfl rfl wfl_X11_79 (fun h2 _ => ?_)
  refine J_iconst (v := 0) (pc' := 14) ok (dOf dX11_keeps 8 rfl) rfl (by decide) ?_
  refine J_istore_n (ls' := [some (.ref v0), some (.int v1), some (.int 0)]) (pc' := 15) ok (dOf dX11_keeps 9 rfl) rfl rfl (Nat.le_of_ble_eq_true rfl) rfl rfl ?_
  refine J_iter (lf := fun z15 => [some (.ref v0), some (.int v1), some (.int z15.1)]) (sf := fun _ => []) (hf := fun z15 => z15.2) (px := (fun (q15 : Int32 × AHeap) => 49)) (lx := (fun (q15 : Int32 × AHeap) => [some (.ref v0), some (.int v1), some (.int q15.1)])) (sx := (fun (q15 : Int32 × AHeap) => [])) (hx := (fun (q15 : Int32 × AHeap) => q15.2)) (fun Y2 z15 m1 m2 => Mod_keeps_b15_J ok v0 v1 m1 m2 z15) (fun q15 => ?_) Lmax _
  exact Mod_keeps_j49_J ok v0 v1 q15.1 q15.2
-- X11_read
abbrev kMod_read : Cd := (yX11_read, cX11_read, 4, (some .int), 6, 130)
theorem dX11_read : dcheck cX11_read [(0, .aload_n 0, 1), (1, .aload_n 0, 1), (2, .getfield 92, 3), (5, .putfield 105, 3), (8, .aload_n 0, 1), (9, .iconst 0, 1), (10, .putfield 92, 3), (13, .aload_n 0, 1), (14, .iconst 0, 1), (15, .putfield 99, 3), (18, .aload_n 0, 1), (19, .iconst 0, 1), (20, .putfield 125, 3), (23, .aload_n 0, 1), (24, .iconst (-1), 1), (25, .putfield 34, 3), (28, .aload_n 0, 1), (29, .invokevirtual 172, 3), (32, .aload_n 0, 1), (33, .invokevirtual 66, 3), (36, .iconst 0, 1), (37, .istore_n 1, 1), (38, .iconst 1, 1), (39, .istore_n 2, 1), (40, .iload_n 2, 1), (41, .ifCond .eq 55, 3), (44, .aload_n 0, 1), (45, .invokevirtual 137, 3), (48, .aload_n 0, 1), (49, .invokevirtual 175, 3), (52, .iinc 1 1, 3), (55, .aload_n 0, 1), (56, .getfield 125, 3), (59, .ifCond .ne 32, 3), (62, .aload_n 0, 1), (63, .getfield 102, 3), (66, .aload_n 0, 1), (67, .getfield 105, 3), (70, .if_icmp .ge 21, 3), (73, .aload_n 0, 1), (74, .getfield 31, 3), (77, .aload_n 0, 1), (78, .getfield 102, 3), (81, .iaload, 1), (82, .bipush 59, 2), (84, .if_icmp .ne 7, 3), (87, .iconst 1, 1), (88, .goto 4, 3), (91, .iconst 0, 1), (92, .istore_n 2, 1), (93, .goto (-53), 3), (96, .aload_n 0, 1), (97, .getfield 125, 3), (100, .ifCond .ne 18, 3), (103, .aload_n 0, 1), (104, .getfield 102, 3), (107, .aload_n 0, 1), (108, .getfield 105, 3), (111, .if_icmp .ge 7, 3), (114, .aload_n 0, 1), (115, .invokevirtual 134, 3), (118, .aload_n 0, 1), (119, .getfield 125, 3), (122, .ifCond .eq 37, 3), (125, .iconst 0, 1), (126, .istore_n 3, 1), (127, .iload_n 3, 1), (128, .sipush 1427, 3), (131, .if_icmp .ge 21, 3), (134, .aload_n 0, 1), (135, .getfield 22, 3), (138, .iload_n 3, 1), (139, .aload_n 0, 1), (140, .getfield 25, 3), (143, .iload_n 3, 1), (144, .iaload, 1), (145, .iastore, 1), (146, .iinc 3 1, 3), (149, .goto (-22), 3), (152, .aload_n 0, 1), (153, .bipush (-6), 2), (155, .invokevirtual 85, 3), (158, .ireturn, 1), (159, .aload_n 0, 1), (160, .iconst 0, 1), (161, .invokevirtual 178, 3), (164, .aload_n 0, 1), (165, .iload_n 1, 1), (166, .invokevirtual 89, 3), (169, .ireturn, 1)] = true := by decide +kernel
theorem cw_Mod_read {k : Cd} (h1 : kMod_read.2.2.2.2.1 + 1 ≤ k.2.2.2.2.1) (h2 : 8 + (kMod_read.2.2.1 + 11) + kMod_read.2.2.2.2.2 ≤ k.2.2.2.2.2) : Cw k kMod_read 0 := ⟨wcode_X11_read, wini_SplitProgramModel, ⟨by decide, by decide, by decide +kernel⟩, h1, h2⟩
def Mod_read_j92 (v0 : Nat) (v1 : Int32) (v2 : Int32) (t0 : Int32) (h : AHeap) : Option ((Int32 × Int32 × AHeap) ⊕ ((Int32 × Int32 × AHeap))) :=
  some (Sum.inl (v1, t0, h))
theorem Mod_read_j92_J {E : JE} {l : Launch} {G : GX} {r : Option Value} {h' : AHeap} (ok : JOK E l G kMod_read 0 0 r h') (v0 : Nat) (v1 : Int32) (v2 : Int32) (t0 : Int32) (h : AHeap) {Y : (Int32 × Int32 × AHeap) ⊕ ((Int32 × Int32 × AHeap)) → Prop} (k1 : ∀ s' : Int32 × Int32 × AHeap, Y (.inl s') → JW E kMod_read 40 [some (.ref v0), some (.int s'.1), some (.int s'.2.1), none] [] s'.2.2 0 0) (kx96 : ∀ q : Int32 × Int32 × AHeap, Y (.inr q) → JW E kMod_read 96 [some (.ref v0), some (.int q.1), some (.int q.2.1), none] [] q.2.2 0 0) : J E kMod_read (Mod_read_j92 v0 v1 v2 t0 h) Y 92 [some (.ref v0), some (.int v1), some (.int v2), none] [.int t0] h 0 0 := by
  unfold Mod_read_j92
  refine J_istore_n (ls' := [some (.ref v0), some (.int v1), some (.int t0), none]) (pc' := 93) ok (dOf dX11_read 49 rfl) rfl rfl (Nat.le_of_ble_eq_true rfl) rfl rfl ?_
  refine J_goto (tgt := 40) ok (dOf dX11_read 50 rfl) (by decide) ?_
  exact J_fin (k1 (v1, t0, h))
def Mod_read_j91 (v0 : Nat) (v1 : Int32) (v2 : Int32) (h : AHeap) : Option ((Int32 × Int32 × AHeap) ⊕ ((Int32 × Int32 × AHeap))) :=
  Mod_read_j92 v0 v1 v2 0 h
theorem Mod_read_j91_J {E : JE} {l : Launch} {G : GX} {r : Option Value} {h' : AHeap} (ok : JOK E l G kMod_read 0 0 r h') (v0 : Nat) (v1 : Int32) (v2 : Int32) (h : AHeap) {Y : (Int32 × Int32 × AHeap) ⊕ ((Int32 × Int32 × AHeap)) → Prop} (k1 : ∀ s' : Int32 × Int32 × AHeap, Y (.inl s') → JW E kMod_read 40 [some (.ref v0), some (.int s'.1), some (.int s'.2.1), none] [] s'.2.2 0 0) (kx96 : ∀ q : Int32 × Int32 × AHeap, Y (.inr q) → JW E kMod_read 96 [some (.ref v0), some (.int q.1), some (.int q.2.1), none] [] q.2.2 0 0) : J E kMod_read (Mod_read_j91 v0 v1 v2 h) Y 91 [some (.ref v0), some (.int v1), some (.int v2), none] [] h 0 0 := by
  unfold Mod_read_j91
  refine J_iconst (v := 0) (pc' := 92) ok (dOf dX11_read 48 rfl) rfl (by decide) ?_
  exact Mod_read_j92_J ok v0 v1 v2 0 h k1 kx96
def Mod_read_b40 (v0 : Nat) (s : Int32 × Int32 × AHeap) : Option ((Int32 × Int32 × AHeap) ⊕ ((Int32 × Int32 × AHeap))) :=
  (if s.2.1 = 0 then some (Sum.inr (s.1, s.2.1, s.2.2)) else (chk s.2.2 v0 11).bind fun _ => bnd2 (Mod_reads v0 s.2.2) fun _ h10 => (chk h10 v0 11).bind fun _ => bnd2 (Mod_line v0 h10) fun _ h11 => (gfI h11 v0 11 20).bind fun x12 => (if ¬ x12 = 0 then Mod_read_j91 v0 (s.1 + 1) s.2.1 h11 else (gfI h11 v0 11 18).bind fun x13 => (gfI h11 v0 11 17).bind fun x14 => (if x14 ≤ x13 then Mod_read_j91 v0 (s.1 + 1) s.2.1 h11 else (gfR h11 v0 11 8).bind fun a15 => (gfI h11 v0 11 18).bind fun x16 => (ald 0 h11 a15 x16).bind fun x17 => (if ¬ x17 = 59 then Mod_read_j91 v0 (s.1 + 1) s.2.1 h11 else Mod_read_j92 v0 (s.1 + 1) s.2.1 1 h11))))
theorem Mod_read_b40_J {E : JE} {l : Launch} {G : GX} {r : Option Value} {h' : AHeap} (ok : JOK E l G kMod_read 0 0 r h') (v0 : Nat) {Y : (Int32 × Int32 × AHeap) ⊕ ((Int32 × Int32 × AHeap)) → Prop} (k1 : ∀ s' : Int32 × Int32 × AHeap, Y (.inl s') → JW E kMod_read 40 [some (.ref v0), some (.int s'.1), some (.int s'.2.1), none] [] s'.2.2 0 0) (kx96 : ∀ q : Int32 × Int32 × AHeap, Y (.inr q) → JW E kMod_read 96 [some (.ref v0), some (.int q.1), some (.int q.2.1), none] [] q.2.2 0 0) (s : Int32 × Int32 × AHeap) : J E kMod_read (Mod_read_b40 v0 s) Y 40 [some (.ref v0), some (.int s.1), some (.int s.2.1), none] [] s.2.2 0 0 := by
  unfold Mod_read_b40
  refine J_iload_n (pc' := 41) ok (dOf dX11_read 24 rfl) rfl rfl rfl ?_
  refine J_if_eq (tgt := 96) (pc' := 44) ok (dOf dX11_read 25 rfl) rfl (by decide) ?_ ?_
  · exact J_fin (kx96 (s.1, s.2.1, s.2.2))
  · refine J_aload_n (pc' := 45) ok (dOf dX11_read 26 rfl) rfl rfl rfl ?_
    refine J_callVv (k2 := kMod_reads) (ci := 11) (T := TX11) (N := 29) (as := []) (pc' := 48) ok (dOf dX11_read 27 rfl) rfl (cw_Mod_reads (by decide) (by decide)) wml_X11_137 winst_X11_reads wsel_X11_reads rfl ⟨Nat.le_refl 0, Nat.le_refl 0⟩ (Nat.le_of_ble_eq_true rfl) rfl (fun _ _ hf => t_Mod_reads hf) (fun _ h10 => ?_)
    refine J_aload_n (pc' := 49) ok (dOf dX11_read 28 rfl) rfl rfl rfl ?_
    refine J_callVv (k2 := kMod_line) (ci := 11) (T := TX11) (N := 29) (as := []) (pc' := 52) ok (dOf dX11_read 29 rfl) rfl (cw_Mod_line (by decide) (by decide)) wml_X11_175 winst_X11_line wsel_X11_line rfl ⟨Nat.le_refl 0, Nat.le_refl 0⟩ (Nat.le_of_ble_eq_true rfl) rfl (fun _ _ hf => t_Mod_line hf) (fun _ h11 => ?_)
    refine J_iinc (v := s.1 + 1) (ls' := [some (.ref v0), some (.int (s.1 + 1)), some (.int s.2.1), none]) (pc' := 55) ok (dOf dX11_read 30 rfl) rfl rfl (by rfl) (Nat.le_of_ble_eq_true rfl) rfl rfl ?_
    refine J_aload_n (pc' := 56) ok (dOf dX11_read 31 rfl) rfl rfl rfl ?_
    refine J_getI (ci := 11) (kf := 20) (C := RX11) (T := TX11) (N := 29) (pc' := 59) ok (dOf dX11_read 32 rfl) rfl (by decide) rfl (by decide) win_11 wfl_X11_125 (fun x12 => ?_)
    refine J_if_ne (tgt := 91) (pc' := 62) ok (dOf dX11_read 33 rfl) rfl (by decide) ?_ ?_
    · exact Mod_read_j91_J ok v0 (s.1 + 1) s.2.1 h11 k1 kx96
    · refine J_aload_n (pc' := 63) ok (dOf dX11_read 34 rfl) rfl rfl rfl ?_
      refine J_getI (ci := 11) (kf := 18) (C := RX11) (T := TX11) (N := 29) (pc' := 66) ok (dOf dX11_read 35 rfl) rfl (by decide) rfl (by decide) win_11 wfl_X11_102 (fun x13 => ?_)
      refine J_aload_n (pc' := 67) ok (dOf dX11_read 36 rfl) rfl rfl rfl ?_
      refine J_getI (ci := 11) (kf := 17) (C := RX11) (T := TX11) (N := 29) (pc' := 70) ok (dOf dX11_read 37 rfl) rfl (by decide) rfl (by decide) win_11 wfl_X11_105 (fun x14 => ?_)
      refine J_icmp_ge (tgt := 91) (pc' := 73) ok (dOf dX11_read 38 rfl) rfl (by decide) ?_ ?_
      · exact Mod_read_j91_J ok v0 (s.1 + 1) s.2.1 h11 k1 kx96
      · refine J_aload_n (pc' := 74) ok (dOf dX11_read 39 rfl) rfl rfl rfl ?_
        refine J_getR (ci := 11) (kf := 8) (C := RX11) (T := TX11) (N := 29) (pc' := 77) ok (dOf dX11_read 40 rfl) rfl (by decide) rfl (by decide) win_11 wfl_X11_31 (fun a15 => ?_)
        refine J_aload_n (pc' := 78) ok (dOf dX11_read 41 rfl) rfl rfl rfl ?_
        refine J_getI (ci := 11) (kf := 18) (C := RX11) (T := TX11) (N := 29) (pc' := 81) ok (dOf dX11_read 42 rfl) rfl (by decide) rfl (by decide) win_11 wfl_X11_102 (fun x16 => ?_)
        refine J_iald (pc' := 82) ok (dOf dX11_read 43 rfl) rfl (fun x17 => ?_)
        refine J_bipush (v := 59) (pc' := 84) ok (dOf dX11_read 44 rfl) rfl (by decide) ?_
        refine J_icmp_ne (tgt := 91) (pc' := 87) ok (dOf dX11_read 45 rfl) rfl (by decide) ?_ ?_
        · exact Mod_read_j91_J ok v0 (s.1 + 1) s.2.1 h11 k1 kx96
        · refine J_iconst (v := 1) (pc' := 88) ok (dOf dX11_read 46 rfl) rfl (by decide) ?_
          refine J_goto (tgt := 92) ok (dOf dX11_read 47 rfl) (by decide) ?_
          exact Mod_read_j92_J ok v0 (s.1 + 1) s.2.1 1 h11 k1 kx96
def Mod_read_b127 (v0 : Nat) (v1 : Int32) (v2 : Int32) (s : Int32 × AHeap) : Option ((Int32 × AHeap) ⊕ ((Int32 × AHeap))) :=
  (if 1427 ≤ s.1 then some (Sum.inr (s.1, s.2)) else (gfR s.2 v0 11 5).bind fun a23 => (gfR s.2 v0 11 6).bind fun a24 => (ald 0 s.2 a24 s.1).bind fun x25 => (ast 0 s.2 a23 s.1 x25).bind fun h26 => some (Sum.inl (s.1 + 1, h26)))
theorem Mod_read_b127_J {E : JE} {l : Launch} {G : GX} {r : Option Value} {h' : AHeap} (ok : JOK E l G kMod_read 0 0 r h') (v0 : Nat) (v1 : Int32) (v2 : Int32) {Y : (Int32 × AHeap) ⊕ ((Int32 × AHeap)) → Prop} (k1 : ∀ s' : Int32 × AHeap, Y (.inl s') → JW E kMod_read 127 [some (.ref v0), some (.int v1), some (.int v2), some (.int s'.1)] [] s'.2 0 0) (kx152 : ∀ q : Int32 × AHeap, Y (.inr q) → JW E kMod_read 152 [some (.ref v0), some (.int v1), some (.int v2), some (.int q.1)] [] q.2 0 0) (s : Int32 × AHeap) : J E kMod_read (Mod_read_b127 v0 v1 v2 s) Y 127 [some (.ref v0), some (.int v1), some (.int v2), some (.int s.1)] [] s.2 0 0 := by
  unfold Mod_read_b127
  refine J_iload_n (pc' := 128) ok (dOf dX11_read 66 rfl) rfl rfl rfl ?_
  refine J_sipush (v := 1427) (pc' := 131) ok (dOf dX11_read 67 rfl) rfl (by decide) ?_
  refine J_icmp_ge (tgt := 152) (pc' := 134) ok (dOf dX11_read 68 rfl) rfl (by decide) ?_ ?_
  · exact J_fin (kx152 (s.1, s.2))
  · refine J_aload_n (pc' := 135) ok (dOf dX11_read 69 rfl) rfl rfl rfl ?_
    refine J_getR (ci := 11) (kf := 5) (C := RX11) (T := TX11) (N := 29) (pc' := 138) ok (dOf dX11_read 70 rfl) rfl (by decide) rfl (by decide) win_11 wfl_X11_22 (fun a23 => ?_)
    refine J_iload_n (pc' := 139) ok (dOf dX11_read 71 rfl) rfl rfl rfl ?_
    refine J_aload_n (pc' := 140) ok (dOf dX11_read 72 rfl) rfl rfl rfl ?_
    refine J_getR (ci := 11) (kf := 6) (C := RX11) (T := TX11) (N := 29) (pc' := 143) ok (dOf dX11_read 73 rfl) rfl (by decide) rfl (by decide) win_11 wfl_X11_25 (fun a24 => ?_)
    refine J_iload_n (pc' := 144) ok (dOf dX11_read 74 rfl) rfl rfl rfl ?_
    refine J_iald (pc' := 145) ok (dOf dX11_read 75 rfl) rfl (fun x25 => ?_)
    refine J_iast (pc' := 146) ok (dOf dX11_read 76 rfl) rfl (fun h26 _ => ?_)
    refine J_iinc (v := s.1 + 1) (ls' := [some (.ref v0), some (.int v1), some (.int v2), some (.int (s.1 + 1))]) (pc' := 149) ok (dOf dX11_read 77 rfl) rfl rfl (by rfl) (Nat.le_of_ble_eq_true rfl) rfl rfl ?_
    refine J_goto (tgt := 127) ok (dOf dX11_read 78 rfl) (by decide) ?_
    exact J_fin (k1 (s.1 + 1, h26))
def Mod_read_j152 (v0 : Nat) (v1 : Int32) (v2 : Int32) (v3 : Int32) (h : AHeap) : Option (Int32 × AHeap) :=
  (chk h v0 11).bind fun _ => bnd2 (Mod_refuses v0 (-6) h) fun x28 h27 => some (x28, h27)
theorem Mod_read_j152_J {E : JE} {l : Launch} {G : GX} {v : Int32} {h' : AHeap} (ok : JOK E l G kMod_read 0 0 (some (.int v)) h') (v0 : Nat) (v1 : Int32) (v2 : Int32) (v3 : Int32) (h : AHeap) : J E kMod_read (Mod_read_j152 v0 v1 v2 v3 h) (fun z => z = (v, h')) 152 [some (.ref v0), some (.int v1), some (.int v2), some (.int v3)] [] h 0 0 := by
  unfold Mod_read_j152
  refine J_aload_n (pc' := 153) ok (dOf dX11_read 79 rfl) rfl rfl rfl ?_
  refine J_bipush (v := (-6)) (pc' := 155) ok (dOf dX11_read 80 rfl) rfl (by decide) ?_
  refine J_callVi (k2 := kMod_refuses) (ci := 11) (T := TX11) (N := 29) (as := [.int (-6)]) (pc' := 158) ok (dOf dX11_read 81 rfl) rfl (cw_Mod_refuses (by decide) (by decide)) wml_X11_85 winst_X11_refuses wsel_X11_refuses rfl ⟨Nat.le_refl 0, Nat.le_refl 0⟩ (Nat.le_of_ble_eq_true rfl) rfl (fun _ _ hf => t_Mod_refuses hf) (fun x28 h27 => ?_)
  exact J_ireturn ok (dOf dX11_read 82 rfl) rfl (Eq.refl 0) (Nat.le_refl 0)
def Mod_read_j118 (v0 : Nat) (v1 : Int32) (v2 : Int32) (h : AHeap) : Option (Int32 × AHeap) :=
  (gfI h v0 11 20).bind fun x19 => (if x19 = 0 then (chk h v0 11).bind fun _ => bnd2 (Mod_keeps v0 0 h) fun _ h20 => (chk h20 v0 11).bind fun _ => bnd2 (Mod_tells v0 v1 h20) fun x22 h21 => some (x22, h21) else (iter (Mod_read_b127 v0 v1 v2) Lmax (0, h)).bind (fun (q127 : Int32 × AHeap) => Mod_read_j152 v0 v1 v2 q127.1 q127.2))
theorem Mod_read_j118_J {E : JE} {l : Launch} {G : GX} {v : Int32} {h' : AHeap} (ok : JOK E l G kMod_read 0 0 (some (.int v)) h') (v0 : Nat) (v1 : Int32) (v2 : Int32) (h : AHeap) : J E kMod_read (Mod_read_j118 v0 v1 v2 h) (fun z => z = (v, h')) 118 [some (.ref v0), some (.int v1), some (.int v2), none] [] h 0 0 := by
  unfold Mod_read_j118
  refine J_aload_n (pc' := 119) ok (dOf dX11_read 61 rfl) rfl rfl rfl ?_
  refine J_getI (ci := 11) (kf := 20) (C := RX11) (T := TX11) (N := 29) (pc' := 122) ok (dOf dX11_read 62 rfl) rfl (by decide) rfl (by decide) win_11 wfl_X11_125 (fun x19 => ?_)
  refine J_if_eq (tgt := 159) (pc' := 125) ok (dOf dX11_read 63 rfl) rfl (by decide) ?_ ?_
  · refine J_aload_n (pc' := 160) ok (dOf dX11_read 83 rfl) rfl rfl rfl ?_
    refine J_iconst (v := 0) (pc' := 161) ok (dOf dX11_read 84 rfl) rfl (by decide) ?_
    refine J_callVv (k2 := kMod_keeps) (ci := 11) (T := TX11) (N := 29) (as := [.int 0]) (pc' := 164) ok (dOf dX11_read 85 rfl) rfl (cw_Mod_keeps (by decide) (by decide)) wml_X11_178 winst_X11_keeps wsel_X11_keeps rfl ⟨Nat.le_refl 0, Nat.le_refl 0⟩ (Nat.le_of_ble_eq_true rfl) rfl (fun _ _ hf => t_Mod_keeps hf) (fun _ h20 => ?_)
    refine J_aload_n (pc' := 165) ok (dOf dX11_read 86 rfl) rfl rfl rfl ?_
    refine J_iload_n (pc' := 166) ok (dOf dX11_read 87 rfl) rfl rfl rfl ?_
    refine J_callVi (k2 := kMod_tells) (ci := 11) (T := TX11) (N := 29) (as := [.int v1]) (pc' := 169) ok (dOf dX11_read 88 rfl) rfl (cw_Mod_tells (by decide) (by decide)) wml_X11_89 winst_X11_tells wsel_X11_tells rfl ⟨Nat.le_refl 0, Nat.le_refl 0⟩ (Nat.le_of_ble_eq_true rfl) rfl (fun _ _ hf => t_Mod_tells hf) (fun x22 h21 => ?_)
    exact J_ireturn ok (dOf dX11_read 89 rfl) rfl (Eq.refl 0) (Nat.le_refl 0)
  · refine J_iconst (v := 0) (pc' := 126) ok (dOf dX11_read 64 rfl) rfl (by decide) ?_
    refine J_istore_n (ls' := [some (.ref v0), some (.int v1), some (.int v2), some (.int 0)]) (pc' := 127) ok (dOf dX11_read 65 rfl) rfl rfl (Nat.le_of_ble_eq_true rfl) rfl rfl ?_
    refine J_iter (lf := fun z127 => [some (.ref v0), some (.int v1), some (.int v2), some (.int z127.1)]) (sf := fun _ => []) (hf := fun z127 => z127.2) (px := (fun (q127 : Int32 × AHeap) => 152)) (lx := (fun (q127 : Int32 × AHeap) => [some (.ref v0), some (.int v1), some (.int v2), some (.int q127.1)])) (sx := (fun (q127 : Int32 × AHeap) => [])) (hx := (fun (q127 : Int32 × AHeap) => q127.2)) (fun Y2 z127 m1 m2 => Mod_read_b127_J ok v0 v1 v2 m1 m2 z127) (fun q127 => ?_) Lmax _
    exact Mod_read_j152_J ok v0 v1 v2 q127.1 q127.2
def Mod_read_j96 (v0 : Nat) (v1 : Int32) (v2 : Int32) (h : AHeap) : Option (Int32 × AHeap) :=
  (gfI h v0 11 20).bind fun x18 => (if ¬ x18 = 0 then Mod_read_j118 v0 v1 v2 h else (gfI h v0 11 18).bind fun x29 => (gfI h v0 11 17).bind fun x30 => (if x30 ≤ x29 then Mod_read_j118 v0 v1 v2 h else (chk h v0 11).bind fun _ => bnd2 (Mod_wrong v0 h) fun _ h31 => Mod_read_j118 v0 v1 v2 h31))
theorem Mod_read_j96_J {E : JE} {l : Launch} {G : GX} {v : Int32} {h' : AHeap} (ok : JOK E l G kMod_read 0 0 (some (.int v)) h') (v0 : Nat) (v1 : Int32) (v2 : Int32) (h : AHeap) : J E kMod_read (Mod_read_j96 v0 v1 v2 h) (fun z => z = (v, h')) 96 [some (.ref v0), some (.int v1), some (.int v2), none] [] h 0 0 := by
  unfold Mod_read_j96
  refine J_aload_n (pc' := 97) ok (dOf dX11_read 51 rfl) rfl rfl rfl ?_
  refine J_getI (ci := 11) (kf := 20) (C := RX11) (T := TX11) (N := 29) (pc' := 100) ok (dOf dX11_read 52 rfl) rfl (by decide) rfl (by decide) win_11 wfl_X11_125 (fun x18 => ?_)
  refine J_if_ne (tgt := 118) (pc' := 103) ok (dOf dX11_read 53 rfl) rfl (by decide) ?_ ?_
  · exact Mod_read_j118_J ok v0 v1 v2 h
  · refine J_aload_n (pc' := 104) ok (dOf dX11_read 54 rfl) rfl rfl rfl ?_
    refine J_getI (ci := 11) (kf := 18) (C := RX11) (T := TX11) (N := 29) (pc' := 107) ok (dOf dX11_read 55 rfl) rfl (by decide) rfl (by decide) win_11 wfl_X11_102 (fun x29 => ?_)
    refine J_aload_n (pc' := 108) ok (dOf dX11_read 56 rfl) rfl rfl rfl ?_
    refine J_getI (ci := 11) (kf := 17) (C := RX11) (T := TX11) (N := 29) (pc' := 111) ok (dOf dX11_read 57 rfl) rfl (by decide) rfl (by decide) win_11 wfl_X11_105 (fun x30 => ?_)
    refine J_icmp_ge (tgt := 118) (pc' := 114) ok (dOf dX11_read 58 rfl) rfl (by decide) ?_ ?_
    · exact Mod_read_j118_J ok v0 v1 v2 h
    · refine J_aload_n (pc' := 115) ok (dOf dX11_read 59 rfl) rfl rfl rfl ?_
      refine J_callVv (k2 := kMod_wrong) (ci := 11) (T := TX11) (N := 29) (as := []) (pc' := 118) ok (dOf dX11_read 60 rfl) rfl (cw_Mod_wrong (by decide) (by decide)) wml_X11_134 winst_X11_wrong wsel_X11_wrong rfl ⟨Nat.le_refl 0, Nat.le_refl 0⟩ (Nat.le_of_ble_eq_true rfl) rfl (fun _ _ hf => t_Mod_wrong hf) (fun _ h31 => ?_)
      exact Mod_read_j118_J ok v0 v1 v2 h31
def Mod_read (v0 : Nat) (h : AHeap) : Option (Int32 × AHeap) :=
  (gfI h v0 11 9).bind fun x1 => (pfV h v0 11 17 (.int x1)).bind fun h2 => (pfV h2 v0 11 9 (.int 0)).bind fun h3 => (pfV h3 v0 11 19 (.int 0)).bind fun h4 => (bz 0).bind fun x6 => (pfV h4 v0 11 20 (.int x6)).bind fun h5 => (pfV h5 v0 11 10 (.int (-1))).bind fun h7 => (chk h7 v0 11).bind fun _ => bnd2 (Mod_keepsAhead v0 h7) fun _ h8 => (chk h8 v0 11).bind fun _ => bnd2 (Mod_empties v0 h8) fun _ h9 => (iter (Mod_read_b40 v0) Lmax (0, 1, h9)).bind (fun (q40 : Int32 × Int32 × AHeap) => Mod_read_j96 v0 q40.1 q40.2.1 q40.2.2)
theorem t_Mod_read {l : Launch} {G : GX} {v0 : Nat} {h : AHeap} {v : Int32} {h1 : AHeap} (hf : Mod_read v0 h = some (v, h1)) : CT l G kMod_read 0 0 [.ref v0] h (some (.int v)) h1 := by
  refine CT_of (ls := [some (.ref v0), none, none, none]) (Z := fun z => z = (v, h1)) (by decide +kernel) (Nat.le_of_ble_eq_true rfl) hf rfl ⟨rfl, trivial⟩ (fun E ok => ?_)
  unfold Mod_read
  refine J_aload_n (pc' := 1) ok (dOf dX11_read 0 rfl) rfl rfl rfl ?_
  refine J_aload_n (pc' := 2) ok (dOf dX11_read 1 rfl) rfl rfl rfl ?_
  refine J_getI (ci := 11) (kf := 9) (C := RX11) (T := TX11) (N := 29) (pc' := 5) ok (dOf dX11_read 2 rfl) rfl (by decide) rfl (by decide) win_11 wfl_X11_92 (fun x1 => ?_)
  refine J_putI (ci := 11) (kf := 17) (C := RX11) (T := TX11) (N := 29) (pc' := 8) ok tyX11 (dOf dX11_read 3 rfl) rfl rfl (by decide) win_11 tyX11_ok nmX11 rfl rfl wfl_X11_105 (fun h2 _ => ?_)
  refine J_aload_n (pc' := 9) ok (dOf dX11_read 4 rfl) rfl rfl rfl ?_
  refine J_iconst (v := 0) (pc' := 10) ok (dOf dX11_read 5 rfl) rfl (by decide) ?_
  refine J_putI (ci := 11) (kf := 9) (C := RX11) (T := TX11) (N := 29) (pc' := 13) ok tyX11 (dOf dX11_read 6 rfl) rfl rfl (by decide) win_11 tyX11_ok nmX11 rfl rfl wfl_X11_92 (fun h3 _ => ?_)
  refine J_aload_n (pc' := 14) ok (dOf dX11_read 7 rfl) rfl rfl rfl ?_
  refine J_iconst (v := 0) (pc' := 15) ok (dOf dX11_read 8 rfl) rfl (by decide) ?_
  refine J_putI (ci := 11) (kf := 19) (C := RX11) (T := TX11) (N := 29) (pc' := 18) ok tyX11 (dOf dX11_read 9 rfl) rfl rfl (by decide) win_11 tyX11_ok nmX11 rfl rfl wfl_X11_99 (fun h4 _ => ?_)
  refine J_aload_n (pc' := 19) ok (dOf dX11_read 10 rfl) rfl rfl rfl ?_
  refine J_iconst (v := 0) (pc' := 20) ok (dOf dX11_read 11 rfl) rfl (by decide) ?_
  refine J_putZ (ci := 11) (kf := 20) (C := RX11) (T := TX11) (N := 29) (pc' := 23) ok tyX11 (dOf dX11_read 12 rfl) rfl rfl (by decide) win_11 tyX11_ok nmX11 rfl rfl wfl_X11_125 (fun h5 _ => ?_)
  refine J_aload_n (pc' := 24) ok (dOf dX11_read 13 rfl) rfl rfl rfl ?_
  refine J_iconst (v := (-1)) (pc' := 25) ok (dOf dX11_read 14 rfl) rfl (by decide) ?_
  refine J_putI (ci := 11) (kf := 10) (C := RX11) (T := TX11) (N := 29) (pc' := 28) ok tyX11 (dOf dX11_read 15 rfl) rfl rfl (by decide) win_11 tyX11_ok nmX11 rfl rfl wfl_X11_34 (fun h7 _ => ?_)
  refine J_aload_n (pc' := 29) ok (dOf dX11_read 16 rfl) rfl rfl rfl ?_
  refine J_callVv (k2 := kMod_keepsAhead) (ci := 11) (T := TX11) (N := 29) (as := []) (pc' := 32) ok (dOf dX11_read 17 rfl) rfl (cw_Mod_keepsAhead (by decide) (by decide)) wml_X11_172 winst_X11_keepsAhead wsel_X11_keepsAhead rfl ⟨Nat.le_refl 0, Nat.le_refl 0⟩ (Nat.le_of_ble_eq_true rfl) rfl (fun _ _ hf => t_Mod_keepsAhead hf) (fun _ h8 => ?_)
  refine J_aload_n (pc' := 33) ok (dOf dX11_read 18 rfl) rfl rfl rfl ?_
  refine J_callVv (k2 := kMod_empties) (ci := 11) (T := TX11) (N := 29) (as := []) (pc' := 36) ok (dOf dX11_read 19 rfl) rfl (cw_Mod_empties (by decide) (by decide)) wml_X11_66 winst_X11_empties wsel_X11_empties rfl ⟨Nat.le_refl 0, Nat.le_refl 0⟩ (Nat.le_of_ble_eq_true rfl) rfl (fun _ _ hf => t_Mod_empties hf) (fun _ h9 => ?_)
  refine J_iconst (v := 0) (pc' := 37) ok (dOf dX11_read 20 rfl) rfl (by decide) ?_
  refine J_istore_n (ls' := [some (.ref v0), some (.int 0), none, none]) (pc' := 38) ok (dOf dX11_read 21 rfl) rfl rfl (Nat.le_of_ble_eq_true rfl) rfl rfl ?_
  refine J_iconst (v := 1) (pc' := 39) ok (dOf dX11_read 22 rfl) rfl (by decide) ?_
  refine J_istore_n (ls' := [some (.ref v0), some (.int 0), some (.int 1), none]) (pc' := 40) ok (dOf dX11_read 23 rfl) rfl rfl (Nat.le_of_ble_eq_true rfl) rfl rfl ?_
  refine J_iter (lf := fun z40 => [some (.ref v0), some (.int z40.1), some (.int z40.2.1), none]) (sf := fun _ => []) (hf := fun z40 => z40.2.2) (px := (fun (q40 : Int32 × Int32 × AHeap) => 96)) (lx := (fun (q40 : Int32 × Int32 × AHeap) => [some (.ref v0), some (.int q40.1), some (.int q40.2.1), none])) (sx := (fun (q40 : Int32 × Int32 × AHeap) => [])) (hx := (fun (q40 : Int32 × Int32 × AHeap) => q40.2.2)) (fun Y2 z40 m1 m2 => Mod_read_b40_J ok v0 m1 m2 z40) (fun q40 => ?_) Lmax _
  exact Mod_read_j96_J ok v0 q40.1 q40.2.1 q40.2.2
-- X11_fault
abbrev kMod_fault : Cd := (yX11_fault, cX11_fault, 1, (some .int), 0, 0)
theorem dX11_fault : dcheck cX11_fault [(0, .aload_n 0, 1), (1, .getfield 34, 3), (4, .ireturn, 1)] = true := by decide +kernel
theorem cw_Mod_fault {k : Cd} (h1 : kMod_fault.2.2.2.2.1 + 1 ≤ k.2.2.2.2.1) (h2 : 8 + (kMod_fault.2.2.1 + 11) + kMod_fault.2.2.2.2.2 ≤ k.2.2.2.2.2) : Cw k kMod_fault 0 := ⟨wcode_X11_fault, wini_SplitProgramModel, ⟨by decide, by decide, by decide +kernel⟩, h1, h2⟩
def Mod_fault (v0 : Nat) (h : AHeap) : Option (Int32 × AHeap) :=
  (gfI h v0 11 10).bind fun x1 => some (x1, h)
theorem t_Mod_fault {l : Launch} {G : GX} {v0 : Nat} {h : AHeap} {v : Int32} {h1 : AHeap} (hf : Mod_fault v0 h = some (v, h1)) : CT l G kMod_fault 0 0 [.ref v0] h (some (.int v)) h1 := by
  refine CT_of (ls := [some (.ref v0)]) (Z := fun z => z = (v, h1)) (by decide +kernel) (Nat.le_of_ble_eq_true rfl) hf rfl ⟨rfl, trivial⟩ (fun E ok => ?_)
  unfold Mod_fault
  refine J_aload_n (pc' := 1) ok (dOf dX11_fault 0 rfl) rfl rfl rfl ?_
  refine J_getI (ci := 11) (kf := 10) (C := RX11) (T := TX11) (N := 29) (pc' := 4) ok (dOf dX11_fault 1 rfl) rfl (by decide) rfl (by decide) win_11 wfl_X11_34 (fun x1 => ?_)
  exact J_ireturn ok (dOf dX11_fault 2 rfl) rfl (Eq.refl 0) (Nat.le_refl 0)
-- X11_holds
abbrev kMod_holds : Cd := (yX11_holds, cX11_holds, 5, (some .boolean), 1, 22)
theorem dX11_holds : dcheck cX11_holds [(0, .bipush 75, 2), (2, .bipush 13, 2), (4, .iload_n 1, 1), (5, .imul, 1), (6, .iadd, 1), (7, .istore_n 2, 1), (8, .iconst 0, 1), (9, .istore_n 3, 1), (10, .iload_n 3, 1), (11, .iconst 4, 1), (12, .if_icmp .ge 87, 3), (15, .iconst 0, 1), (16, .istore 4, 2), (18, .iload 4, 2), (20, .bipush 6, 2), (22, .if_icmp .ge 71, 3), (25, .aload_n 0, 1), (26, .iload_n 3, 1), (27, .iload 4, 2), (29, .invokevirtual 148, 3), (32, .iconst (-1), 1), (33, .if_icmp .eq 54, 3), (36, .aload_n 0, 1), (37, .getfield 22, 3), (40, .iload_n 2, 1), (41, .bipush 7, 2), (43, .iadd, 1), (44, .iload 4, 2), (46, .iadd, 1), (47, .iaload, 1), (48, .aload_n 0, 1), (49, .getfield 22, 3), (52, .iload_n 2, 1), (53, .iconst 3, 1), (54, .iadd, 1), (55, .iload_n 3, 1), (56, .iadd, 1), (57, .iaload, 1), (58, .aload_n 0, 1), (59, .getfield 22, 3), (62, .iload_n 2, 1), (63, .iconst 1, 1), (64, .iadd, 1), (65, .iaload, 1), (66, .iconst 1, 1), (67, .if_icmp .ne 7, 3), (70, .iconst 0, 1), (71, .goto 10, 3), (74, .aload_n 0, 1), (75, .iload_n 3, 1), (76, .iload 4, 2), (78, .invokevirtual 148, 3), (81, .iadd, 1), (82, .if_icmp .le 5, 3), (85, .iconst 0, 1), (86, .ireturn, 1), (87, .iinc 4 1, 3), (90, .goto (-72), 3), (93, .iinc 3 1, 3), (96, .goto (-86), 3), (99, .iconst 1, 1), (100, .ireturn, 1)] = true := by decide +kernel
theorem cw_Mod_holds {k : Cd} (h1 : kMod_holds.2.2.2.2.1 + 1 ≤ k.2.2.2.2.1) (h2 : 8 + (kMod_holds.2.2.1 + 11) + kMod_holds.2.2.2.2.2 ≤ k.2.2.2.2.2) : Cw k kMod_holds 1 := ⟨wcode_X11_holds, wini_SplitProgramModel, ⟨by decide, by decide, by decide +kernel⟩, h1, h2⟩
def Mod_holds_j87 (v0 : Nat) (v1 : Int32) (v2 : Int32) (v3 : Int32) (v4 : Int32) (h : AHeap) : Option ((Int32 × AHeap) ⊕ ((Int32 × AHeap) ⊕ (Int32 × AHeap))) :=
  some (Sum.inl (v4 + 1, h))
theorem Mod_holds_j87_J {E : JE} {l : Launch} {G : GX} {r : Option Value} {h' : AHeap} (ok : JOK E l G kMod_holds 0 0 r h') (v0 : Nat) (v1 : Int32) (v2 : Int32) (v3 : Int32) (v4 : Int32) (h : AHeap) {Y : (Int32 × AHeap) ⊕ ((Int32 × AHeap) ⊕ (Int32 × AHeap)) → Prop} (k1 : ∀ s' : Int32 × AHeap, Y (.inl s') → JW E kMod_holds 18 [some (.ref v0), some (.int v1), some (.int v2), some (.int v3), some (.int s'.1)] [] s'.2 0 0) (kx85 : ∀ q : Int32 × AHeap, Y (.inr (Sum.inl q)) → JW E kMod_holds 85 [some (.ref v0), some (.int v1), some (.int v2), some (.int v3), some (.int q.1)] [] q.2 0 0) (kx93 : ∀ q : Int32 × AHeap, Y (.inr (Sum.inr q)) → JW E kMod_holds 93 [some (.ref v0), some (.int v1), some (.int v2), some (.int v3), some (.int q.1)] [] q.2 0 0) : J E kMod_holds (Mod_holds_j87 v0 v1 v2 v3 v4 h) Y 87 [some (.ref v0), some (.int v1), some (.int v2), some (.int v3), some (.int v4)] [] h 0 0 := by
  unfold Mod_holds_j87
  refine J_iinc (v := v4 + 1) (ls' := [some (.ref v0), some (.int v1), some (.int v2), some (.int v3), some (.int (v4 + 1))]) (pc' := 90) ok (dOf dX11_holds 56 rfl) rfl rfl (by rfl) (Nat.le_of_ble_eq_true rfl) rfl rfl ?_
  refine J_goto (tgt := 18) ok (dOf dX11_holds 57 rfl) (by decide) ?_
  exact J_fin (k1 (v4 + 1, h))
def Mod_holds_j81 (v0 : Nat) (v1 : Int32) (v2 : Int32) (v3 : Int32) (v4 : Int32) (t0 : Int32) (t1 : Int32) (t2 : Int32) (h : AHeap) : Option ((Int32 × AHeap) ⊕ ((Int32 × AHeap) ⊕ (Int32 × AHeap))) :=
  (if t0 ≤ (t1 + t2) then Mod_holds_j87 v0 v1 v2 v3 v4 h else some (Sum.inr (Sum.inl (v4, h))))
theorem Mod_holds_j81_J {E : JE} {l : Launch} {G : GX} {r : Option Value} {h' : AHeap} (ok : JOK E l G kMod_holds 0 0 r h') (v0 : Nat) (v1 : Int32) (v2 : Int32) (v3 : Int32) (v4 : Int32) (t0 : Int32) (t1 : Int32) (t2 : Int32) (h : AHeap) {Y : (Int32 × AHeap) ⊕ ((Int32 × AHeap) ⊕ (Int32 × AHeap)) → Prop} (k1 : ∀ s' : Int32 × AHeap, Y (.inl s') → JW E kMod_holds 18 [some (.ref v0), some (.int v1), some (.int v2), some (.int v3), some (.int s'.1)] [] s'.2 0 0) (kx85 : ∀ q : Int32 × AHeap, Y (.inr (Sum.inl q)) → JW E kMod_holds 85 [some (.ref v0), some (.int v1), some (.int v2), some (.int v3), some (.int q.1)] [] q.2 0 0) (kx93 : ∀ q : Int32 × AHeap, Y (.inr (Sum.inr q)) → JW E kMod_holds 93 [some (.ref v0), some (.int v1), some (.int v2), some (.int v3), some (.int q.1)] [] q.2 0 0) : J E kMod_holds (Mod_holds_j81 v0 v1 v2 v3 v4 t0 t1 t2 h) Y 81 [some (.ref v0), some (.int v1), some (.int v2), some (.int v3), some (.int v4)] [.int t2, .int t1, .int t0] h 0 0 := by
  unfold Mod_holds_j81
  refine J_iadd (pc' := 82) ok (dOf dX11_holds 52 rfl) rfl ?_
  refine J_icmp_le (tgt := 87) (pc' := 85) ok (dOf dX11_holds 53 rfl) rfl (by decide) ?_ ?_
  · exact Mod_holds_j87_J ok v0 v1 v2 v3 v4 h k1 kx85 kx93
  · exact J_fin (kx85 (v4, h))
def Mod_holds_b18 (v0 : Nat) (v1 : Int32) (v2 : Int32) (v3 : Int32) (s : Int32 × AHeap) : Option ((Int32 × AHeap) ⊕ ((Int32 × AHeap) ⊕ (Int32 × AHeap))) :=
  (if 6 ≤ s.1 then some (Sum.inr (Sum.inr (s.1, s.2))) else (chk s.2 v0 11).bind fun _ => bnd2 (Mod_toll v0 v3 s.1 s.2) fun x2 h1 => (if x2 = (-1) then Mod_holds_j87 v0 v1 v2 v3 s.1 h1 else (gfR h1 v0 11 5).bind fun a3 => (ald 0 h1 a3 ((v2 + 7) + s.1)).bind fun x4 => (gfR h1 v0 11 5).bind fun a5 => (ald 0 h1 a5 ((v2 + 3) + v3)).bind fun x6 => (gfR h1 v0 11 5).bind fun a7 => (ald 0 h1 a7 (v2 + 1)).bind fun x8 => (if ¬ x8 = 1 then (chk h1 v0 11).bind fun _ => bnd2 (Mod_toll v0 v3 s.1 h1) fun x10 h9 => Mod_holds_j81 v0 v1 v2 v3 s.1 x4 x6 x10 h9 else Mod_holds_j81 v0 v1 v2 v3 s.1 x4 x6 0 h1)))
theorem Mod_holds_b18_J {E : JE} {l : Launch} {G : GX} {r : Option Value} {h' : AHeap} (ok : JOK E l G kMod_holds 0 0 r h') (v0 : Nat) (v1 : Int32) (v2 : Int32) (v3 : Int32) {Y : (Int32 × AHeap) ⊕ ((Int32 × AHeap) ⊕ (Int32 × AHeap)) → Prop} (k1 : ∀ s' : Int32 × AHeap, Y (.inl s') → JW E kMod_holds 18 [some (.ref v0), some (.int v1), some (.int v2), some (.int v3), some (.int s'.1)] [] s'.2 0 0) (kx85 : ∀ q : Int32 × AHeap, Y (.inr (Sum.inl q)) → JW E kMod_holds 85 [some (.ref v0), some (.int v1), some (.int v2), some (.int v3), some (.int q.1)] [] q.2 0 0) (kx93 : ∀ q : Int32 × AHeap, Y (.inr (Sum.inr q)) → JW E kMod_holds 93 [some (.ref v0), some (.int v1), some (.int v2), some (.int v3), some (.int q.1)] [] q.2 0 0) (s : Int32 × AHeap) : J E kMod_holds (Mod_holds_b18 v0 v1 v2 v3 s) Y 18 [some (.ref v0), some (.int v1), some (.int v2), some (.int v3), some (.int s.1)] [] s.2 0 0 := by
  unfold Mod_holds_b18
  refine J_iload (pc' := 20) ok (dOf dX11_holds 13 rfl) rfl rfl ?_
  refine J_bipush (v := 6) (pc' := 22) ok (dOf dX11_holds 14 rfl) rfl (by decide) ?_
  refine J_icmp_ge (tgt := 93) (pc' := 25) ok (dOf dX11_holds 15 rfl) rfl (by decide) ?_ ?_
  · exact J_fin (kx93 (s.1, s.2))
  · refine J_aload_n (pc' := 26) ok (dOf dX11_holds 16 rfl) rfl rfl rfl ?_
    refine J_iload_n (pc' := 27) ok (dOf dX11_holds 17 rfl) rfl rfl rfl ?_
    refine J_iload (pc' := 29) ok (dOf dX11_holds 18 rfl) rfl rfl ?_
    refine J_callVi (k2 := kMod_toll) (ci := 11) (T := TX11) (N := 29) (as := [.int v3, .int s.1]) (pc' := 32) ok (dOf dX11_holds 19 rfl) rfl (cw_Mod_toll (by decide) (by decide)) wml_X11_148 winst_X11_toll wsel_X11_toll rfl ⟨Nat.le_refl 0, Nat.le_refl 0⟩ (Nat.le_of_ble_eq_true rfl) rfl (fun _ _ hf => t_Mod_toll hf) (fun x2 h1 => ?_)
    refine J_iconst (v := (-1)) (pc' := 33) ok (dOf dX11_holds 20 rfl) rfl (by decide) ?_
    refine J_icmp_eq (tgt := 87) (pc' := 36) ok (dOf dX11_holds 21 rfl) rfl (by decide) ?_ ?_
    · exact Mod_holds_j87_J ok v0 v1 v2 v3 s.1 h1 k1 kx85 kx93
    · refine J_aload_n (pc' := 37) ok (dOf dX11_holds 22 rfl) rfl rfl rfl ?_
      refine J_getR (ci := 11) (kf := 5) (C := RX11) (T := TX11) (N := 29) (pc' := 40) ok (dOf dX11_holds 23 rfl) rfl (by decide) rfl (by decide) win_11 wfl_X11_22 (fun a3 => ?_)
      refine J_iload_n (pc' := 41) ok (dOf dX11_holds 24 rfl) rfl rfl rfl ?_
      refine J_bipush (v := 7) (pc' := 43) ok (dOf dX11_holds 25 rfl) rfl (by decide) ?_
      refine J_iadd (pc' := 44) ok (dOf dX11_holds 26 rfl) rfl ?_
      refine J_iload (pc' := 46) ok (dOf dX11_holds 27 rfl) rfl rfl ?_
      refine J_iadd (pc' := 47) ok (dOf dX11_holds 28 rfl) rfl ?_
      refine J_iald (pc' := 48) ok (dOf dX11_holds 29 rfl) rfl (fun x4 => ?_)
      refine J_aload_n (pc' := 49) ok (dOf dX11_holds 30 rfl) rfl rfl rfl ?_
      refine J_getR (ci := 11) (kf := 5) (C := RX11) (T := TX11) (N := 29) (pc' := 52) ok (dOf dX11_holds 31 rfl) rfl (by decide) rfl (by decide) win_11 wfl_X11_22 (fun a5 => ?_)
      refine J_iload_n (pc' := 53) ok (dOf dX11_holds 32 rfl) rfl rfl rfl ?_
      refine J_iconst (v := 3) (pc' := 54) ok (dOf dX11_holds 33 rfl) rfl (by decide) ?_
      refine J_iadd (pc' := 55) ok (dOf dX11_holds 34 rfl) rfl ?_
      refine J_iload_n (pc' := 56) ok (dOf dX11_holds 35 rfl) rfl rfl rfl ?_
      refine J_iadd (pc' := 57) ok (dOf dX11_holds 36 rfl) rfl ?_
      refine J_iald (pc' := 58) ok (dOf dX11_holds 37 rfl) rfl (fun x6 => ?_)
      refine J_aload_n (pc' := 59) ok (dOf dX11_holds 38 rfl) rfl rfl rfl ?_
      refine J_getR (ci := 11) (kf := 5) (C := RX11) (T := TX11) (N := 29) (pc' := 62) ok (dOf dX11_holds 39 rfl) rfl (by decide) rfl (by decide) win_11 wfl_X11_22 (fun a7 => ?_)
      refine J_iload_n (pc' := 63) ok (dOf dX11_holds 40 rfl) rfl rfl rfl ?_
      refine J_iconst (v := 1) (pc' := 64) ok (dOf dX11_holds 41 rfl) rfl (by decide) ?_
      refine J_iadd (pc' := 65) ok (dOf dX11_holds 42 rfl) rfl ?_
      refine J_iald (pc' := 66) ok (dOf dX11_holds 43 rfl) rfl (fun x8 => ?_)
      refine J_iconst (v := 1) (pc' := 67) ok (dOf dX11_holds 44 rfl) rfl (by decide) ?_
      refine J_icmp_ne (tgt := 74) (pc' := 70) ok (dOf dX11_holds 45 rfl) rfl (by decide) ?_ ?_
      · refine J_aload_n (pc' := 75) ok (dOf dX11_holds 48 rfl) rfl rfl rfl ?_
        refine J_iload_n (pc' := 76) ok (dOf dX11_holds 49 rfl) rfl rfl rfl ?_
        refine J_iload (pc' := 78) ok (dOf dX11_holds 50 rfl) rfl rfl ?_
        refine J_callVi (k2 := kMod_toll) (ci := 11) (T := TX11) (N := 29) (as := [.int v3, .int s.1]) (pc' := 81) ok (dOf dX11_holds 51 rfl) rfl (cw_Mod_toll (by decide) (by decide)) wml_X11_148 winst_X11_toll wsel_X11_toll rfl ⟨Nat.le_refl 0, Nat.le_refl 0⟩ (Nat.le_of_ble_eq_true rfl) rfl (fun _ _ hf => t_Mod_toll hf) (fun x10 h9 => ?_)
        exact Mod_holds_j81_J ok v0 v1 v2 v3 s.1 x4 x6 x10 h9 k1 kx85 kx93
      · refine J_iconst (v := 0) (pc' := 71) ok (dOf dX11_holds 46 rfl) rfl (by decide) ?_
        refine J_goto (tgt := 81) ok (dOf dX11_holds 47 rfl) (by decide) ?_
        exact Mod_holds_j81_J ok v0 v1 v2 v3 s.1 x4 x6 0 h1 k1 kx85 kx93
def Mod_holds_j93 (v0 : Nat) (v1 : Int32) (v2 : Int32) (v3 : Int32) (v4 : Int32) (h : AHeap) : Option ((Int32 × AHeap) ⊕ ((Int32 × Int32 × AHeap) ⊕ (Int32 × AHeap))) :=
  some (Sum.inl (v3 + 1, h))
theorem Mod_holds_j93_J {E : JE} {l : Launch} {G : GX} {r : Option Value} {h' : AHeap} (ok : JOK E l G kMod_holds 0 0 r h') (v0 : Nat) (v1 : Int32) (v2 : Int32) (v3 : Int32) (v4 : Int32) (h : AHeap) {Y : (Int32 × AHeap) ⊕ ((Int32 × Int32 × AHeap) ⊕ (Int32 × AHeap)) → Prop} (k1 : ∀ s' : Int32 × AHeap, Y (.inl s') → JW E kMod_holds 10 [some (.ref v0), some (.int v1), some (.int v2), some (.int s'.1), none] [] s'.2 0 0) (kx85 : ∀ q : Int32 × Int32 × AHeap, Y (.inr (Sum.inl q)) → JW E kMod_holds 85 [some (.ref v0), some (.int v1), some (.int v2), some (.int q.1), some (.int q.2.1)] [] q.2.2 0 0) (kx99 : ∀ q : Int32 × AHeap, Y (.inr (Sum.inr q)) → JW E kMod_holds 99 [some (.ref v0), some (.int v1), some (.int v2), some (.int q.1), none] [] q.2 0 0) : J E kMod_holds (Mod_holds_j93 v0 v1 v2 v3 v4 h) Y 93 [some (.ref v0), some (.int v1), some (.int v2), some (.int v3), some (.int v4)] [] h 0 0 := by
  unfold Mod_holds_j93
  refine J_iinc (v := v3 + 1) (ls' := [some (.ref v0), some (.int v1), some (.int v2), some (.int (v3 + 1)), some (.int v4)]) (pc' := 96) ok (dOf dX11_holds 58 rfl) rfl rfl (by rfl) (Nat.le_of_ble_eq_true rfl) rfl rfl ?_
  refine J_goto (tgt := 10) ok (dOf dX11_holds 59 rfl) (by decide) ?_
  refine J_weak (ls' := [some (.ref v0), some (.int v1), some (.int v2), some (.int (v3 + 1)), none]) ⟨rfl, rfl, rfl, rfl, trivial⟩ ?_
  exact J_fin (k1 (v3 + 1, h))
def Mod_holds_b10 (v0 : Nat) (v1 : Int32) (v2 : Int32) (s : Int32 × AHeap) : Option ((Int32 × AHeap) ⊕ ((Int32 × Int32 × AHeap) ⊕ (Int32 × AHeap))) :=
  (if 4 ≤ s.1 then some (Sum.inr (Sum.inr (s.1, s.2))) else (iter (Mod_holds_b18 v0 v1 v2 s.1) Lmax (0, s.2)).bind (Sum.elim (fun (q18 : Int32 × AHeap) => some (Sum.inr (Sum.inl (s.1, q18.1, q18.2)))) (fun (q18 : Int32 × AHeap) => Mod_holds_j93 v0 v1 v2 s.1 q18.1 q18.2)))
theorem Mod_holds_b10_J {E : JE} {l : Launch} {G : GX} {r : Option Value} {h' : AHeap} (ok : JOK E l G kMod_holds 0 0 r h') (v0 : Nat) (v1 : Int32) (v2 : Int32) {Y : (Int32 × AHeap) ⊕ ((Int32 × Int32 × AHeap) ⊕ (Int32 × AHeap)) → Prop} (k1 : ∀ s' : Int32 × AHeap, Y (.inl s') → JW E kMod_holds 10 [some (.ref v0), some (.int v1), some (.int v2), some (.int s'.1), none] [] s'.2 0 0) (kx85 : ∀ q : Int32 × Int32 × AHeap, Y (.inr (Sum.inl q)) → JW E kMod_holds 85 [some (.ref v0), some (.int v1), some (.int v2), some (.int q.1), some (.int q.2.1)] [] q.2.2 0 0) (kx99 : ∀ q : Int32 × AHeap, Y (.inr (Sum.inr q)) → JW E kMod_holds 99 [some (.ref v0), some (.int v1), some (.int v2), some (.int q.1), none] [] q.2 0 0) (s : Int32 × AHeap) : J E kMod_holds (Mod_holds_b10 v0 v1 v2 s) Y 10 [some (.ref v0), some (.int v1), some (.int v2), some (.int s.1), none] [] s.2 0 0 := by
  unfold Mod_holds_b10
  refine J_iload_n (pc' := 11) ok (dOf dX11_holds 8 rfl) rfl rfl rfl ?_
  refine J_iconst (v := 4) (pc' := 12) ok (dOf dX11_holds 9 rfl) rfl (by decide) ?_
  refine J_icmp_ge (tgt := 99) (pc' := 15) ok (dOf dX11_holds 10 rfl) rfl (by decide) ?_ ?_
  · exact J_fin (kx99 (s.1, s.2))
  · refine J_iconst (v := 0) (pc' := 16) ok (dOf dX11_holds 11 rfl) rfl (by decide) ?_
    refine J_istore (ls' := [some (.ref v0), some (.int v1), some (.int v2), some (.int s.1), some (.int 0)]) (pc' := 18) ok (dOf dX11_holds 12 rfl) rfl (Nat.le_of_ble_eq_true rfl) rfl rfl ?_
    refine J_iter (lf := fun z18 => [some (.ref v0), some (.int v1), some (.int v2), some (.int s.1), some (.int z18.1)]) (sf := fun _ => []) (hf := fun z18 => z18.2) (px := (Sum.elim (fun (q18 : Int32 × AHeap) => 85) (fun (q18 : Int32 × AHeap) => 93))) (lx := (Sum.elim (fun (q18 : Int32 × AHeap) => [some (.ref v0), some (.int v1), some (.int v2), some (.int s.1), some (.int q18.1)]) (fun (q18 : Int32 × AHeap) => [some (.ref v0), some (.int v1), some (.int v2), some (.int s.1), some (.int q18.1)]))) (sx := (Sum.elim (fun (q18 : Int32 × AHeap) => []) (fun (q18 : Int32 × AHeap) => []))) (hx := (Sum.elim (fun (q18 : Int32 × AHeap) => q18.2) (fun (q18 : Int32 × AHeap) => q18.2))) (fun Y2 z18 m1 m2 => Mod_holds_b18_J ok v0 v1 v2 s.1 m1 (fun q hq => m2 (Sum.inl q) hq) (fun q hq => m2 (Sum.inr q) hq) z18) (fun q18 => ?_) Lmax _
    rcases q18 with q18 | q18
    · show J E kMod_holds (some (Sum.inr (Sum.inl (s.1, q18.1, q18.2)))) _ 85 [some (.ref v0), some (.int v1), some (.int v2), some (.int s.1), some (.int q18.1)] [] q18.2 0 0
      exact J_fin (kx85 (s.1, q18.1, q18.2))
    · show J E kMod_holds (Mod_holds_j93 v0 v1 v2 s.1 q18.1 q18.2) _ 93 [some (.ref v0), some (.int v1), some (.int v2), some (.int s.1), some (.int q18.1)] [] q18.2 0 0
      exact Mod_holds_j93_J ok v0 v1 v2 s.1 q18.1 q18.2 k1 kx85 kx99
def Mod_holds_j85 (v0 : Nat) (v1 : Int32) (v2 : Int32) (v3 : Int32) (v4 : Int32) (h : AHeap) : Option (Int32 × AHeap) :=
  (bz 0).bind fun z => some (z, h)
theorem Mod_holds_j85_J {E : JE} {l : Launch} {G : GX} {v : Int32} {h' : AHeap} (ok : JOK E l G kMod_holds 0 0 (some (.int v)) h') (v0 : Nat) (v1 : Int32) (v2 : Int32) (v3 : Int32) (v4 : Int32) (h : AHeap) : J E kMod_holds (Mod_holds_j85 v0 v1 v2 v3 v4 h) (fun z => z = (v, h')) 85 [some (.ref v0), some (.int v1), some (.int v2), some (.int v3), some (.int v4)] [] h 0 0 := by
  unfold Mod_holds_j85
  refine J_iconst (v := 0) (pc' := 86) ok (dOf dX11_holds 54 rfl) rfl (by decide) ?_
  exact J_zreturn ok (dOf dX11_holds 55 rfl) rfl (Eq.refl 0) (Nat.le_refl 0)
def Mod_holds_j99 (v0 : Nat) (v1 : Int32) (v2 : Int32) (v3 : Int32) (h : AHeap) : Option (Int32 × AHeap) :=
  (bz 1).bind fun z => some (z, h)
theorem Mod_holds_j99_J {E : JE} {l : Launch} {G : GX} {v : Int32} {h' : AHeap} (ok : JOK E l G kMod_holds 0 0 (some (.int v)) h') (v0 : Nat) (v1 : Int32) (v2 : Int32) (v3 : Int32) (h : AHeap) : J E kMod_holds (Mod_holds_j99 v0 v1 v2 v3 h) (fun z => z = (v, h')) 99 [some (.ref v0), some (.int v1), some (.int v2), some (.int v3), none] [] h 0 0 := by
  unfold Mod_holds_j99
  refine J_iconst (v := 1) (pc' := 100) ok (dOf dX11_holds 60 rfl) rfl (by decide) ?_
  exact J_zreturn ok (dOf dX11_holds 61 rfl) rfl (Eq.refl 0) (Nat.le_refl 0)
def Mod_holds (v0 : Nat) (v1 : Int32) (h : AHeap) : Option (Int32 × AHeap) :=
  (iter (Mod_holds_b10 v0 v1 (75 + (13 * v1))) Lmax (0, h)).bind (Sum.elim (fun (q10 : Int32 × Int32 × AHeap) => Mod_holds_j85 v0 v1 (75 + (13 * v1)) q10.1 q10.2.1 q10.2.2) (fun (q10 : Int32 × AHeap) => Mod_holds_j99 v0 v1 (75 + (13 * v1)) q10.1 q10.2))
theorem t_Mod_holds {l : Launch} {G : GX} {v0 : Nat} {v1 : Int32} {h : AHeap} {v : Int32} {h1 : AHeap} (hf : Mod_holds v0 v1 h = some (v, h1)) : CT l G kMod_holds 0 0 [.ref v0, .int v1] h (some (.int v)) h1 := by
  refine CT_of (ls := [some (.ref v0), some (.int v1), none, none, none]) (Z := fun z => z = (v, h1)) (by decide +kernel) (Nat.le_of_ble_eq_true rfl) hf rfl ⟨rfl, rfl, trivial⟩ (fun E ok => ?_)
  unfold Mod_holds
  refine J_bipush (v := 75) (pc' := 2) ok (dOf dX11_holds 0 rfl) rfl (by decide) ?_
  refine J_bipush (v := 13) (pc' := 4) ok (dOf dX11_holds 1 rfl) rfl (by decide) ?_
  refine J_iload_n (pc' := 5) ok (dOf dX11_holds 2 rfl) rfl rfl rfl ?_
  refine J_imul (pc' := 6) ok (dOf dX11_holds 3 rfl) rfl ?_
  refine J_iadd (pc' := 7) ok (dOf dX11_holds 4 rfl) rfl ?_
  refine J_istore_n (ls' := [some (.ref v0), some (.int v1), some (.int (75 + (13 * v1))), none, none]) (pc' := 8) ok (dOf dX11_holds 5 rfl) rfl rfl (Nat.le_of_ble_eq_true rfl) rfl rfl ?_
  refine J_iconst (v := 0) (pc' := 9) ok (dOf dX11_holds 6 rfl) rfl (by decide) ?_
  refine J_istore_n (ls' := [some (.ref v0), some (.int v1), some (.int (75 + (13 * v1))), some (.int 0), none]) (pc' := 10) ok (dOf dX11_holds 7 rfl) rfl rfl (Nat.le_of_ble_eq_true rfl) rfl rfl ?_
  refine J_iter (lf := fun z10 => [some (.ref v0), some (.int v1), some (.int (75 + (13 * v1))), some (.int z10.1), none]) (sf := fun _ => []) (hf := fun z10 => z10.2) (px := (Sum.elim (fun (q10 : Int32 × Int32 × AHeap) => 85) (fun (q10 : Int32 × AHeap) => 99))) (lx := (Sum.elim (fun (q10 : Int32 × Int32 × AHeap) => [some (.ref v0), some (.int v1), some (.int (75 + (13 * v1))), some (.int q10.1), some (.int q10.2.1)]) (fun (q10 : Int32 × AHeap) => [some (.ref v0), some (.int v1), some (.int (75 + (13 * v1))), some (.int q10.1), none]))) (sx := (Sum.elim (fun (q10 : Int32 × Int32 × AHeap) => []) (fun (q10 : Int32 × AHeap) => []))) (hx := (Sum.elim (fun (q10 : Int32 × Int32 × AHeap) => q10.2.2) (fun (q10 : Int32 × AHeap) => q10.2))) (fun Y2 z10 m1 m2 => Mod_holds_b10_J ok v0 v1 (75 + (13 * v1)) m1 (fun q hq => m2 (Sum.inl q) hq) (fun q hq => m2 (Sum.inr q) hq) z10) (fun q10 => ?_) Lmax _
  rcases q10 with q10 | q10
  · show J E kMod_holds (Mod_holds_j85 v0 v1 (75 + (13 * v1)) q10.1 q10.2.1 q10.2.2) _ 85 [some (.ref v0), some (.int v1), some (.int (75 + (13 * v1))), some (.int q10.1), some (.int q10.2.1)] [] q10.2.2 0 0
    exact Mod_holds_j85_J ok v0 v1 (75 + (13 * v1)) q10.1 q10.2.1 q10.2.2
  · show J E kMod_holds (Mod_holds_j99 v0 v1 (75 + (13 * v1)) q10.1 q10.2) _ 99 [some (.ref v0), some (.int v1), some (.int (75 + (13 * v1))), some (.int q10.1), none] [] q10.2 0 0
    exact Mod_holds_j99_J ok v0 v1 (75 + (13 * v1)) q10.1 q10.2
-- X11_goes
abbrev kMod_goes : Cd := (yX11_goes, cX11_goes, 5, (some .int), 2, 46)
theorem dX11_goes : dcheck cX11_goes [(0, .iconst 0, 1), (1, .istore_n 2, 1), (2, .iconst 0, 1), (3, .istore_n 3, 1), (4, .iload_n 3, 1), (5, .aload_n 0, 1), (6, .getfield 22, 3), (9, .bipush 9, 2), (11, .iaload, 1), (12, .if_icmp .ge 95, 3), (15, .iload_n 1, 1), (16, .iconst (-1), 1), (17, .if_icmp .ne 14, 3), (20, .aload_n 0, 1), (21, .iload_n 3, 1), (22, .invokevirtual 181, 3), (25, .ifCond .ne 27, 3), (28, .goto 73, 3), (31, .aload_n 0, 1), (32, .getfield 22, 3), (35, .bipush 75, 2), (37, .bipush 13, 2), (39, .iload_n 3, 1), (40, .imul, 1), (41, .iadd, 1), (42, .iconst 2, 1), (43, .iadd, 1), (44, .iaload, 1), (45, .iload_n 1, 1), (46, .if_icmp .lt 6, 3), (49, .goto 52, 3), (52, .iconst 0, 1), (53, .istore 4, 2), (55, .iload 4, 2), (57, .bipush 13, 2), (59, .if_icmp .ge 39, 3), (62, .aload_n 0, 1), (63, .getfield 22, 3), (66, .bipush 75, 2), (68, .bipush 13, 2), (70, .iload_n 2, 1), (71, .imul, 1), (72, .iadd, 1), (73, .iload 4, 2), (75, .iadd, 1), (76, .aload_n 0, 1), (77, .getfield 22, 3), (80, .bipush 75, 2), (82, .bipush 13, 2), (84, .iload_n 3, 1), (85, .imul, 1), (86, .iadd, 1), (87, .iload 4, 2), (89, .iadd, 1), (90, .iaload, 1), (91, .iastore, 1), (92, .iinc 4 1, 3), (95, .goto (-40), 3), (98, .iinc 2 1, 3), (101, .iinc 3 1, 3), (104, .goto (-100), 3), (107, .aload_n 0, 1), (108, .getfield 22, 3), (111, .bipush 9, 2), (113, .iaload, 1), (114, .iload_n 2, 1), (115, .isub, 1), (116, .istore_n 3, 1), (117, .aload_n 0, 1), (118, .getfield 22, 3), (121, .bipush 9, 2), (123, .iload_n 2, 1), (124, .iastore, 1), (125, .iload_n 3, 1), (126, .ireturn, 1)] = true := by decide +kernel
theorem cw_Mod_goes {k : Cd} (h1 : kMod_goes.2.2.2.2.1 + 1 ≤ k.2.2.2.2.1) (h2 : 8 + (kMod_goes.2.2.1 + 11) + kMod_goes.2.2.2.2.2 ≤ k.2.2.2.2.2) : Cw k kMod_goes 1 := ⟨wcode_X11_goes, wini_SplitProgramModel, ⟨by decide, by decide, by decide +kernel⟩, h1, h2⟩
def Mod_goes_b55 (v0 : Nat) (v1 : Int32) (v2 : Int32) (v3 : Int32) (s : Int32 × AHeap) : Option ((Int32 × AHeap) ⊕ ((Int32 × AHeap))) :=
  (if 13 ≤ s.1 then some (Sum.inr (s.1, s.2)) else (gfR s.2 v0 11 5).bind fun a5 => (gfR s.2 v0 11 5).bind fun a6 => (ald 0 s.2 a6 ((75 + (13 * v3)) + s.1)).bind fun x7 => (ast 0 s.2 a5 ((75 + (13 * v2)) + s.1) x7).bind fun h8 => some (Sum.inl (s.1 + 1, h8)))
theorem Mod_goes_b55_J {E : JE} {l : Launch} {G : GX} {r : Option Value} {h' : AHeap} (ok : JOK E l G kMod_goes 0 0 r h') (v0 : Nat) (v1 : Int32) (v2 : Int32) (v3 : Int32) {Y : (Int32 × AHeap) ⊕ ((Int32 × AHeap)) → Prop} (k1 : ∀ s' : Int32 × AHeap, Y (.inl s') → JW E kMod_goes 55 [some (.ref v0), some (.int v1), some (.int v2), some (.int v3), some (.int s'.1)] [] s'.2 0 0) (kx98 : ∀ q : Int32 × AHeap, Y (.inr q) → JW E kMod_goes 98 [some (.ref v0), some (.int v1), some (.int v2), some (.int v3), some (.int q.1)] [] q.2 0 0) (s : Int32 × AHeap) : J E kMod_goes (Mod_goes_b55 v0 v1 v2 v3 s) Y 55 [some (.ref v0), some (.int v1), some (.int v2), some (.int v3), some (.int s.1)] [] s.2 0 0 := by
  unfold Mod_goes_b55
  refine J_iload (pc' := 57) ok (dOf dX11_goes 33 rfl) rfl rfl ?_
  refine J_bipush (v := 13) (pc' := 59) ok (dOf dX11_goes 34 rfl) rfl (by decide) ?_
  refine J_icmp_ge (tgt := 98) (pc' := 62) ok (dOf dX11_goes 35 rfl) rfl (by decide) ?_ ?_
  · exact J_fin (kx98 (s.1, s.2))
  · refine J_aload_n (pc' := 63) ok (dOf dX11_goes 36 rfl) rfl rfl rfl ?_
    refine J_getR (ci := 11) (kf := 5) (C := RX11) (T := TX11) (N := 29) (pc' := 66) ok (dOf dX11_goes 37 rfl) rfl (by decide) rfl (by decide) win_11 wfl_X11_22 (fun a5 => ?_)
    refine J_bipush (v := 75) (pc' := 68) ok (dOf dX11_goes 38 rfl) rfl (by decide) ?_
    refine J_bipush (v := 13) (pc' := 70) ok (dOf dX11_goes 39 rfl) rfl (by decide) ?_
    refine J_iload_n (pc' := 71) ok (dOf dX11_goes 40 rfl) rfl rfl rfl ?_
    refine J_imul (pc' := 72) ok (dOf dX11_goes 41 rfl) rfl ?_
    refine J_iadd (pc' := 73) ok (dOf dX11_goes 42 rfl) rfl ?_
    refine J_iload (pc' := 75) ok (dOf dX11_goes 43 rfl) rfl rfl ?_
    refine J_iadd (pc' := 76) ok (dOf dX11_goes 44 rfl) rfl ?_
    refine J_aload_n (pc' := 77) ok (dOf dX11_goes 45 rfl) rfl rfl rfl ?_
    refine J_getR (ci := 11) (kf := 5) (C := RX11) (T := TX11) (N := 29) (pc' := 80) ok (dOf dX11_goes 46 rfl) rfl (by decide) rfl (by decide) win_11 wfl_X11_22 (fun a6 => ?_)
    refine J_bipush (v := 75) (pc' := 82) ok (dOf dX11_goes 47 rfl) rfl (by decide) ?_
    refine J_bipush (v := 13) (pc' := 84) ok (dOf dX11_goes 48 rfl) rfl (by decide) ?_
    refine J_iload_n (pc' := 85) ok (dOf dX11_goes 49 rfl) rfl rfl rfl ?_
    refine J_imul (pc' := 86) ok (dOf dX11_goes 50 rfl) rfl ?_
    refine J_iadd (pc' := 87) ok (dOf dX11_goes 51 rfl) rfl ?_
    refine J_iload (pc' := 89) ok (dOf dX11_goes 52 rfl) rfl rfl ?_
    refine J_iadd (pc' := 90) ok (dOf dX11_goes 53 rfl) rfl ?_
    refine J_iald (pc' := 91) ok (dOf dX11_goes 54 rfl) rfl (fun x7 => ?_)
    refine J_iast (pc' := 92) ok (dOf dX11_goes 55 rfl) rfl (fun h8 _ => ?_)
    refine J_iinc (v := s.1 + 1) (ls' := [some (.ref v0), some (.int v1), some (.int v2), some (.int v3), some (.int (s.1 + 1))]) (pc' := 95) ok (dOf dX11_goes 56 rfl) rfl rfl (by rfl) (Nat.le_of_ble_eq_true rfl) rfl rfl ?_
    refine J_goto (tgt := 55) ok (dOf dX11_goes 57 rfl) (by decide) ?_
    exact J_fin (k1 (s.1 + 1, h8))
def Mod_goes_j101 (v0 : Nat) (v1 : Int32) (v2 : Int32) (v3 : Int32) (h : AHeap) : Option ((Int32 × Int32 × AHeap) ⊕ ((Int32 × Int32 × AHeap))) :=
  some (Sum.inl (v2, v3 + 1, h))
theorem Mod_goes_j101_J {E : JE} {l : Launch} {G : GX} {r : Option Value} {h' : AHeap} (ok : JOK E l G kMod_goes 0 0 r h') (v0 : Nat) (v1 : Int32) (v2 : Int32) (v3 : Int32) (h : AHeap) {Y : (Int32 × Int32 × AHeap) ⊕ ((Int32 × Int32 × AHeap)) → Prop} (k1 : ∀ s' : Int32 × Int32 × AHeap, Y (.inl s') → JW E kMod_goes 4 [some (.ref v0), some (.int v1), some (.int s'.1), some (.int s'.2.1), none] [] s'.2.2 0 0) (kx107 : ∀ q : Int32 × Int32 × AHeap, Y (.inr q) → JW E kMod_goes 107 [some (.ref v0), some (.int v1), some (.int q.1), some (.int q.2.1), none] [] q.2.2 0 0) : J E kMod_goes (Mod_goes_j101 v0 v1 v2 v3 h) Y 101 [some (.ref v0), some (.int v1), some (.int v2), some (.int v3), none] [] h 0 0 := by
  unfold Mod_goes_j101
  refine J_iinc (v := v3 + 1) (ls' := [some (.ref v0), some (.int v1), some (.int v2), some (.int (v3 + 1)), none]) (pc' := 104) ok (dOf dX11_goes 59 rfl) rfl rfl (by rfl) (Nat.le_of_ble_eq_true rfl) rfl rfl ?_
  refine J_goto (tgt := 4) ok (dOf dX11_goes 60 rfl) (by decide) ?_
  exact J_fin (k1 (v2, v3 + 1, h))
def Mod_goes_j98 (v0 : Nat) (v1 : Int32) (v2 : Int32) (v3 : Int32) (v4 : Int32) (h : AHeap) : Option ((Int32 × Int32 × AHeap) ⊕ ((Int32 × Int32 × AHeap))) :=
  Mod_goes_j101 v0 v1 (v2 + 1) v3 h
theorem Mod_goes_j98_J {E : JE} {l : Launch} {G : GX} {r : Option Value} {h' : AHeap} (ok : JOK E l G kMod_goes 0 0 r h') (v0 : Nat) (v1 : Int32) (v2 : Int32) (v3 : Int32) (v4 : Int32) (h : AHeap) {Y : (Int32 × Int32 × AHeap) ⊕ ((Int32 × Int32 × AHeap)) → Prop} (k1 : ∀ s' : Int32 × Int32 × AHeap, Y (.inl s') → JW E kMod_goes 4 [some (.ref v0), some (.int v1), some (.int s'.1), some (.int s'.2.1), none] [] s'.2.2 0 0) (kx107 : ∀ q : Int32 × Int32 × AHeap, Y (.inr q) → JW E kMod_goes 107 [some (.ref v0), some (.int v1), some (.int q.1), some (.int q.2.1), none] [] q.2.2 0 0) : J E kMod_goes (Mod_goes_j98 v0 v1 v2 v3 v4 h) Y 98 [some (.ref v0), some (.int v1), some (.int v2), some (.int v3), some (.int v4)] [] h 0 0 := by
  unfold Mod_goes_j98
  refine J_iinc (v := v2 + 1) (ls' := [some (.ref v0), some (.int v1), some (.int (v2 + 1)), some (.int v3), some (.int v4)]) (pc' := 101) ok (dOf dX11_goes 58 rfl) rfl rfl (by rfl) (Nat.le_of_ble_eq_true rfl) rfl rfl ?_
  refine J_weak (ls' := [some (.ref v0), some (.int v1), some (.int (v2 + 1)), some (.int v3), none]) ⟨rfl, rfl, rfl, rfl, trivial⟩ ?_
  exact Mod_goes_j101_J ok v0 v1 (v2 + 1) v3 h k1 kx107
def Mod_goes_j52 (v0 : Nat) (v1 : Int32) (v2 : Int32) (v3 : Int32) (h : AHeap) : Option ((Int32 × Int32 × AHeap) ⊕ ((Int32 × Int32 × AHeap))) :=
  (iter (Mod_goes_b55 v0 v1 v2 v3) Lmax (0, h)).bind (fun (q55 : Int32 × AHeap) => Mod_goes_j98 v0 v1 v2 v3 q55.1 q55.2)
theorem Mod_goes_j52_J {E : JE} {l : Launch} {G : GX} {r : Option Value} {h' : AHeap} (ok : JOK E l G kMod_goes 0 0 r h') (v0 : Nat) (v1 : Int32) (v2 : Int32) (v3 : Int32) (h : AHeap) {Y : (Int32 × Int32 × AHeap) ⊕ ((Int32 × Int32 × AHeap)) → Prop} (k1 : ∀ s' : Int32 × Int32 × AHeap, Y (.inl s') → JW E kMod_goes 4 [some (.ref v0), some (.int v1), some (.int s'.1), some (.int s'.2.1), none] [] s'.2.2 0 0) (kx107 : ∀ q : Int32 × Int32 × AHeap, Y (.inr q) → JW E kMod_goes 107 [some (.ref v0), some (.int v1), some (.int q.1), some (.int q.2.1), none] [] q.2.2 0 0) : J E kMod_goes (Mod_goes_j52 v0 v1 v2 v3 h) Y 52 [some (.ref v0), some (.int v1), some (.int v2), some (.int v3), none] [] h 0 0 := by
  unfold Mod_goes_j52
  refine J_iconst (v := 0) (pc' := 53) ok (dOf dX11_goes 31 rfl) rfl (by decide) ?_
  refine J_istore (ls' := [some (.ref v0), some (.int v1), some (.int v2), some (.int v3), some (.int 0)]) (pc' := 55) ok (dOf dX11_goes 32 rfl) rfl (Nat.le_of_ble_eq_true rfl) rfl rfl ?_
  refine J_iter (lf := fun z55 => [some (.ref v0), some (.int v1), some (.int v2), some (.int v3), some (.int z55.1)]) (sf := fun _ => []) (hf := fun z55 => z55.2) (px := (fun (q55 : Int32 × AHeap) => 98)) (lx := (fun (q55 : Int32 × AHeap) => [some (.ref v0), some (.int v1), some (.int v2), some (.int v3), some (.int q55.1)])) (sx := (fun (q55 : Int32 × AHeap) => [])) (hx := (fun (q55 : Int32 × AHeap) => q55.2)) (fun Y2 z55 m1 m2 => Mod_goes_b55_J ok v0 v1 v2 v3 m1 m2 z55) (fun q55 => ?_) Lmax _
  exact Mod_goes_j98_J ok v0 v1 v2 v3 q55.1 q55.2 k1 kx107
def Mod_goes_b4 (v0 : Nat) (v1 : Int32) (s : Int32 × Int32 × AHeap) : Option ((Int32 × Int32 × AHeap) ⊕ ((Int32 × Int32 × AHeap))) :=
  (gfR s.2.2 v0 11 5).bind fun a1 => (ald 0 s.2.2 a1 9).bind fun x2 => (if x2 ≤ s.2.1 then some (Sum.inr (s.1, s.2.1, s.2.2)) else (if ¬ v1 = (-1) then (gfR s.2.2 v0 11 5).bind fun a3 => (ald 0 s.2.2 a3 ((75 + (13 * s.2.1)) + 2)).bind fun x4 => (if x4 < v1 then Mod_goes_j52 v0 v1 s.1 s.2.1 s.2.2 else Mod_goes_j101 v0 v1 s.1 s.2.1 s.2.2) else (chk s.2.2 v0 11).bind fun _ => bnd2 (Mod_holds v0 s.2.1 s.2.2) fun x10 h9 => (if ¬ x10 = 0 then Mod_goes_j52 v0 v1 s.1 s.2.1 h9 else Mod_goes_j101 v0 v1 s.1 s.2.1 h9)))
theorem Mod_goes_b4_J {E : JE} {l : Launch} {G : GX} {r : Option Value} {h' : AHeap} (ok : JOK E l G kMod_goes 0 0 r h') (v0 : Nat) (v1 : Int32) {Y : (Int32 × Int32 × AHeap) ⊕ ((Int32 × Int32 × AHeap)) → Prop} (k1 : ∀ s' : Int32 × Int32 × AHeap, Y (.inl s') → JW E kMod_goes 4 [some (.ref v0), some (.int v1), some (.int s'.1), some (.int s'.2.1), none] [] s'.2.2 0 0) (kx107 : ∀ q : Int32 × Int32 × AHeap, Y (.inr q) → JW E kMod_goes 107 [some (.ref v0), some (.int v1), some (.int q.1), some (.int q.2.1), none] [] q.2.2 0 0) (s : Int32 × Int32 × AHeap) : J E kMod_goes (Mod_goes_b4 v0 v1 s) Y 4 [some (.ref v0), some (.int v1), some (.int s.1), some (.int s.2.1), none] [] s.2.2 0 0 := by
  unfold Mod_goes_b4
  refine J_iload_n (pc' := 5) ok (dOf dX11_goes 4 rfl) rfl rfl rfl ?_
  refine J_aload_n (pc' := 6) ok (dOf dX11_goes 5 rfl) rfl rfl rfl ?_
  refine J_getR (ci := 11) (kf := 5) (C := RX11) (T := TX11) (N := 29) (pc' := 9) ok (dOf dX11_goes 6 rfl) rfl (by decide) rfl (by decide) win_11 wfl_X11_22 (fun a1 => ?_)
  refine J_bipush (v := 9) (pc' := 11) ok (dOf dX11_goes 7 rfl) rfl (by decide) ?_
  refine J_iald (pc' := 12) ok (dOf dX11_goes 8 rfl) rfl (fun x2 => ?_)
  refine J_icmp_ge (tgt := 107) (pc' := 15) ok (dOf dX11_goes 9 rfl) rfl (by decide) ?_ ?_
  · exact J_fin (kx107 (s.1, s.2.1, s.2.2))
  · refine J_iload_n (pc' := 16) ok (dOf dX11_goes 10 rfl) rfl rfl rfl ?_
    refine J_iconst (v := (-1)) (pc' := 17) ok (dOf dX11_goes 11 rfl) rfl (by decide) ?_
    refine J_icmp_ne (tgt := 31) (pc' := 20) ok (dOf dX11_goes 12 rfl) rfl (by decide) ?_ ?_
    · refine J_aload_n (pc' := 32) ok (dOf dX11_goes 18 rfl) rfl rfl rfl ?_
      refine J_getR (ci := 11) (kf := 5) (C := RX11) (T := TX11) (N := 29) (pc' := 35) ok (dOf dX11_goes 19 rfl) rfl (by decide) rfl (by decide) win_11 wfl_X11_22 (fun a3 => ?_)
      refine J_bipush (v := 75) (pc' := 37) ok (dOf dX11_goes 20 rfl) rfl (by decide) ?_
      refine J_bipush (v := 13) (pc' := 39) ok (dOf dX11_goes 21 rfl) rfl (by decide) ?_
      refine J_iload_n (pc' := 40) ok (dOf dX11_goes 22 rfl) rfl rfl rfl ?_
      refine J_imul (pc' := 41) ok (dOf dX11_goes 23 rfl) rfl ?_
      refine J_iadd (pc' := 42) ok (dOf dX11_goes 24 rfl) rfl ?_
      refine J_iconst (v := 2) (pc' := 43) ok (dOf dX11_goes 25 rfl) rfl (by decide) ?_
      refine J_iadd (pc' := 44) ok (dOf dX11_goes 26 rfl) rfl ?_
      refine J_iald (pc' := 45) ok (dOf dX11_goes 27 rfl) rfl (fun x4 => ?_)
      refine J_iload_n (pc' := 46) ok (dOf dX11_goes 28 rfl) rfl rfl rfl ?_
      refine J_icmp_lt (tgt := 52) (pc' := 49) ok (dOf dX11_goes 29 rfl) rfl (by decide) ?_ ?_
      · exact Mod_goes_j52_J ok v0 v1 s.1 s.2.1 s.2.2 k1 kx107
      · refine J_goto (tgt := 101) ok (dOf dX11_goes 30 rfl) (by decide) ?_
        exact Mod_goes_j101_J ok v0 v1 s.1 s.2.1 s.2.2 k1 kx107
    · refine J_aload_n (pc' := 21) ok (dOf dX11_goes 13 rfl) rfl rfl rfl ?_
      refine J_iload_n (pc' := 22) ok (dOf dX11_goes 14 rfl) rfl rfl rfl ?_
      refine J_callVi (k2 := kMod_holds) (ci := 11) (T := TX11) (N := 29) (as := [.int s.2.1]) (pc' := 25) ok (dOf dX11_goes 15 rfl) rfl (cw_Mod_holds (by decide) (by decide)) wml_X11_181 winst_X11_holds wsel_X11_holds rfl ⟨Nat.le_refl 0, Nat.le_refl 0⟩ (Nat.le_of_ble_eq_true rfl) rfl (fun _ _ hf => t_Mod_holds hf) (fun x10 h9 => ?_)
      refine J_if_ne (tgt := 52) (pc' := 28) ok (dOf dX11_goes 16 rfl) rfl (by decide) ?_ ?_
      · exact Mod_goes_j52_J ok v0 v1 s.1 s.2.1 h9 k1 kx107
      · refine J_goto (tgt := 101) ok (dOf dX11_goes 17 rfl) (by decide) ?_
        exact Mod_goes_j101_J ok v0 v1 s.1 s.2.1 h9 k1 kx107
def Mod_goes_j107 (v0 : Nat) (v1 : Int32) (v2 : Int32) (v3 : Int32) (h : AHeap) : Option (Int32 × AHeap) :=
  (gfR h v0 11 5).bind fun a11 => (ald 0 h a11 9).bind fun x12 => (gfR h v0 11 5).bind fun a13 => (ast 0 h a13 9 v2).bind fun h14 => some (x12 - v2, h14)
theorem Mod_goes_j107_J {E : JE} {l : Launch} {G : GX} {v : Int32} {h' : AHeap} (ok : JOK E l G kMod_goes 0 0 (some (.int v)) h') (v0 : Nat) (v1 : Int32) (v2 : Int32) (v3 : Int32) (h : AHeap) : J E kMod_goes (Mod_goes_j107 v0 v1 v2 v3 h) (fun z => z = (v, h')) 107 [some (.ref v0), some (.int v1), some (.int v2), some (.int v3), none] [] h 0 0 := by
  unfold Mod_goes_j107
  refine J_aload_n (pc' := 108) ok (dOf dX11_goes 61 rfl) rfl rfl rfl ?_
  refine J_getR (ci := 11) (kf := 5) (C := RX11) (T := TX11) (N := 29) (pc' := 111) ok (dOf dX11_goes 62 rfl) rfl (by decide) rfl (by decide) win_11 wfl_X11_22 (fun a11 => ?_)
  refine J_bipush (v := 9) (pc' := 113) ok (dOf dX11_goes 63 rfl) rfl (by decide) ?_
  refine J_iald (pc' := 114) ok (dOf dX11_goes 64 rfl) rfl (fun x12 => ?_)
  refine J_iload_n (pc' := 115) ok (dOf dX11_goes 65 rfl) rfl rfl rfl ?_
  refine J_isub (pc' := 116) ok (dOf dX11_goes 66 rfl) rfl ?_
  refine J_istore_n (ls' := [some (.ref v0), some (.int v1), some (.int v2), some (.int (x12 - v2)), none]) (pc' := 117) ok (dOf dX11_goes 67 rfl) rfl rfl (Nat.le_of_ble_eq_true rfl) rfl rfl ?_
  refine J_aload_n (pc' := 118) ok (dOf dX11_goes 68 rfl) rfl rfl rfl ?_
  refine J_getR (ci := 11) (kf := 5) (C := RX11) (T := TX11) (N := 29) (pc' := 121) ok (dOf dX11_goes 69 rfl) rfl (by decide) rfl (by decide) win_11 wfl_X11_22 (fun a13 => ?_)
  refine J_bipush (v := 9) (pc' := 123) ok (dOf dX11_goes 70 rfl) rfl (by decide) ?_
  refine J_iload_n (pc' := 124) ok (dOf dX11_goes 71 rfl) rfl rfl rfl ?_
  refine J_iast (pc' := 125) ok (dOf dX11_goes 72 rfl) rfl (fun h14 _ => ?_)
  refine J_iload_n (pc' := 126) ok (dOf dX11_goes 73 rfl) rfl rfl rfl ?_
  exact J_ireturn ok (dOf dX11_goes 74 rfl) rfl (Eq.refl 0) (Nat.le_refl 0)
def Mod_goes (v0 : Nat) (v1 : Int32) (h : AHeap) : Option (Int32 × AHeap) :=
  (iter (Mod_goes_b4 v0 v1) Lmax (0, 0, h)).bind (fun (q4 : Int32 × Int32 × AHeap) => Mod_goes_j107 v0 v1 q4.1 q4.2.1 q4.2.2)
theorem t_Mod_goes {l : Launch} {G : GX} {v0 : Nat} {v1 : Int32} {h : AHeap} {v : Int32} {h1 : AHeap} (hf : Mod_goes v0 v1 h = some (v, h1)) : CT l G kMod_goes 0 0 [.ref v0, .int v1] h (some (.int v)) h1 := by
  refine CT_of (ls := [some (.ref v0), some (.int v1), none, none, none]) (Z := fun z => z = (v, h1)) (by decide +kernel) (Nat.le_of_ble_eq_true rfl) hf rfl ⟨rfl, rfl, trivial⟩ (fun E ok => ?_)
  unfold Mod_goes
  refine J_iconst (v := 0) (pc' := 1) ok (dOf dX11_goes 0 rfl) rfl (by decide) ?_
  refine J_istore_n (ls' := [some (.ref v0), some (.int v1), some (.int 0), none, none]) (pc' := 2) ok (dOf dX11_goes 1 rfl) rfl rfl (Nat.le_of_ble_eq_true rfl) rfl rfl ?_
  refine J_iconst (v := 0) (pc' := 3) ok (dOf dX11_goes 2 rfl) rfl (by decide) ?_
  refine J_istore_n (ls' := [some (.ref v0), some (.int v1), some (.int 0), some (.int 0), none]) (pc' := 4) ok (dOf dX11_goes 3 rfl) rfl rfl (Nat.le_of_ble_eq_true rfl) rfl rfl ?_
  refine J_iter (lf := fun z4 => [some (.ref v0), some (.int v1), some (.int z4.1), some (.int z4.2.1), none]) (sf := fun _ => []) (hf := fun z4 => z4.2.2) (px := (fun (q4 : Int32 × Int32 × AHeap) => 107)) (lx := (fun (q4 : Int32 × Int32 × AHeap) => [some (.ref v0), some (.int v1), some (.int q4.1), some (.int q4.2.1), none])) (sx := (fun (q4 : Int32 × Int32 × AHeap) => [])) (hx := (fun (q4 : Int32 × Int32 × AHeap) => q4.2.2)) (fun Y2 z4 m1 m2 => Mod_goes_b4_J ok v0 v1 m1 m2 z4) (fun q4 => ?_) Lmax _
  exact Mod_goes_j107_J ok v0 v1 q4.1 q4.2.1 q4.2.2
-- X11_changed
abbrev kMod_changed : Cd := (yX11_changed, cX11_changed, 5, (some .int), 3, 70)
theorem dX11_changed : dcheck cX11_changed [(0, .aload_n 0, 1), (1, .invokevirtual 69, 3), (4, .aload_n 0, 1), (5, .iconst (-1), 1), (6, .invokevirtual 184, 3), (9, .istore_n 3, 1), (10, .iconst 0, 1), (11, .istore 4, 2), (13, .iload 4, 2), (15, .aload_n 0, 1), (16, .getfield 22, 3), (19, .bipush 9, 2), (21, .iaload, 1), (22, .if_icmp .ge 25, 3), (25, .aload_n 0, 1), (26, .getfield 22, 3), (29, .bipush 75, 2), (31, .bipush 13, 2), (33, .iload 4, 2), (35, .imul, 1), (36, .iadd, 1), (37, .iconst 2, 1), (38, .iadd, 1), (39, .iconst 0, 1), (40, .iastore, 1), (41, .iinc 4 1, 3), (44, .goto (-31), 3), (47, .aload_n 0, 1), (48, .iload_n 1, 1), (49, .invokevirtual 178, 3), (52, .aload_n 0, 1), (53, .iload_n 2, 1), (54, .invokevirtual 89, 3), (57, .ireturn, 1)] = true := by decide +kernel
theorem cw_Mod_changed {k : Cd} (h1 : kMod_changed.2.2.2.2.1 + 1 ≤ k.2.2.2.2.1) (h2 : 8 + (kMod_changed.2.2.1 + 11) + kMod_changed.2.2.2.2.2 ≤ k.2.2.2.2.2) : Cw k kMod_changed 2 := ⟨wcode_X11_changed, wini_SplitProgramModel, ⟨by decide, by decide, by decide +kernel⟩, h1, h2⟩
def Mod_changed_b13 (v0 : Nat) (v1 : Int32) (v2 : Int32) (v3 : Int32) (s : Int32 × AHeap) : Option ((Int32 × AHeap) ⊕ ((Int32 × AHeap))) :=
  (gfR s.2 v0 11 5).bind fun a4 => (ald 0 s.2 a4 9).bind fun x5 => (if x5 ≤ s.1 then some (Sum.inr (s.1, s.2)) else (gfR s.2 v0 11 5).bind fun a6 => (ast 0 s.2 a6 ((75 + (13 * s.1)) + 2) 0).bind fun h7 => some (Sum.inl (s.1 + 1, h7)))
theorem Mod_changed_b13_J {E : JE} {l : Launch} {G : GX} {r : Option Value} {h' : AHeap} (ok : JOK E l G kMod_changed 0 0 r h') (v0 : Nat) (v1 : Int32) (v2 : Int32) (v3 : Int32) {Y : (Int32 × AHeap) ⊕ ((Int32 × AHeap)) → Prop} (k1 : ∀ s' : Int32 × AHeap, Y (.inl s') → JW E kMod_changed 13 [some (.ref v0), some (.int v1), some (.int v2), some (.int v3), some (.int s'.1)] [] s'.2 0 0) (kx47 : ∀ q : Int32 × AHeap, Y (.inr q) → JW E kMod_changed 47 [some (.ref v0), some (.int v1), some (.int v2), some (.int v3), some (.int q.1)] [] q.2 0 0) (s : Int32 × AHeap) : J E kMod_changed (Mod_changed_b13 v0 v1 v2 v3 s) Y 13 [some (.ref v0), some (.int v1), some (.int v2), some (.int v3), some (.int s.1)] [] s.2 0 0 := by
  unfold Mod_changed_b13
  refine J_iload (pc' := 15) ok (dOf dX11_changed 8 rfl) rfl rfl ?_
  refine J_aload_n (pc' := 16) ok (dOf dX11_changed 9 rfl) rfl rfl rfl ?_
  refine J_getR (ci := 11) (kf := 5) (C := RX11) (T := TX11) (N := 29) (pc' := 19) ok (dOf dX11_changed 10 rfl) rfl (by decide) rfl (by decide) win_11 wfl_X11_22 (fun a4 => ?_)
  refine J_bipush (v := 9) (pc' := 21) ok (dOf dX11_changed 11 rfl) rfl (by decide) ?_
  refine J_iald (pc' := 22) ok (dOf dX11_changed 12 rfl) rfl (fun x5 => ?_)
  refine J_icmp_ge (tgt := 47) (pc' := 25) ok (dOf dX11_changed 13 rfl) rfl (by decide) ?_ ?_
  · exact J_fin (kx47 (s.1, s.2))
  · refine J_aload_n (pc' := 26) ok (dOf dX11_changed 14 rfl) rfl rfl rfl ?_
    refine J_getR (ci := 11) (kf := 5) (C := RX11) (T := TX11) (N := 29) (pc' := 29) ok (dOf dX11_changed 15 rfl) rfl (by decide) rfl (by decide) win_11 wfl_X11_22 (fun a6 => ?_)
    refine J_bipush (v := 75) (pc' := 31) ok (dOf dX11_changed 16 rfl) rfl (by decide) ?_
    refine J_bipush (v := 13) (pc' := 33) ok (dOf dX11_changed 17 rfl) rfl (by decide) ?_
    refine J_iload (pc' := 35) ok (dOf dX11_changed 18 rfl) rfl rfl ?_
    refine J_imul (pc' := 36) ok (dOf dX11_changed 19 rfl) rfl ?_
    refine J_iadd (pc' := 37) ok (dOf dX11_changed 20 rfl) rfl ?_
    refine J_iconst (v := 2) (pc' := 38) ok (dOf dX11_changed 21 rfl) rfl (by decide) ?_
    refine J_iadd (pc' := 39) ok (dOf dX11_changed 22 rfl) rfl ?_
    refine J_iconst (v := 0) (pc' := 40) ok (dOf dX11_changed 23 rfl) rfl (by decide) ?_
    refine J_iast (pc' := 41) ok (dOf dX11_changed 24 rfl) rfl (fun h7 _ => ?_)
    refine J_iinc (v := s.1 + 1) (ls' := [some (.ref v0), some (.int v1), some (.int v2), some (.int v3), some (.int (s.1 + 1))]) (pc' := 44) ok (dOf dX11_changed 25 rfl) rfl rfl (by rfl) (Nat.le_of_ble_eq_true rfl) rfl rfl ?_
    refine J_goto (tgt := 13) ok (dOf dX11_changed 26 rfl) (by decide) ?_
    exact J_fin (k1 (s.1 + 1, h7))
def Mod_changed_j47 (v0 : Nat) (v1 : Int32) (v2 : Int32) (v3 : Int32) (v4 : Int32) (h : AHeap) : Option (Int32 × AHeap) :=
  (chk h v0 11).bind fun _ => bnd2 (Mod_keeps v0 v1 h) fun _ h8 => (chk h8 v0 11).bind fun _ => bnd2 (Mod_tells v0 v2 h8) fun x10 h9 => some (x10, h9)
theorem Mod_changed_j47_J {E : JE} {l : Launch} {G : GX} {v : Int32} {h' : AHeap} (ok : JOK E l G kMod_changed 0 0 (some (.int v)) h') (v0 : Nat) (v1 : Int32) (v2 : Int32) (v3 : Int32) (v4 : Int32) (h : AHeap) : J E kMod_changed (Mod_changed_j47 v0 v1 v2 v3 v4 h) (fun z => z = (v, h')) 47 [some (.ref v0), some (.int v1), some (.int v2), some (.int v3), some (.int v4)] [] h 0 0 := by
  unfold Mod_changed_j47
  refine J_aload_n (pc' := 48) ok (dOf dX11_changed 27 rfl) rfl rfl rfl ?_
  refine J_iload_n (pc' := 49) ok (dOf dX11_changed 28 rfl) rfl rfl rfl ?_
  refine J_callVv (k2 := kMod_keeps) (ci := 11) (T := TX11) (N := 29) (as := [.int v1]) (pc' := 52) ok (dOf dX11_changed 29 rfl) rfl (cw_Mod_keeps (by decide) (by decide)) wml_X11_178 winst_X11_keeps wsel_X11_keeps rfl ⟨Nat.le_refl 0, Nat.le_refl 0⟩ (Nat.le_of_ble_eq_true rfl) rfl (fun _ _ hf => t_Mod_keeps hf) (fun _ h8 => ?_)
  refine J_aload_n (pc' := 53) ok (dOf dX11_changed 30 rfl) rfl rfl rfl ?_
  refine J_iload_n (pc' := 54) ok (dOf dX11_changed 31 rfl) rfl rfl rfl ?_
  refine J_callVi (k2 := kMod_tells) (ci := 11) (T := TX11) (N := 29) (as := [.int v2]) (pc' := 57) ok (dOf dX11_changed 32 rfl) rfl (cw_Mod_tells (by decide) (by decide)) wml_X11_89 winst_X11_tells wsel_X11_tells rfl ⟨Nat.le_refl 0, Nat.le_refl 0⟩ (Nat.le_of_ble_eq_true rfl) rfl (fun _ _ hf => t_Mod_tells hf) (fun x10 h9 => ?_)
  exact J_ireturn ok (dOf dX11_changed 33 rfl) rfl (Eq.refl 0) (Nat.le_refl 0)
def Mod_changed (v0 : Nat) (v1 : Int32) (v2 : Int32) (h : AHeap) : Option (Int32 × AHeap) :=
  (chk h v0 11).bind fun _ => bnd2 (Mod_forgets v0 h) fun _ h1 => (chk h1 v0 11).bind fun _ => bnd2 (Mod_goes v0 (-1) h1) fun x3 h2 => (iter (Mod_changed_b13 v0 v1 v2 x3) Lmax (0, h2)).bind (fun (q13 : Int32 × AHeap) => Mod_changed_j47 v0 v1 v2 x3 q13.1 q13.2)
theorem t_Mod_changed {l : Launch} {G : GX} {v0 : Nat} {v1 : Int32} {v2 : Int32} {h : AHeap} {v : Int32} {h1 : AHeap} (hf : Mod_changed v0 v1 v2 h = some (v, h1)) : CT l G kMod_changed 0 0 [.ref v0, .int v1, .int v2] h (some (.int v)) h1 := by
  refine CT_of (ls := [some (.ref v0), some (.int v1), some (.int v2), none, none]) (Z := fun z => z = (v, h1)) (by decide +kernel) (Nat.le_of_ble_eq_true rfl) hf rfl ⟨rfl, rfl, rfl, trivial⟩ (fun E ok => ?_)
  unfold Mod_changed
  refine J_aload_n (pc' := 1) ok (dOf dX11_changed 0 rfl) rfl rfl rfl ?_
  refine J_callVv (k2 := kMod_forgets) (ci := 11) (T := TX11) (N := 29) (as := []) (pc' := 4) ok (dOf dX11_changed 1 rfl) rfl (cw_Mod_forgets (by decide) (by decide)) wml_X11_69 winst_X11_forgets wsel_X11_forgets rfl ⟨Nat.le_refl 0, Nat.le_refl 0⟩ (Nat.le_of_ble_eq_true rfl) rfl (fun _ _ hf => t_Mod_forgets hf) (fun _ h1 => ?_)
  refine J_aload_n (pc' := 5) ok (dOf dX11_changed 2 rfl) rfl rfl rfl ?_
  refine J_iconst (v := (-1)) (pc' := 6) ok (dOf dX11_changed 3 rfl) rfl (by decide) ?_
  refine J_callVi (k2 := kMod_goes) (ci := 11) (T := TX11) (N := 29) (as := [.int (-1)]) (pc' := 9) ok (dOf dX11_changed 4 rfl) rfl (cw_Mod_goes (by decide) (by decide)) wml_X11_184 winst_X11_goes wsel_X11_goes rfl ⟨Nat.le_refl 0, Nat.le_refl 0⟩ (Nat.le_of_ble_eq_true rfl) rfl (fun _ _ hf => t_Mod_goes hf) (fun x3 h2 => ?_)
  refine J_istore_n (ls' := [some (.ref v0), some (.int v1), some (.int v2), some (.int x3), none]) (pc' := 10) ok (dOf dX11_changed 5 rfl) rfl rfl (Nat.le_of_ble_eq_true rfl) rfl rfl ?_
  refine J_iconst (v := 0) (pc' := 11) ok (dOf dX11_changed 6 rfl) rfl (by decide) ?_
  refine J_istore (ls' := [some (.ref v0), some (.int v1), some (.int v2), some (.int x3), some (.int 0)]) (pc' := 13) ok (dOf dX11_changed 7 rfl) rfl (Nat.le_of_ble_eq_true rfl) rfl rfl ?_
  refine J_iter (lf := fun z13 => [some (.ref v0), some (.int v1), some (.int v2), some (.int x3), some (.int z13.1)]) (sf := fun _ => []) (hf := fun z13 => z13.2) (px := (fun (q13 : Int32 × AHeap) => 47)) (lx := (fun (q13 : Int32 × AHeap) => [some (.ref v0), some (.int v1), some (.int v2), some (.int x3), some (.int q13.1)])) (sx := (fun (q13 : Int32 × AHeap) => [])) (hx := (fun (q13 : Int32 × AHeap) => q13.2)) (fun Y2 z13 m1 m2 => Mod_changed_b13_J ok v0 v1 v2 x3 m1 m2 z13) (fun q13 => ?_) Lmax _
  exact Mod_changed_j47_J ok v0 v1 v2 x3 q13.1 q13.2
-- X11_plant
abbrev kMod_plant : Cd := (yX11_plant, cX11_plant, 4, (some .int), 4, 94)
theorem dX11_plant : dcheck cX11_plant [(0, .iload_n 1, 1), (1, .iconst 0, 1), (2, .sipush 999, 3), (5, .invokestatic 75, 3), (8, .ifCond .eq 22, 3), (11, .iload_n 2, 1), (12, .iconst 1, 1), (13, .bipush 20, 2), (15, .invokestatic 75, 3), (18, .ifCond .eq 12, 3), (21, .iload_n 3, 1), (22, .iconst 0, 1), (23, .iconst 3, 1), (24, .invokestatic 75, 3), (27, .ifCond .ne 9, 3), (30, .aload_n 0, 1), (31, .iconst (-1), 1), (32, .invokevirtual 85, 3), (35, .ireturn, 1), (36, .aload_n 0, 1), (37, .getfield 22, 3), (40, .iconst 0, 1), (41, .iaload, 1), (42, .iconst 4, 1), (43, .if_icmp .ne 10, 3), (46, .aload_n 0, 1), (47, .bipush (-5), 2), (49, .invokevirtual 85, 3), (52, .ireturn, 1), (53, .aload_n 0, 1), (54, .invokevirtual 172, 3), (57, .aload_n 0, 1), (58, .iload_n 1, 1), (59, .iload_n 2, 1), (60, .iload_n 3, 1), (61, .invokevirtual 144, 3), (64, .aload_n 0, 1), (65, .iconst 1, 1), (66, .aload_n 0, 1), (67, .getfield 22, 3), (70, .iconst 0, 1), (71, .iaload, 1), (72, .iconst 1, 1), (73, .isub, 1), (74, .invokevirtual 187, 3), (77, .ireturn, 1)] = true := by decide +kernel
theorem cw_Mod_plant {k : Cd} (h1 : kMod_plant.2.2.2.2.1 + 1 ≤ k.2.2.2.2.1) (h2 : 8 + (kMod_plant.2.2.1 + 11) + kMod_plant.2.2.2.2.2 ≤ k.2.2.2.2.2) : Cw k kMod_plant 3 := ⟨wcode_X11_plant, wini_SplitProgramModel, ⟨by decide, by decide, by decide +kernel⟩, h1, h2⟩
def Mod_plant_j30 (v0 : Nat) (v1 : Int32) (v2 : Int32) (v3 : Int32) (h : AHeap) : Option (Int32 × AHeap) :=
  (chk h v0 11).bind fun _ => bnd2 (Mod_refuses v0 (-1) h) fun x4 h3 => some (x4, h3)
theorem Mod_plant_j30_J {E : JE} {l : Launch} {G : GX} {v : Int32} {h' : AHeap} (ok : JOK E l G kMod_plant 0 0 (some (.int v)) h') (v0 : Nat) (v1 : Int32) (v2 : Int32) (v3 : Int32) (h : AHeap) : J E kMod_plant (Mod_plant_j30 v0 v1 v2 v3 h) (fun z => z = (v, h')) 30 [some (.ref v0), some (.int v1), some (.int v2), some (.int v3)] [] h 0 0 := by
  unfold Mod_plant_j30
  refine J_aload_n (pc' := 31) ok (dOf dX11_plant 15 rfl) rfl rfl rfl ?_
  refine J_iconst (v := (-1)) (pc' := 32) ok (dOf dX11_plant 16 rfl) rfl (by decide) ?_
  refine J_callVi (k2 := kMod_refuses) (ci := 11) (T := TX11) (N := 29) (as := [.int (-1)]) (pc' := 35) ok (dOf dX11_plant 17 rfl) rfl (cw_Mod_refuses (by decide) (by decide)) wml_X11_85 winst_X11_refuses wsel_X11_refuses rfl ⟨Nat.le_refl 0, Nat.le_refl 0⟩ (Nat.le_of_ble_eq_true rfl) rfl (fun _ _ hf => t_Mod_refuses hf) (fun x4 h3 => ?_)
  exact J_ireturn ok (dOf dX11_plant 18 rfl) rfl (Eq.refl 0) (Nat.le_refl 0)
def Mod_plant (v0 : Nat) (v1 : Int32) (v2 : Int32) (v3 : Int32) (h : AHeap) : Option (Int32 × AHeap) :=
  bnd2 (Mod_isIn v1 0 999 h) fun x2 h1 => (if x2 = 0 then Mod_plant_j30 v0 v1 v2 v3 h1 else bnd2 (Mod_isIn v2 1 20 h1) fun x6 h5 => (if x6 = 0 then Mod_plant_j30 v0 v1 v2 v3 h5 else bnd2 (Mod_isIn v3 0 3 h5) fun x8 h7 => (if ¬ x8 = 0 then (gfR h7 v0 11 5).bind fun a9 => (ald 0 h7 a9 0).bind fun x10 => (if ¬ x10 = 4 then (chk h7 v0 11).bind fun _ => bnd2 (Mod_keepsAhead v0 h7) fun _ h11 => (chk h11 v0 11).bind fun _ => bnd2 (Mod_comesPlant v0 v1 v2 v3 h11) fun _ h12 => (gfR h12 v0 11 5).bind fun a13 => (ald 0 h12 a13 0).bind fun x14 => (chk h12 v0 11).bind fun _ => bnd2 (Mod_changed v0 1 (x14 - 1) h12) fun x16 h15 => some (x16, h15) else (chk h7 v0 11).bind fun _ => bnd2 (Mod_refuses v0 (-5) h7) fun x18 h17 => some (x18, h17)) else Mod_plant_j30 v0 v1 v2 v3 h7)))
theorem t_Mod_plant {l : Launch} {G : GX} {v0 : Nat} {v1 : Int32} {v2 : Int32} {v3 : Int32} {h : AHeap} {v : Int32} {h1 : AHeap} (hf : Mod_plant v0 v1 v2 v3 h = some (v, h1)) : CT l G kMod_plant 0 0 [.ref v0, .int v1, .int v2, .int v3] h (some (.int v)) h1 := by
  refine CT_of (ls := [some (.ref v0), some (.int v1), some (.int v2), some (.int v3)]) (Z := fun z => z = (v, h1)) (by decide +kernel) (Nat.le_of_ble_eq_true rfl) hf rfl ⟨rfl, rfl, rfl, rfl, trivial⟩ (fun E ok => ?_)
  unfold Mod_plant
  refine J_iload_n (pc' := 1) ok (dOf dX11_plant 0 rfl) rfl rfl rfl ?_
  refine J_iconst (v := 0) (pc' := 2) ok (dOf dX11_plant 1 rfl) rfl (by decide) ?_
  refine J_sipush (v := 999) (pc' := 5) ok (dOf dX11_plant 2 rfl) rfl (by decide) ?_
  refine J_callSi (k2 := kMod_isIn) (as := [.int v1, .int 0, .int 999]) (pc' := 8) ok (dOf dX11_plant 3 rfl) rfl (cw_Mod_isIn (by decide) (by decide)) wml_X11_75 wstat_X11_isIn ⟨Nat.le_refl 0, Nat.le_refl 0⟩ (Nat.le_of_ble_eq_true rfl) rfl (fun _ _ hf => t_Mod_isIn hf) (fun x2 h1 => ?_)
  refine J_if_eq (tgt := 30) (pc' := 11) ok (dOf dX11_plant 4 rfl) rfl (by decide) ?_ ?_
  · exact Mod_plant_j30_J ok v0 v1 v2 v3 h1
  · refine J_iload_n (pc' := 12) ok (dOf dX11_plant 5 rfl) rfl rfl rfl ?_
    refine J_iconst (v := 1) (pc' := 13) ok (dOf dX11_plant 6 rfl) rfl (by decide) ?_
    refine J_bipush (v := 20) (pc' := 15) ok (dOf dX11_plant 7 rfl) rfl (by decide) ?_
    refine J_callSi (k2 := kMod_isIn) (as := [.int v2, .int 1, .int 20]) (pc' := 18) ok (dOf dX11_plant 8 rfl) rfl (cw_Mod_isIn (by decide) (by decide)) wml_X11_75 wstat_X11_isIn ⟨Nat.le_refl 0, Nat.le_refl 0⟩ (Nat.le_of_ble_eq_true rfl) rfl (fun _ _ hf => t_Mod_isIn hf) (fun x6 h5 => ?_)
    refine J_if_eq (tgt := 30) (pc' := 21) ok (dOf dX11_plant 9 rfl) rfl (by decide) ?_ ?_
    · exact Mod_plant_j30_J ok v0 v1 v2 v3 h5
    · refine J_iload_n (pc' := 22) ok (dOf dX11_plant 10 rfl) rfl rfl rfl ?_
      refine J_iconst (v := 0) (pc' := 23) ok (dOf dX11_plant 11 rfl) rfl (by decide) ?_
      refine J_iconst (v := 3) (pc' := 24) ok (dOf dX11_plant 12 rfl) rfl (by decide) ?_
      refine J_callSi (k2 := kMod_isIn) (as := [.int v3, .int 0, .int 3]) (pc' := 27) ok (dOf dX11_plant 13 rfl) rfl (cw_Mod_isIn (by decide) (by decide)) wml_X11_75 wstat_X11_isIn ⟨Nat.le_refl 0, Nat.le_refl 0⟩ (Nat.le_of_ble_eq_true rfl) rfl (fun _ _ hf => t_Mod_isIn hf) (fun x8 h7 => ?_)
      refine J_if_ne (tgt := 36) (pc' := 30) ok (dOf dX11_plant 14 rfl) rfl (by decide) ?_ ?_
      · refine J_aload_n (pc' := 37) ok (dOf dX11_plant 19 rfl) rfl rfl rfl ?_
        refine J_getR (ci := 11) (kf := 5) (C := RX11) (T := TX11) (N := 29) (pc' := 40) ok (dOf dX11_plant 20 rfl) rfl (by decide) rfl (by decide) win_11 wfl_X11_22 (fun a9 => ?_)
        refine J_iconst (v := 0) (pc' := 41) ok (dOf dX11_plant 21 rfl) rfl (by decide) ?_
        refine J_iald (pc' := 42) ok (dOf dX11_plant 22 rfl) rfl (fun x10 => ?_)
        refine J_iconst (v := 4) (pc' := 43) ok (dOf dX11_plant 23 rfl) rfl (by decide) ?_
        refine J_icmp_ne (tgt := 53) (pc' := 46) ok (dOf dX11_plant 24 rfl) rfl (by decide) ?_ ?_
        · refine J_aload_n (pc' := 54) ok (dOf dX11_plant 29 rfl) rfl rfl rfl ?_
          refine J_callVv (k2 := kMod_keepsAhead) (ci := 11) (T := TX11) (N := 29) (as := []) (pc' := 57) ok (dOf dX11_plant 30 rfl) rfl (cw_Mod_keepsAhead (by decide) (by decide)) wml_X11_172 winst_X11_keepsAhead wsel_X11_keepsAhead rfl ⟨Nat.le_refl 0, Nat.le_refl 0⟩ (Nat.le_of_ble_eq_true rfl) rfl (fun _ _ hf => t_Mod_keepsAhead hf) (fun _ h11 => ?_)
          refine J_aload_n (pc' := 58) ok (dOf dX11_plant 31 rfl) rfl rfl rfl ?_
          refine J_iload_n (pc' := 59) ok (dOf dX11_plant 32 rfl) rfl rfl rfl ?_
          refine J_iload_n (pc' := 60) ok (dOf dX11_plant 33 rfl) rfl rfl rfl ?_
          refine J_iload_n (pc' := 61) ok (dOf dX11_plant 34 rfl) rfl rfl rfl ?_
          refine J_callVv (k2 := kMod_comesPlant) (ci := 11) (T := TX11) (N := 29) (as := [.int v1, .int v2, .int v3]) (pc' := 64) ok (dOf dX11_plant 35 rfl) rfl (cw_Mod_comesPlant (by decide) (by decide)) wml_X11_144 winst_X11_comesPlant wsel_X11_comesPlant rfl ⟨Nat.le_refl 0, Nat.le_refl 0⟩ (Nat.le_of_ble_eq_true rfl) rfl (fun _ _ hf => t_Mod_comesPlant hf) (fun _ h12 => ?_)
          refine J_aload_n (pc' := 65) ok (dOf dX11_plant 36 rfl) rfl rfl rfl ?_
          refine J_iconst (v := 1) (pc' := 66) ok (dOf dX11_plant 37 rfl) rfl (by decide) ?_
          refine J_aload_n (pc' := 67) ok (dOf dX11_plant 38 rfl) rfl rfl rfl ?_
          refine J_getR (ci := 11) (kf := 5) (C := RX11) (T := TX11) (N := 29) (pc' := 70) ok (dOf dX11_plant 39 rfl) rfl (by decide) rfl (by decide) win_11 wfl_X11_22 (fun a13 => ?_)
          refine J_iconst (v := 0) (pc' := 71) ok (dOf dX11_plant 40 rfl) rfl (by decide) ?_
          refine J_iald (pc' := 72) ok (dOf dX11_plant 41 rfl) rfl (fun x14 => ?_)
          refine J_iconst (v := 1) (pc' := 73) ok (dOf dX11_plant 42 rfl) rfl (by decide) ?_
          refine J_isub (pc' := 74) ok (dOf dX11_plant 43 rfl) rfl ?_
          refine J_callVi (k2 := kMod_changed) (ci := 11) (T := TX11) (N := 29) (as := [.int 1, .int (x14 - 1)]) (pc' := 77) ok (dOf dX11_plant 44 rfl) rfl (cw_Mod_changed (by decide) (by decide)) wml_X11_187 winst_X11_changed wsel_X11_changed rfl ⟨Nat.le_refl 0, Nat.le_refl 0⟩ (Nat.le_of_ble_eq_true rfl) rfl (fun _ _ hf => t_Mod_changed hf) (fun x16 h15 => ?_)
          exact J_ireturn ok (dOf dX11_plant 45 rfl) rfl (Eq.refl 0) (Nat.le_refl 0)
        · refine J_aload_n (pc' := 47) ok (dOf dX11_plant 25 rfl) rfl rfl rfl ?_
          refine J_bipush (v := (-5)) (pc' := 49) ok (dOf dX11_plant 26 rfl) rfl (by decide) ?_
          refine J_callVi (k2 := kMod_refuses) (ci := 11) (T := TX11) (N := 29) (as := [.int (-5)]) (pc' := 52) ok (dOf dX11_plant 27 rfl) rfl (cw_Mod_refuses (by decide) (by decide)) wml_X11_85 winst_X11_refuses wsel_X11_refuses rfl ⟨Nat.le_refl 0, Nat.le_refl 0⟩ (Nat.le_of_ble_eq_true rfl) rfl (fun _ _ hf => t_Mod_refuses hf) (fun x18 h17 => ?_)
          exact J_ireturn ok (dOf dX11_plant 28 rfl) rfl (Eq.refl 0) (Nat.le_refl 0)
      · exact Mod_plant_j30_J ok v0 v1 v2 v3 h7
-- X11_site
abbrev kMod_site : Cd := (yX11_site, cX11_site, 1, (some .int), 4, 94)
theorem dX11_site : dcheck cX11_site [(0, .aload_n 0, 1), (1, .getfield 22, 3), (4, .iconst 1, 1), (5, .iaload, 1), (6, .bipush 6, 2), (8, .if_icmp .ne 10, 3), (11, .aload_n 0, 1), (12, .bipush (-5), 2), (14, .invokevirtual 85, 3), (17, .ireturn, 1), (18, .aload_n 0, 1), (19, .invokevirtual 172, 3), (22, .aload_n 0, 1), (23, .getfield 22, 3), (26, .iconst 1, 1), (27, .dup2, 1), (28, .iaload, 1), (29, .iconst 1, 1), (30, .iadd, 1), (31, .iastore, 1), (32, .aload_n 0, 1), (33, .iconst 2, 1), (34, .aload_n 0, 1), (35, .getfield 22, 3), (38, .iconst 1, 1), (39, .iaload, 1), (40, .iconst 1, 1), (41, .isub, 1), (42, .invokevirtual 187, 3), (45, .ireturn, 1)] = true := by decide +kernel
theorem cw_Mod_site {k : Cd} (h1 : kMod_site.2.2.2.2.1 + 1 ≤ k.2.2.2.2.1) (h2 : 8 + (kMod_site.2.2.1 + 11) + kMod_site.2.2.2.2.2 ≤ k.2.2.2.2.2) : Cw k kMod_site 0 := ⟨wcode_X11_site, wini_SplitProgramModel, ⟨by decide, by decide, by decide +kernel⟩, h1, h2⟩
def Mod_site (v0 : Nat) (h : AHeap) : Option (Int32 × AHeap) :=
  (gfR h v0 11 5).bind fun a1 => (ald 0 h a1 1).bind fun x2 => (if ¬ x2 = 6 then (chk h v0 11).bind fun _ => bnd2 (Mod_keepsAhead v0 h) fun _ h3 => (gfR h3 v0 11 5).bind fun a4 => (ald 0 h3 a4 1).bind fun x5 => (ast 0 h3 a4 1 (x5 + 1)).bind fun h6 => (gfR h6 v0 11 5).bind fun a7 => (ald 0 h6 a7 1).bind fun x8 => (chk h6 v0 11).bind fun _ => bnd2 (Mod_changed v0 2 (x8 - 1) h6) fun x10 h9 => some (x10, h9) else (chk h v0 11).bind fun _ => bnd2 (Mod_refuses v0 (-5) h) fun x12 h11 => some (x12, h11))
theorem t_Mod_site {l : Launch} {G : GX} {v0 : Nat} {h : AHeap} {v : Int32} {h1 : AHeap} (hf : Mod_site v0 h = some (v, h1)) : CT l G kMod_site 0 0 [.ref v0] h (some (.int v)) h1 := by
  refine CT_of (ls := [some (.ref v0)]) (Z := fun z => z = (v, h1)) (by decide +kernel) (Nat.le_of_ble_eq_true rfl) hf rfl ⟨rfl, trivial⟩ (fun E ok => ?_)
  unfold Mod_site
  refine J_aload_n (pc' := 1) ok (dOf dX11_site 0 rfl) rfl rfl rfl ?_
  refine J_getR (ci := 11) (kf := 5) (C := RX11) (T := TX11) (N := 29) (pc' := 4) ok (dOf dX11_site 1 rfl) rfl (by decide) rfl (by decide) win_11 wfl_X11_22 (fun a1 => ?_)
  refine J_iconst (v := 1) (pc' := 5) ok (dOf dX11_site 2 rfl) rfl (by decide) ?_
  refine J_iald (pc' := 6) ok (dOf dX11_site 3 rfl) rfl (fun x2 => ?_)
  refine J_bipush (v := 6) (pc' := 8) ok (dOf dX11_site 4 rfl) rfl (by decide) ?_
  refine J_icmp_ne (tgt := 18) (pc' := 11) ok (dOf dX11_site 5 rfl) rfl (by decide) ?_ ?_
  · refine J_aload_n (pc' := 19) ok (dOf dX11_site 10 rfl) rfl rfl rfl ?_
    refine J_callVv (k2 := kMod_keepsAhead) (ci := 11) (T := TX11) (N := 29) (as := []) (pc' := 22) ok (dOf dX11_site 11 rfl) rfl (cw_Mod_keepsAhead (by decide) (by decide)) wml_X11_172 winst_X11_keepsAhead wsel_X11_keepsAhead rfl ⟨Nat.le_refl 0, Nat.le_refl 0⟩ (Nat.le_of_ble_eq_true rfl) rfl (fun _ _ hf => t_Mod_keepsAhead hf) (fun _ h3 => ?_)
    refine J_aload_n (pc' := 23) ok (dOf dX11_site 12 rfl) rfl rfl rfl ?_
    refine J_getR (ci := 11) (kf := 5) (C := RX11) (T := TX11) (N := 29) (pc' := 26) ok (dOf dX11_site 13 rfl) rfl (by decide) rfl (by decide) win_11 wfl_X11_22 (fun a4 => ?_)
    refine J_iconst (v := 1) (pc' := 27) ok (dOf dX11_site 14 rfl) rfl (by decide) ?_
    refine J_dup2 (pc' := 28) ok (dOf dX11_site 15 rfl) rfl rfl rfl ?_
    refine J_iald (pc' := 29) ok (dOf dX11_site 16 rfl) rfl (fun x5 => ?_)
    refine J_iconst (v := 1) (pc' := 30) ok (dOf dX11_site 17 rfl) rfl (by decide) ?_
    refine J_iadd (pc' := 31) ok (dOf dX11_site 18 rfl) rfl ?_
    refine J_iast (pc' := 32) ok (dOf dX11_site 19 rfl) rfl (fun h6 _ => ?_)
    refine J_aload_n (pc' := 33) ok (dOf dX11_site 20 rfl) rfl rfl rfl ?_
    refine J_iconst (v := 2) (pc' := 34) ok (dOf dX11_site 21 rfl) rfl (by decide) ?_
    refine J_aload_n (pc' := 35) ok (dOf dX11_site 22 rfl) rfl rfl rfl ?_
    refine J_getR (ci := 11) (kf := 5) (C := RX11) (T := TX11) (N := 29) (pc' := 38) ok (dOf dX11_site 23 rfl) rfl (by decide) rfl (by decide) win_11 wfl_X11_22 (fun a7 => ?_)
    refine J_iconst (v := 1) (pc' := 39) ok (dOf dX11_site 24 rfl) rfl (by decide) ?_
    refine J_iald (pc' := 40) ok (dOf dX11_site 25 rfl) rfl (fun x8 => ?_)
    refine J_iconst (v := 1) (pc' := 41) ok (dOf dX11_site 26 rfl) rfl (by decide) ?_
    refine J_isub (pc' := 42) ok (dOf dX11_site 27 rfl) rfl ?_
    refine J_callVi (k2 := kMod_changed) (ci := 11) (T := TX11) (N := 29) (as := [.int 2, .int (x8 - 1)]) (pc' := 45) ok (dOf dX11_site 28 rfl) rfl (cw_Mod_changed (by decide) (by decide)) wml_X11_187 winst_X11_changed wsel_X11_changed rfl ⟨Nat.le_refl 0, Nat.le_refl 0⟩ (Nat.le_of_ble_eq_true rfl) rfl (fun _ _ hf => t_Mod_changed hf) (fun x10 h9 => ?_)
    exact J_ireturn ok (dOf dX11_site 29 rfl) rfl (Eq.refl 0) (Nat.le_refl 0)
  · refine J_aload_n (pc' := 12) ok (dOf dX11_site 6 rfl) rfl rfl rfl ?_
    refine J_bipush (v := (-5)) (pc' := 14) ok (dOf dX11_site 7 rfl) rfl (by decide) ?_
    refine J_callVi (k2 := kMod_refuses) (ci := 11) (T := TX11) (N := 29) (as := [.int (-5)]) (pc' := 17) ok (dOf dX11_site 8 rfl) rfl (cw_Mod_refuses (by decide) (by decide)) wml_X11_85 winst_X11_refuses wsel_X11_refuses rfl ⟨Nat.le_refl 0, Nat.le_refl 0⟩ (Nat.le_of_ble_eq_true rfl) rfl (fun _ _ hf => t_Mod_refuses hf) (fun x12 h11 => ?_)
    exact J_ireturn ok (dOf dX11_site 9 rfl) rfl (Eq.refl 0) (Nat.le_refl 0)
-- X11_isPlant
abbrev kMod_isPlant : Cd := (yX11_isPlant, cX11_isPlant, 2, (some .boolean), 1, 22)
theorem dX11_isPlant : dcheck cX11_isPlant [(0, .iload_n 1, 1), (1, .iconst 0, 1), (2, .aload_n 0, 1), (3, .getfield 22, 3), (6, .iconst 0, 1), (7, .iaload, 1), (8, .iconst 1, 1), (9, .isub, 1), (10, .invokestatic 75, 3), (13, .ireturn, 1)] = true := by decide +kernel
theorem cw_Mod_isPlant {k : Cd} (h1 : kMod_isPlant.2.2.2.2.1 + 1 ≤ k.2.2.2.2.1) (h2 : 8 + (kMod_isPlant.2.2.1 + 11) + kMod_isPlant.2.2.2.2.2 ≤ k.2.2.2.2.2) : Cw k kMod_isPlant 1 := ⟨wcode_X11_isPlant, wini_SplitProgramModel, ⟨by decide, by decide, by decide +kernel⟩, h1, h2⟩
def Mod_isPlant (v0 : Nat) (v1 : Int32) (h : AHeap) : Option (Int32 × AHeap) :=
  (gfR h v0 11 5).bind fun a1 => (ald 0 h a1 0).bind fun x2 => bnd2 (Mod_isIn v1 0 (x2 - 1) h) fun x4 h3 => (bz x4).bind fun z => some (z, h3)
theorem t_Mod_isPlant {l : Launch} {G : GX} {v0 : Nat} {v1 : Int32} {h : AHeap} {v : Int32} {h1 : AHeap} (hf : Mod_isPlant v0 v1 h = some (v, h1)) : CT l G kMod_isPlant 0 0 [.ref v0, .int v1] h (some (.int v)) h1 := by
  refine CT_of (ls := [some (.ref v0), some (.int v1)]) (Z := fun z => z = (v, h1)) (by decide +kernel) (Nat.le_of_ble_eq_true rfl) hf rfl ⟨rfl, rfl, trivial⟩ (fun E ok => ?_)
  unfold Mod_isPlant
  refine J_iload_n (pc' := 1) ok (dOf dX11_isPlant 0 rfl) rfl rfl rfl ?_
  refine J_iconst (v := 0) (pc' := 2) ok (dOf dX11_isPlant 1 rfl) rfl (by decide) ?_
  refine J_aload_n (pc' := 3) ok (dOf dX11_isPlant 2 rfl) rfl rfl rfl ?_
  refine J_getR (ci := 11) (kf := 5) (C := RX11) (T := TX11) (N := 29) (pc' := 6) ok (dOf dX11_isPlant 3 rfl) rfl (by decide) rfl (by decide) win_11 wfl_X11_22 (fun a1 => ?_)
  refine J_iconst (v := 0) (pc' := 7) ok (dOf dX11_isPlant 4 rfl) rfl (by decide) ?_
  refine J_iald (pc' := 8) ok (dOf dX11_isPlant 5 rfl) rfl (fun x2 => ?_)
  refine J_iconst (v := 1) (pc' := 9) ok (dOf dX11_isPlant 6 rfl) rfl (by decide) ?_
  refine J_isub (pc' := 10) ok (dOf dX11_isPlant 7 rfl) rfl ?_
  refine J_callSi (k2 := kMod_isIn) (as := [.int v1, .int 0, .int (x2 - 1)]) (pc' := 13) ok (dOf dX11_isPlant 8 rfl) rfl (cw_Mod_isIn (by decide) (by decide)) wml_X11_75 wstat_X11_isIn ⟨Nat.le_refl 0, Nat.le_refl 0⟩ (Nat.le_of_ble_eq_true rfl) rfl (fun _ _ hf => t_Mod_isIn hf) (fun x4 h3 => ?_)
  exact J_zreturn ok (dOf dX11_isPlant 9 rfl) rfl (Eq.refl 0) (Nat.le_refl 0)
-- X11_isSite
abbrev kMod_isSite : Cd := (yX11_isSite, cX11_isSite, 2, (some .boolean), 1, 22)
theorem dX11_isSite : dcheck cX11_isSite [(0, .iload_n 1, 1), (1, .iconst 0, 1), (2, .aload_n 0, 1), (3, .getfield 22, 3), (6, .iconst 1, 1), (7, .iaload, 1), (8, .iconst 1, 1), (9, .isub, 1), (10, .invokestatic 75, 3), (13, .ireturn, 1)] = true := by decide +kernel
theorem cw_Mod_isSite {k : Cd} (h1 : kMod_isSite.2.2.2.2.1 + 1 ≤ k.2.2.2.2.1) (h2 : 8 + (kMod_isSite.2.2.1 + 11) + kMod_isSite.2.2.2.2.2 ≤ k.2.2.2.2.2) : Cw k kMod_isSite 1 := ⟨wcode_X11_isSite, wini_SplitProgramModel, ⟨by decide, by decide, by decide +kernel⟩, h1, h2⟩
def Mod_isSite (v0 : Nat) (v1 : Int32) (h : AHeap) : Option (Int32 × AHeap) :=
  (gfR h v0 11 5).bind fun a1 => (ald 0 h a1 1).bind fun x2 => bnd2 (Mod_isIn v1 0 (x2 - 1) h) fun x4 h3 => (bz x4).bind fun z => some (z, h3)
theorem t_Mod_isSite {l : Launch} {G : GX} {v0 : Nat} {v1 : Int32} {h : AHeap} {v : Int32} {h1 : AHeap} (hf : Mod_isSite v0 v1 h = some (v, h1)) : CT l G kMod_isSite 0 0 [.ref v0, .int v1] h (some (.int v)) h1 := by
  refine CT_of (ls := [some (.ref v0), some (.int v1)]) (Z := fun z => z = (v, h1)) (by decide +kernel) (Nat.le_of_ble_eq_true rfl) hf rfl ⟨rfl, rfl, trivial⟩ (fun E ok => ?_)
  unfold Mod_isSite
  refine J_iload_n (pc' := 1) ok (dOf dX11_isSite 0 rfl) rfl rfl rfl ?_
  refine J_iconst (v := 0) (pc' := 2) ok (dOf dX11_isSite 1 rfl) rfl (by decide) ?_
  refine J_aload_n (pc' := 3) ok (dOf dX11_isSite 2 rfl) rfl rfl rfl ?_
  refine J_getR (ci := 11) (kf := 5) (C := RX11) (T := TX11) (N := 29) (pc' := 6) ok (dOf dX11_isSite 3 rfl) rfl (by decide) rfl (by decide) win_11 wfl_X11_22 (fun a1 => ?_)
  refine J_iconst (v := 1) (pc' := 7) ok (dOf dX11_isSite 4 rfl) rfl (by decide) ?_
  refine J_iald (pc' := 8) ok (dOf dX11_isSite 5 rfl) rfl (fun x2 => ?_)
  refine J_iconst (v := 1) (pc' := 9) ok (dOf dX11_isSite 6 rfl) rfl (by decide) ?_
  refine J_isub (pc' := 10) ok (dOf dX11_isSite 7 rfl) rfl ?_
  refine J_callSi (k2 := kMod_isIn) (as := [.int v1, .int 0, .int (x2 - 1)]) (pc' := 13) ok (dOf dX11_isSite 8 rfl) rfl (cw_Mod_isIn (by decide) (by decide)) wml_X11_75 wstat_X11_isIn ⟨Nat.le_refl 0, Nat.le_refl 0⟩ (Nat.le_of_ble_eq_true rfl) rfl (fun _ _ hf => t_Mod_isIn hf) (fun x4 h3 => ?_)
  exact J_zreturn ok (dOf dX11_isSite 9 rfl) rfl (Eq.refl 0) (Nat.le_refl 0)
-- X11_road
abbrev kMod_road : Cd := (yX11_road, cX11_road, 5, (some .int), 4, 94)
theorem dX11_road : dcheck cX11_road [(0, .iload_n 3, 1), (1, .iconst (-1), 1), (2, .bipush 99, 2), (4, .invokestatic 75, 3), (7, .ifCond .ne 9, 3), (10, .aload_n 0, 1), (11, .iconst (-1), 1), (12, .invokevirtual 85, 3), (15, .ireturn, 1), (16, .aload_n 0, 1), (17, .iload_n 1, 1), (18, .invokevirtual 190, 3), (21, .ifCond .eq 11, 3), (24, .aload_n 0, 1), (25, .iload_n 2, 1), (26, .invokevirtual 193, 3), (29, .ifCond .ne 10, 3), (32, .aload_n 0, 1), (33, .bipush (-2), 2), (35, .invokevirtual 85, 3), (38, .ireturn, 1), (39, .aload_n 0, 1), (40, .iload_n 1, 1), (41, .iload_n 2, 1), (42, .invokevirtual 148, 3), (45, .istore 4, 2), (47, .iload 4, 2), (49, .iload_n 3, 1), (50, .if_icmp .ne 10, 3), (53, .aload_n 0, 1), (54, .bipush (-4), 2), (56, .invokevirtual 85, 3), (59, .ireturn, 1), (60, .aload_n 0, 1), (61, .invokevirtual 172, 3), (64, .aload_n 0, 1), (65, .getfield 22, 3), (68, .bipush 23, 2), (70, .bipush 6, 2), (72, .iload_n 1, 1), (73, .imul, 1), (74, .iadd, 1), (75, .iload_n 2, 1), (76, .iadd, 1), (77, .iload_n 3, 1), (78, .iastore, 1), (79, .aload_n 0, 1), (80, .iconst 3, 1), (81, .iload 4, 2), (83, .iconst 1, 1), (84, .iadd, 1), (85, .invokevirtual 187, 3), (88, .ireturn, 1)] = true := by decide +kernel
theorem cw_Mod_road {k : Cd} (h1 : kMod_road.2.2.2.2.1 + 1 ≤ k.2.2.2.2.1) (h2 : 8 + (kMod_road.2.2.1 + 11) + kMod_road.2.2.2.2.2 ≤ k.2.2.2.2.2) : Cw k kMod_road 3 := ⟨wcode_X11_road, wini_SplitProgramModel, ⟨by decide, by decide, by decide +kernel⟩, h1, h2⟩
def Mod_road_j32 (v0 : Nat) (v1 : Int32) (v2 : Int32) (v3 : Int32) (h : AHeap) : Option (Int32 × AHeap) :=
  (chk h v0 11).bind fun _ => bnd2 (Mod_refuses v0 (-2) h) fun x6 h5 => some (x6, h5)
theorem Mod_road_j32_J {E : JE} {l : Launch} {G : GX} {v : Int32} {h' : AHeap} (ok : JOK E l G kMod_road 0 0 (some (.int v)) h') (v0 : Nat) (v1 : Int32) (v2 : Int32) (v3 : Int32) (h : AHeap) : J E kMod_road (Mod_road_j32 v0 v1 v2 v3 h) (fun z => z = (v, h')) 32 [some (.ref v0), some (.int v1), some (.int v2), some (.int v3), none] [] h 0 0 := by
  unfold Mod_road_j32
  refine J_aload_n (pc' := 33) ok (dOf dX11_road 17 rfl) rfl rfl rfl ?_
  refine J_bipush (v := (-2)) (pc' := 35) ok (dOf dX11_road 18 rfl) rfl (by decide) ?_
  refine J_callVi (k2 := kMod_refuses) (ci := 11) (T := TX11) (N := 29) (as := [.int (-2)]) (pc' := 38) ok (dOf dX11_road 19 rfl) rfl (cw_Mod_refuses (by decide) (by decide)) wml_X11_85 winst_X11_refuses wsel_X11_refuses rfl ⟨Nat.le_refl 0, Nat.le_refl 0⟩ (Nat.le_of_ble_eq_true rfl) rfl (fun _ _ hf => t_Mod_refuses hf) (fun x6 h5 => ?_)
  exact J_ireturn ok (dOf dX11_road 20 rfl) rfl (Eq.refl 0) (Nat.le_refl 0)
def Mod_road (v0 : Nat) (v1 : Int32) (v2 : Int32) (v3 : Int32) (h : AHeap) : Option (Int32 × AHeap) :=
  bnd2 (Mod_isIn v3 (-1) 99 h) fun x2 h1 => (if ¬ x2 = 0 then (chk h1 v0 11).bind fun _ => bnd2 (Mod_isPlant v0 v1 h1) fun x4 h3 => (if x4 = 0 then Mod_road_j32 v0 v1 v2 v3 h3 else (chk h3 v0 11).bind fun _ => bnd2 (Mod_isSite v0 v2 h3) fun x8 h7 => (if ¬ x8 = 0 then (chk h7 v0 11).bind fun _ => bnd2 (Mod_toll v0 v1 v2 h7) fun x10 h9 => (if ¬ x10 = v3 then (chk h9 v0 11).bind fun _ => bnd2 (Mod_keepsAhead v0 h9) fun _ h11 => (gfR h11 v0 11 5).bind fun a12 => (ast 0 h11 a12 ((23 + (6 * v1)) + v2) v3).bind fun h13 => (chk h13 v0 11).bind fun _ => bnd2 (Mod_changed v0 3 (x10 + 1) h13) fun x15 h14 => some (x15, h14) else (chk h9 v0 11).bind fun _ => bnd2 (Mod_refuses v0 (-4) h9) fun x17 h16 => some (x17, h16)) else Mod_road_j32 v0 v1 v2 v3 h7)) else (chk h1 v0 11).bind fun _ => bnd2 (Mod_refuses v0 (-1) h1) fun x19 h18 => some (x19, h18))
theorem t_Mod_road {l : Launch} {G : GX} {v0 : Nat} {v1 : Int32} {v2 : Int32} {v3 : Int32} {h : AHeap} {v : Int32} {h1 : AHeap} (hf : Mod_road v0 v1 v2 v3 h = some (v, h1)) : CT l G kMod_road 0 0 [.ref v0, .int v1, .int v2, .int v3] h (some (.int v)) h1 := by
  refine CT_of (ls := [some (.ref v0), some (.int v1), some (.int v2), some (.int v3), none]) (Z := fun z => z = (v, h1)) (by decide +kernel) (Nat.le_of_ble_eq_true rfl) hf rfl ⟨rfl, rfl, rfl, rfl, trivial⟩ (fun E ok => ?_)
  unfold Mod_road
  refine J_iload_n (pc' := 1) ok (dOf dX11_road 0 rfl) rfl rfl rfl ?_
  refine J_iconst (v := (-1)) (pc' := 2) ok (dOf dX11_road 1 rfl) rfl (by decide) ?_
  refine J_bipush (v := 99) (pc' := 4) ok (dOf dX11_road 2 rfl) rfl (by decide) ?_
  refine J_callSi (k2 := kMod_isIn) (as := [.int v3, .int (-1), .int 99]) (pc' := 7) ok (dOf dX11_road 3 rfl) rfl (cw_Mod_isIn (by decide) (by decide)) wml_X11_75 wstat_X11_isIn ⟨Nat.le_refl 0, Nat.le_refl 0⟩ (Nat.le_of_ble_eq_true rfl) rfl (fun _ _ hf => t_Mod_isIn hf) (fun x2 h1 => ?_)
  refine J_if_ne (tgt := 16) (pc' := 10) ok (dOf dX11_road 4 rfl) rfl (by decide) ?_ ?_
  · refine J_aload_n (pc' := 17) ok (dOf dX11_road 9 rfl) rfl rfl rfl ?_
    refine J_iload_n (pc' := 18) ok (dOf dX11_road 10 rfl) rfl rfl rfl ?_
    refine J_callVi (k2 := kMod_isPlant) (ci := 11) (T := TX11) (N := 29) (as := [.int v1]) (pc' := 21) ok (dOf dX11_road 11 rfl) rfl (cw_Mod_isPlant (by decide) (by decide)) wml_X11_190 winst_X11_isPlant wsel_X11_isPlant rfl ⟨Nat.le_refl 0, Nat.le_refl 0⟩ (Nat.le_of_ble_eq_true rfl) rfl (fun _ _ hf => t_Mod_isPlant hf) (fun x4 h3 => ?_)
    refine J_if_eq (tgt := 32) (pc' := 24) ok (dOf dX11_road 12 rfl) rfl (by decide) ?_ ?_
    · exact Mod_road_j32_J ok v0 v1 v2 v3 h3
    · refine J_aload_n (pc' := 25) ok (dOf dX11_road 13 rfl) rfl rfl rfl ?_
      refine J_iload_n (pc' := 26) ok (dOf dX11_road 14 rfl) rfl rfl rfl ?_
      refine J_callVi (k2 := kMod_isSite) (ci := 11) (T := TX11) (N := 29) (as := [.int v2]) (pc' := 29) ok (dOf dX11_road 15 rfl) rfl (cw_Mod_isSite (by decide) (by decide)) wml_X11_193 winst_X11_isSite wsel_X11_isSite rfl ⟨Nat.le_refl 0, Nat.le_refl 0⟩ (Nat.le_of_ble_eq_true rfl) rfl (fun _ _ hf => t_Mod_isSite hf) (fun x8 h7 => ?_)
      refine J_if_ne (tgt := 39) (pc' := 32) ok (dOf dX11_road 16 rfl) rfl (by decide) ?_ ?_
      · refine J_aload_n (pc' := 40) ok (dOf dX11_road 21 rfl) rfl rfl rfl ?_
        refine J_iload_n (pc' := 41) ok (dOf dX11_road 22 rfl) rfl rfl rfl ?_
        refine J_iload_n (pc' := 42) ok (dOf dX11_road 23 rfl) rfl rfl rfl ?_
        refine J_callVi (k2 := kMod_toll) (ci := 11) (T := TX11) (N := 29) (as := [.int v1, .int v2]) (pc' := 45) ok (dOf dX11_road 24 rfl) rfl (cw_Mod_toll (by decide) (by decide)) wml_X11_148 winst_X11_toll wsel_X11_toll rfl ⟨Nat.le_refl 0, Nat.le_refl 0⟩ (Nat.le_of_ble_eq_true rfl) rfl (fun _ _ hf => t_Mod_toll hf) (fun x10 h9 => ?_)
        refine J_istore (ls' := [some (.ref v0), some (.int v1), some (.int v2), some (.int v3), some (.int x10)]) (pc' := 47) ok (dOf dX11_road 25 rfl) rfl (Nat.le_of_ble_eq_true rfl) rfl rfl ?_
        refine J_iload (pc' := 49) ok (dOf dX11_road 26 rfl) rfl rfl ?_
        refine J_iload_n (pc' := 50) ok (dOf dX11_road 27 rfl) rfl rfl rfl ?_
        refine J_icmp_ne (tgt := 60) (pc' := 53) ok (dOf dX11_road 28 rfl) rfl (by decide) ?_ ?_
        · refine J_aload_n (pc' := 61) ok (dOf dX11_road 33 rfl) rfl rfl rfl ?_
          refine J_callVv (k2 := kMod_keepsAhead) (ci := 11) (T := TX11) (N := 29) (as := []) (pc' := 64) ok (dOf dX11_road 34 rfl) rfl (cw_Mod_keepsAhead (by decide) (by decide)) wml_X11_172 winst_X11_keepsAhead wsel_X11_keepsAhead rfl ⟨Nat.le_refl 0, Nat.le_refl 0⟩ (Nat.le_of_ble_eq_true rfl) rfl (fun _ _ hf => t_Mod_keepsAhead hf) (fun _ h11 => ?_)
          refine J_aload_n (pc' := 65) ok (dOf dX11_road 35 rfl) rfl rfl rfl ?_
          refine J_getR (ci := 11) (kf := 5) (C := RX11) (T := TX11) (N := 29) (pc' := 68) ok (dOf dX11_road 36 rfl) rfl (by decide) rfl (by decide) win_11 wfl_X11_22 (fun a12 => ?_)
          refine J_bipush (v := 23) (pc' := 70) ok (dOf dX11_road 37 rfl) rfl (by decide) ?_
          refine J_bipush (v := 6) (pc' := 72) ok (dOf dX11_road 38 rfl) rfl (by decide) ?_
          refine J_iload_n (pc' := 73) ok (dOf dX11_road 39 rfl) rfl rfl rfl ?_
          refine J_imul (pc' := 74) ok (dOf dX11_road 40 rfl) rfl ?_
          refine J_iadd (pc' := 75) ok (dOf dX11_road 41 rfl) rfl ?_
          refine J_iload_n (pc' := 76) ok (dOf dX11_road 42 rfl) rfl rfl rfl ?_
          refine J_iadd (pc' := 77) ok (dOf dX11_road 43 rfl) rfl ?_
          refine J_iload_n (pc' := 78) ok (dOf dX11_road 44 rfl) rfl rfl rfl ?_
          refine J_iast (pc' := 79) ok (dOf dX11_road 45 rfl) rfl (fun h13 _ => ?_)
          refine J_aload_n (pc' := 80) ok (dOf dX11_road 46 rfl) rfl rfl rfl ?_
          refine J_iconst (v := 3) (pc' := 81) ok (dOf dX11_road 47 rfl) rfl (by decide) ?_
          refine J_iload (pc' := 83) ok (dOf dX11_road 48 rfl) rfl rfl ?_
          refine J_iconst (v := 1) (pc' := 84) ok (dOf dX11_road 49 rfl) rfl (by decide) ?_
          refine J_iadd (pc' := 85) ok (dOf dX11_road 50 rfl) rfl ?_
          refine J_callVi (k2 := kMod_changed) (ci := 11) (T := TX11) (N := 29) (as := [.int 3, .int (x10 + 1)]) (pc' := 88) ok (dOf dX11_road 51 rfl) rfl (cw_Mod_changed (by decide) (by decide)) wml_X11_187 winst_X11_changed wsel_X11_changed rfl ⟨Nat.le_refl 0, Nat.le_refl 0⟩ (Nat.le_of_ble_eq_true rfl) rfl (fun _ _ hf => t_Mod_changed hf) (fun x15 h14 => ?_)
          exact J_ireturn ok (dOf dX11_road 52 rfl) rfl (Eq.refl 0) (Nat.le_refl 0)
        · refine J_aload_n (pc' := 54) ok (dOf dX11_road 29 rfl) rfl rfl rfl ?_
          refine J_bipush (v := (-4)) (pc' := 56) ok (dOf dX11_road 30 rfl) rfl (by decide) ?_
          refine J_callVi (k2 := kMod_refuses) (ci := 11) (T := TX11) (N := 29) (as := [.int (-4)]) (pc' := 59) ok (dOf dX11_road 31 rfl) rfl (cw_Mod_refuses (by decide) (by decide)) wml_X11_85 winst_X11_refuses wsel_X11_refuses rfl ⟨Nat.le_refl 0, Nat.le_refl 0⟩ (Nat.le_of_ble_eq_true rfl) rfl (fun _ _ hf => t_Mod_refuses hf) (fun x17 h16 => ?_)
          exact J_ireturn ok (dOf dX11_road 32 rfl) rfl (Eq.refl 0) (Nat.le_refl 0)
      · exact Mod_road_j32_J ok v0 v1 v2 v3 h7
  · refine J_aload_n (pc' := 11) ok (dOf dX11_road 5 rfl) rfl rfl rfl ?_
    refine J_iconst (v := (-1)) (pc' := 12) ok (dOf dX11_road 6 rfl) rfl (by decide) ?_
    refine J_callVi (k2 := kMod_refuses) (ci := 11) (T := TX11) (N := 29) (as := [.int (-1)]) (pc' := 15) ok (dOf dX11_road 7 rfl) rfl (cw_Mod_refuses (by decide) (by decide)) wml_X11_85 winst_X11_refuses wsel_X11_refuses rfl ⟨Nat.le_refl 0, Nat.le_refl 0⟩ (Nat.le_of_ble_eq_true rfl) rfl (fun _ _ hf => t_Mod_refuses hf) (fun x19 h18 => ?_)
    exact J_ireturn ok (dOf dX11_road 8 rfl) rfl (Eq.refl 0) (Nat.le_refl 0)
-- X11_scene
abbrev kMod_scene : Cd := (yX11_scene, cX11_scene, 4, (some .int), 4, 94)
theorem dX11_scene : dcheck cX11_scene [(0, .iload_n 1, 1), (1, .iconst 1, 1), (2, .bipush 9, 2), (4, .invokestatic 75, 3), (7, .ifCond .ne 9, 3), (10, .aload_n 0, 1), (11, .iconst (-1), 1), (12, .invokevirtual 85, 3), (15, .ireturn, 1), (16, .aload_n 0, 1), (17, .getfield 22, 3), (20, .iconst 2, 1), (21, .iaload, 1), (22, .iconst 4, 1), (23, .if_icmp .ne 10, 3), (26, .aload_n 0, 1), (27, .bipush (-5), 2), (29, .invokevirtual 85, 3), (32, .ireturn, 1), (33, .aload_n 0, 1), (34, .invokevirtual 172, 3), (37, .aload_n 0, 1), (38, .getfield 22, 3), (41, .iconst 2, 1), (42, .iaload, 1), (43, .istore_n 2, 1), (44, .aload_n 0, 1), (45, .getfield 22, 3), (48, .bipush 47, 2), (50, .iload_n 2, 1), (51, .iadd, 1), (52, .iload_n 1, 1), (53, .iastore, 1), (54, .iconst 0, 1), (55, .istore_n 3, 1), (56, .iload_n 3, 1), (57, .bipush 6, 2), (59, .if_icmp .ge 24, 3), (62, .aload_n 0, 1), (63, .getfield 22, 3), (66, .bipush 51, 2), (68, .bipush 6, 2), (70, .iload_n 2, 1), (71, .imul, 1), (72, .iadd, 1), (73, .iload_n 3, 1), (74, .iadd, 1), (75, .iconst 0, 1), (76, .iastore, 1), (77, .iinc 3 1, 3), (80, .goto (-24), 3), (83, .aload_n 0, 1), (84, .getfield 22, 3), (87, .iconst 2, 1), (88, .dup2, 1), (89, .iaload, 1), (90, .iconst 1, 1), (91, .iadd, 1), (92, .iastore, 1), (93, .aload_n 0, 1), (94, .iconst 4, 1), (95, .iload_n 2, 1), (96, .invokevirtual 187, 3), (99, .ireturn, 1)] = true := by decide +kernel
theorem cw_Mod_scene {k : Cd} (h1 : kMod_scene.2.2.2.2.1 + 1 ≤ k.2.2.2.2.1) (h2 : 8 + (kMod_scene.2.2.1 + 11) + kMod_scene.2.2.2.2.2 ≤ k.2.2.2.2.2) : Cw k kMod_scene 1 := ⟨wcode_X11_scene, wini_SplitProgramModel, ⟨by decide, by decide, by decide +kernel⟩, h1, h2⟩
def Mod_scene_b56 (v0 : Nat) (v1 : Int32) (v2 : Int32) (s : Int32 × AHeap) : Option ((Int32 × AHeap) ⊕ ((Int32 × AHeap))) :=
  (if 6 ≤ s.1 then some (Sum.inr (s.1, s.2)) else (gfR s.2 v0 11 5).bind fun a10 => (ast 0 s.2 a10 ((51 + (6 * v2)) + s.1) 0).bind fun h11 => some (Sum.inl (s.1 + 1, h11)))
theorem Mod_scene_b56_J {E : JE} {l : Launch} {G : GX} {r : Option Value} {h' : AHeap} (ok : JOK E l G kMod_scene 0 0 r h') (v0 : Nat) (v1 : Int32) (v2 : Int32) {Y : (Int32 × AHeap) ⊕ ((Int32 × AHeap)) → Prop} (k1 : ∀ s' : Int32 × AHeap, Y (.inl s') → JW E kMod_scene 56 [some (.ref v0), some (.int v1), some (.int v2), some (.int s'.1)] [] s'.2 0 0) (kx83 : ∀ q : Int32 × AHeap, Y (.inr q) → JW E kMod_scene 83 [some (.ref v0), some (.int v1), some (.int v2), some (.int q.1)] [] q.2 0 0) (s : Int32 × AHeap) : J E kMod_scene (Mod_scene_b56 v0 v1 v2 s) Y 56 [some (.ref v0), some (.int v1), some (.int v2), some (.int s.1)] [] s.2 0 0 := by
  unfold Mod_scene_b56
  refine J_iload_n (pc' := 57) ok (dOf dX11_scene 35 rfl) rfl rfl rfl ?_
  refine J_bipush (v := 6) (pc' := 59) ok (dOf dX11_scene 36 rfl) rfl (by decide) ?_
  refine J_icmp_ge (tgt := 83) (pc' := 62) ok (dOf dX11_scene 37 rfl) rfl (by decide) ?_ ?_
  · exact J_fin (kx83 (s.1, s.2))
  · refine J_aload_n (pc' := 63) ok (dOf dX11_scene 38 rfl) rfl rfl rfl ?_
    refine J_getR (ci := 11) (kf := 5) (C := RX11) (T := TX11) (N := 29) (pc' := 66) ok (dOf dX11_scene 39 rfl) rfl (by decide) rfl (by decide) win_11 wfl_X11_22 (fun a10 => ?_)
    refine J_bipush (v := 51) (pc' := 68) ok (dOf dX11_scene 40 rfl) rfl (by decide) ?_
    refine J_bipush (v := 6) (pc' := 70) ok (dOf dX11_scene 41 rfl) rfl (by decide) ?_
    refine J_iload_n (pc' := 71) ok (dOf dX11_scene 42 rfl) rfl rfl rfl ?_
    refine J_imul (pc' := 72) ok (dOf dX11_scene 43 rfl) rfl ?_
    refine J_iadd (pc' := 73) ok (dOf dX11_scene 44 rfl) rfl ?_
    refine J_iload_n (pc' := 74) ok (dOf dX11_scene 45 rfl) rfl rfl rfl ?_
    refine J_iadd (pc' := 75) ok (dOf dX11_scene 46 rfl) rfl ?_
    refine J_iconst (v := 0) (pc' := 76) ok (dOf dX11_scene 47 rfl) rfl (by decide) ?_
    refine J_iast (pc' := 77) ok (dOf dX11_scene 48 rfl) rfl (fun h11 _ => ?_)
    refine J_iinc (v := s.1 + 1) (ls' := [some (.ref v0), some (.int v1), some (.int v2), some (.int (s.1 + 1))]) (pc' := 80) ok (dOf dX11_scene 49 rfl) rfl rfl (by rfl) (Nat.le_of_ble_eq_true rfl) rfl rfl ?_
    refine J_goto (tgt := 56) ok (dOf dX11_scene 50 rfl) (by decide) ?_
    exact J_fin (k1 (s.1 + 1, h11))
def Mod_scene_j83 (v0 : Nat) (v1 : Int32) (v2 : Int32) (v3 : Int32) (h : AHeap) : Option (Int32 × AHeap) :=
  (gfR h v0 11 5).bind fun a12 => (ald 0 h a12 2).bind fun x13 => (ast 0 h a12 2 (x13 + 1)).bind fun h14 => (chk h14 v0 11).bind fun _ => bnd2 (Mod_changed v0 4 v2 h14) fun x16 h15 => some (x16, h15)
theorem Mod_scene_j83_J {E : JE} {l : Launch} {G : GX} {v : Int32} {h' : AHeap} (ok : JOK E l G kMod_scene 0 0 (some (.int v)) h') (v0 : Nat) (v1 : Int32) (v2 : Int32) (v3 : Int32) (h : AHeap) : J E kMod_scene (Mod_scene_j83 v0 v1 v2 v3 h) (fun z => z = (v, h')) 83 [some (.ref v0), some (.int v1), some (.int v2), some (.int v3)] [] h 0 0 := by
  unfold Mod_scene_j83
  refine J_aload_n (pc' := 84) ok (dOf dX11_scene 51 rfl) rfl rfl rfl ?_
  refine J_getR (ci := 11) (kf := 5) (C := RX11) (T := TX11) (N := 29) (pc' := 87) ok (dOf dX11_scene 52 rfl) rfl (by decide) rfl (by decide) win_11 wfl_X11_22 (fun a12 => ?_)
  refine J_iconst (v := 2) (pc' := 88) ok (dOf dX11_scene 53 rfl) rfl (by decide) ?_
  refine J_dup2 (pc' := 89) ok (dOf dX11_scene 54 rfl) rfl rfl rfl ?_
  refine J_iald (pc' := 90) ok (dOf dX11_scene 55 rfl) rfl (fun x13 => ?_)
  refine J_iconst (v := 1) (pc' := 91) ok (dOf dX11_scene 56 rfl) rfl (by decide) ?_
  refine J_iadd (pc' := 92) ok (dOf dX11_scene 57 rfl) rfl ?_
  refine J_iast (pc' := 93) ok (dOf dX11_scene 58 rfl) rfl (fun h14 _ => ?_)
  refine J_aload_n (pc' := 94) ok (dOf dX11_scene 59 rfl) rfl rfl rfl ?_
  refine J_iconst (v := 4) (pc' := 95) ok (dOf dX11_scene 60 rfl) rfl (by decide) ?_
  refine J_iload_n (pc' := 96) ok (dOf dX11_scene 61 rfl) rfl rfl rfl ?_
  refine J_callVi (k2 := kMod_changed) (ci := 11) (T := TX11) (N := 29) (as := [.int 4, .int v2]) (pc' := 99) ok (dOf dX11_scene 62 rfl) rfl (cw_Mod_changed (by decide) (by decide)) wml_X11_187 winst_X11_changed wsel_X11_changed rfl ⟨Nat.le_refl 0, Nat.le_refl 0⟩ (Nat.le_of_ble_eq_true rfl) rfl (fun _ _ hf => t_Mod_changed hf) (fun x16 h15 => ?_)
  exact J_ireturn ok (dOf dX11_scene 63 rfl) rfl (Eq.refl 0) (Nat.le_refl 0)
def Mod_scene (v0 : Nat) (v1 : Int32) (h : AHeap) : Option (Int32 × AHeap) :=
  bnd2 (Mod_isIn v1 1 9 h) fun x2 h1 => (if ¬ x2 = 0 then (gfR h1 v0 11 5).bind fun a3 => (ald 0 h1 a3 2).bind fun x4 => (if ¬ x4 = 4 then (chk h1 v0 11).bind fun _ => bnd2 (Mod_keepsAhead v0 h1) fun _ h5 => (gfR h5 v0 11 5).bind fun a6 => (ald 0 h5 a6 2).bind fun x7 => (gfR h5 v0 11 5).bind fun a8 => (ast 0 h5 a8 (47 + x7) v1).bind fun h9 => (iter (Mod_scene_b56 v0 v1 x7) Lmax (0, h9)).bind (fun (q56 : Int32 × AHeap) => Mod_scene_j83 v0 v1 x7 q56.1 q56.2) else (chk h1 v0 11).bind fun _ => bnd2 (Mod_refuses v0 (-5) h1) fun x18 h17 => some (x18, h17)) else (chk h1 v0 11).bind fun _ => bnd2 (Mod_refuses v0 (-1) h1) fun x20 h19 => some (x20, h19))
theorem t_Mod_scene {l : Launch} {G : GX} {v0 : Nat} {v1 : Int32} {h : AHeap} {v : Int32} {h1 : AHeap} (hf : Mod_scene v0 v1 h = some (v, h1)) : CT l G kMod_scene 0 0 [.ref v0, .int v1] h (some (.int v)) h1 := by
  refine CT_of (ls := [some (.ref v0), some (.int v1), none, none]) (Z := fun z => z = (v, h1)) (by decide +kernel) (Nat.le_of_ble_eq_true rfl) hf rfl ⟨rfl, rfl, trivial⟩ (fun E ok => ?_)
  unfold Mod_scene
  refine J_iload_n (pc' := 1) ok (dOf dX11_scene 0 rfl) rfl rfl rfl ?_
  refine J_iconst (v := 1) (pc' := 2) ok (dOf dX11_scene 1 rfl) rfl (by decide) ?_
  refine J_bipush (v := 9) (pc' := 4) ok (dOf dX11_scene 2 rfl) rfl (by decide) ?_
  refine J_callSi (k2 := kMod_isIn) (as := [.int v1, .int 1, .int 9]) (pc' := 7) ok (dOf dX11_scene 3 rfl) rfl (cw_Mod_isIn (by decide) (by decide)) wml_X11_75 wstat_X11_isIn ⟨Nat.le_refl 0, Nat.le_refl 0⟩ (Nat.le_of_ble_eq_true rfl) rfl (fun _ _ hf => t_Mod_isIn hf) (fun x2 h1 => ?_)
  refine J_if_ne (tgt := 16) (pc' := 10) ok (dOf dX11_scene 4 rfl) rfl (by decide) ?_ ?_
  · refine J_aload_n (pc' := 17) ok (dOf dX11_scene 9 rfl) rfl rfl rfl ?_
    refine J_getR (ci := 11) (kf := 5) (C := RX11) (T := TX11) (N := 29) (pc' := 20) ok (dOf dX11_scene 10 rfl) rfl (by decide) rfl (by decide) win_11 wfl_X11_22 (fun a3 => ?_)
    refine J_iconst (v := 2) (pc' := 21) ok (dOf dX11_scene 11 rfl) rfl (by decide) ?_
    refine J_iald (pc' := 22) ok (dOf dX11_scene 12 rfl) rfl (fun x4 => ?_)
    refine J_iconst (v := 4) (pc' := 23) ok (dOf dX11_scene 13 rfl) rfl (by decide) ?_
    refine J_icmp_ne (tgt := 33) (pc' := 26) ok (dOf dX11_scene 14 rfl) rfl (by decide) ?_ ?_
    · refine J_aload_n (pc' := 34) ok (dOf dX11_scene 19 rfl) rfl rfl rfl ?_
      refine J_callVv (k2 := kMod_keepsAhead) (ci := 11) (T := TX11) (N := 29) (as := []) (pc' := 37) ok (dOf dX11_scene 20 rfl) rfl (cw_Mod_keepsAhead (by decide) (by decide)) wml_X11_172 winst_X11_keepsAhead wsel_X11_keepsAhead rfl ⟨Nat.le_refl 0, Nat.le_refl 0⟩ (Nat.le_of_ble_eq_true rfl) rfl (fun _ _ hf => t_Mod_keepsAhead hf) (fun _ h5 => ?_)
      refine J_aload_n (pc' := 38) ok (dOf dX11_scene 21 rfl) rfl rfl rfl ?_
      refine J_getR (ci := 11) (kf := 5) (C := RX11) (T := TX11) (N := 29) (pc' := 41) ok (dOf dX11_scene 22 rfl) rfl (by decide) rfl (by decide) win_11 wfl_X11_22 (fun a6 => ?_)
      refine J_iconst (v := 2) (pc' := 42) ok (dOf dX11_scene 23 rfl) rfl (by decide) ?_
      refine J_iald (pc' := 43) ok (dOf dX11_scene 24 rfl) rfl (fun x7 => ?_)
      refine J_istore_n (ls' := [some (.ref v0), some (.int v1), some (.int x7), none]) (pc' := 44) ok (dOf dX11_scene 25 rfl) rfl rfl (Nat.le_of_ble_eq_true rfl) rfl rfl ?_
      refine J_aload_n (pc' := 45) ok (dOf dX11_scene 26 rfl) rfl rfl rfl ?_
      refine J_getR (ci := 11) (kf := 5) (C := RX11) (T := TX11) (N := 29) (pc' := 48) ok (dOf dX11_scene 27 rfl) rfl (by decide) rfl (by decide) win_11 wfl_X11_22 (fun a8 => ?_)
      refine J_bipush (v := 47) (pc' := 50) ok (dOf dX11_scene 28 rfl) rfl (by decide) ?_
      refine J_iload_n (pc' := 51) ok (dOf dX11_scene 29 rfl) rfl rfl rfl ?_
      refine J_iadd (pc' := 52) ok (dOf dX11_scene 30 rfl) rfl ?_
      refine J_iload_n (pc' := 53) ok (dOf dX11_scene 31 rfl) rfl rfl rfl ?_
      refine J_iast (pc' := 54) ok (dOf dX11_scene 32 rfl) rfl (fun h9 _ => ?_)
      refine J_iconst (v := 0) (pc' := 55) ok (dOf dX11_scene 33 rfl) rfl (by decide) ?_
      refine J_istore_n (ls' := [some (.ref v0), some (.int v1), some (.int x7), some (.int 0)]) (pc' := 56) ok (dOf dX11_scene 34 rfl) rfl rfl (Nat.le_of_ble_eq_true rfl) rfl rfl ?_
      refine J_iter (lf := fun z56 => [some (.ref v0), some (.int v1), some (.int x7), some (.int z56.1)]) (sf := fun _ => []) (hf := fun z56 => z56.2) (px := (fun (q56 : Int32 × AHeap) => 83)) (lx := (fun (q56 : Int32 × AHeap) => [some (.ref v0), some (.int v1), some (.int x7), some (.int q56.1)])) (sx := (fun (q56 : Int32 × AHeap) => [])) (hx := (fun (q56 : Int32 × AHeap) => q56.2)) (fun Y2 z56 m1 m2 => Mod_scene_b56_J ok v0 v1 x7 m1 m2 z56) (fun q56 => ?_) Lmax _
      exact Mod_scene_j83_J ok v0 v1 x7 q56.1 q56.2
    · refine J_aload_n (pc' := 27) ok (dOf dX11_scene 15 rfl) rfl rfl rfl ?_
      refine J_bipush (v := (-5)) (pc' := 29) ok (dOf dX11_scene 16 rfl) rfl (by decide) ?_
      refine J_callVi (k2 := kMod_refuses) (ci := 11) (T := TX11) (N := 29) (as := [.int (-5)]) (pc' := 32) ok (dOf dX11_scene 17 rfl) rfl (cw_Mod_refuses (by decide) (by decide)) wml_X11_85 winst_X11_refuses wsel_X11_refuses rfl ⟨Nat.le_refl 0, Nat.le_refl 0⟩ (Nat.le_of_ble_eq_true rfl) rfl (fun _ _ hf => t_Mod_refuses hf) (fun x18 h17 => ?_)
      exact J_ireturn ok (dOf dX11_scene 18 rfl) rfl (Eq.refl 0) (Nat.le_refl 0)
  · refine J_aload_n (pc' := 11) ok (dOf dX11_scene 5 rfl) rfl rfl rfl ?_
    refine J_iconst (v := (-1)) (pc' := 12) ok (dOf dX11_scene 6 rfl) rfl (by decide) ?_
    refine J_callVi (k2 := kMod_refuses) (ci := 11) (T := TX11) (N := 29) (as := [.int (-1)]) (pc' := 15) ok (dOf dX11_scene 7 rfl) rfl (cw_Mod_refuses (by decide) (by decide)) wml_X11_85 winst_X11_refuses wsel_X11_refuses rfl ⟨Nat.le_refl 0, Nat.le_refl 0⟩ (Nat.le_of_ble_eq_true rfl) rfl (fun _ _ hf => t_Mod_refuses hf) (fun x20 h19 => ?_)
    exact J_ireturn ok (dOf dX11_scene 8 rfl) rfl (Eq.refl 0) (Nat.le_refl 0)
-- X11_isCase
abbrev kMod_isCase : Cd := (yX11_isCase, cX11_isCase, 2, (some .boolean), 1, 22)
theorem dX11_isCase : dcheck cX11_isCase [(0, .iload_n 1, 1), (1, .iconst 0, 1), (2, .aload_n 0, 1), (3, .getfield 22, 3), (6, .iconst 2, 1), (7, .iaload, 1), (8, .iconst 1, 1), (9, .isub, 1), (10, .invokestatic 75, 3), (13, .ireturn, 1)] = true := by decide +kernel
theorem cw_Mod_isCase {k : Cd} (h1 : kMod_isCase.2.2.2.2.1 + 1 ≤ k.2.2.2.2.1) (h2 : 8 + (kMod_isCase.2.2.1 + 11) + kMod_isCase.2.2.2.2.2 ≤ k.2.2.2.2.2) : Cw k kMod_isCase 1 := ⟨wcode_X11_isCase, wini_SplitProgramModel, ⟨by decide, by decide, by decide +kernel⟩, h1, h2⟩
def Mod_isCase (v0 : Nat) (v1 : Int32) (h : AHeap) : Option (Int32 × AHeap) :=
  (gfR h v0 11 5).bind fun a1 => (ald 0 h a1 2).bind fun x2 => bnd2 (Mod_isIn v1 0 (x2 - 1) h) fun x4 h3 => (bz x4).bind fun z => some (z, h3)
theorem t_Mod_isCase {l : Launch} {G : GX} {v0 : Nat} {v1 : Int32} {h : AHeap} {v : Int32} {h1 : AHeap} (hf : Mod_isCase v0 v1 h = some (v, h1)) : CT l G kMod_isCase 0 0 [.ref v0, .int v1] h (some (.int v)) h1 := by
  refine CT_of (ls := [some (.ref v0), some (.int v1)]) (Z := fun z => z = (v, h1)) (by decide +kernel) (Nat.le_of_ble_eq_true rfl) hf rfl ⟨rfl, rfl, trivial⟩ (fun E ok => ?_)
  unfold Mod_isCase
  refine J_iload_n (pc' := 1) ok (dOf dX11_isCase 0 rfl) rfl rfl rfl ?_
  refine J_iconst (v := 0) (pc' := 2) ok (dOf dX11_isCase 1 rfl) rfl (by decide) ?_
  refine J_aload_n (pc' := 3) ok (dOf dX11_isCase 2 rfl) rfl rfl rfl ?_
  refine J_getR (ci := 11) (kf := 5) (C := RX11) (T := TX11) (N := 29) (pc' := 6) ok (dOf dX11_isCase 3 rfl) rfl (by decide) rfl (by decide) win_11 wfl_X11_22 (fun a1 => ?_)
  refine J_iconst (v := 2) (pc' := 7) ok (dOf dX11_isCase 4 rfl) rfl (by decide) ?_
  refine J_iald (pc' := 8) ok (dOf dX11_isCase 5 rfl) rfl (fun x2 => ?_)
  refine J_iconst (v := 1) (pc' := 9) ok (dOf dX11_isCase 6 rfl) rfl (by decide) ?_
  refine J_isub (pc' := 10) ok (dOf dX11_isCase 7 rfl) rfl ?_
  refine J_callSi (k2 := kMod_isIn) (as := [.int v1, .int 0, .int (x2 - 1)]) (pc' := 13) ok (dOf dX11_isCase 8 rfl) rfl (cw_Mod_isIn (by decide) (by decide)) wml_X11_75 wstat_X11_isIn ⟨Nat.le_refl 0, Nat.le_refl 0⟩ (Nat.le_of_ble_eq_true rfl) rfl (fun _ _ hf => t_Mod_isIn hf) (fun x4 h3 => ?_)
  exact J_zreturn ok (dOf dX11_isCase 9 rfl) rfl (Eq.refl 0) (Nat.le_refl 0)
-- X11_tellsAt
abbrev kMod_tellsAt : Cd := (yX11_tellsAt, cX11_tellsAt, 5, (some .int), 4, 94)
theorem dX11_tellsAt : dcheck cX11_tellsAt [(0, .aload_n 0, 1), (1, .getfield 22, 3), (4, .iload_n 2, 1), (5, .iaload, 1), (6, .istore 4, 2), (8, .iload 4, 2), (10, .iload_n 3, 1), (11, .if_icmp .ne 10, 3), (14, .aload_n 0, 1), (15, .bipush (-4), 2), (17, .invokevirtual 85, 3), (20, .ireturn, 1), (21, .aload_n 0, 1), (22, .invokevirtual 172, 3), (25, .aload_n 0, 1), (26, .getfield 22, 3), (29, .iload_n 2, 1), (30, .iload_n 3, 1), (31, .iastore, 1), (32, .aload_n 0, 1), (33, .iload_n 1, 1), (34, .iload 4, 2), (36, .invokevirtual 187, 3), (39, .ireturn, 1)] = true := by decide +kernel
theorem cw_Mod_tellsAt {k : Cd} (h1 : kMod_tellsAt.2.2.2.2.1 + 1 ≤ k.2.2.2.2.1) (h2 : 8 + (kMod_tellsAt.2.2.1 + 11) + kMod_tellsAt.2.2.2.2.2 ≤ k.2.2.2.2.2) : Cw k kMod_tellsAt 3 := ⟨wcode_X11_tellsAt, wini_SplitProgramModel, ⟨by decide, by decide, by decide +kernel⟩, h1, h2⟩
def Mod_tellsAt (v0 : Nat) (v1 : Int32) (v2 : Int32) (v3 : Int32) (h : AHeap) : Option (Int32 × AHeap) :=
  (gfR h v0 11 5).bind fun a1 => (ald 0 h a1 v2).bind fun x2 => (if ¬ x2 = v3 then (chk h v0 11).bind fun _ => bnd2 (Mod_keepsAhead v0 h) fun _ h3 => (gfR h3 v0 11 5).bind fun a4 => (ast 0 h3 a4 v2 v3).bind fun h5 => (chk h5 v0 11).bind fun _ => bnd2 (Mod_changed v0 v1 x2 h5) fun x7 h6 => some (x7, h6) else (chk h v0 11).bind fun _ => bnd2 (Mod_refuses v0 (-4) h) fun x9 h8 => some (x9, h8))
theorem t_Mod_tellsAt {l : Launch} {G : GX} {v0 : Nat} {v1 : Int32} {v2 : Int32} {v3 : Int32} {h : AHeap} {v : Int32} {h1 : AHeap} (hf : Mod_tellsAt v0 v1 v2 v3 h = some (v, h1)) : CT l G kMod_tellsAt 0 0 [.ref v0, .int v1, .int v2, .int v3] h (some (.int v)) h1 := by
  refine CT_of (ls := [some (.ref v0), some (.int v1), some (.int v2), some (.int v3), none]) (Z := fun z => z = (v, h1)) (by decide +kernel) (Nat.le_of_ble_eq_true rfl) hf rfl ⟨rfl, rfl, rfl, rfl, trivial⟩ (fun E ok => ?_)
  unfold Mod_tellsAt
  refine J_aload_n (pc' := 1) ok (dOf dX11_tellsAt 0 rfl) rfl rfl rfl ?_
  refine J_getR (ci := 11) (kf := 5) (C := RX11) (T := TX11) (N := 29) (pc' := 4) ok (dOf dX11_tellsAt 1 rfl) rfl (by decide) rfl (by decide) win_11 wfl_X11_22 (fun a1 => ?_)
  refine J_iload_n (pc' := 5) ok (dOf dX11_tellsAt 2 rfl) rfl rfl rfl ?_
  refine J_iald (pc' := 6) ok (dOf dX11_tellsAt 3 rfl) rfl (fun x2 => ?_)
  refine J_istore (ls' := [some (.ref v0), some (.int v1), some (.int v2), some (.int v3), some (.int x2)]) (pc' := 8) ok (dOf dX11_tellsAt 4 rfl) rfl (Nat.le_of_ble_eq_true rfl) rfl rfl ?_
  refine J_iload (pc' := 10) ok (dOf dX11_tellsAt 5 rfl) rfl rfl ?_
  refine J_iload_n (pc' := 11) ok (dOf dX11_tellsAt 6 rfl) rfl rfl rfl ?_
  refine J_icmp_ne (tgt := 21) (pc' := 14) ok (dOf dX11_tellsAt 7 rfl) rfl (by decide) ?_ ?_
  · refine J_aload_n (pc' := 22) ok (dOf dX11_tellsAt 12 rfl) rfl rfl rfl ?_
    refine J_callVv (k2 := kMod_keepsAhead) (ci := 11) (T := TX11) (N := 29) (as := []) (pc' := 25) ok (dOf dX11_tellsAt 13 rfl) rfl (cw_Mod_keepsAhead (by decide) (by decide)) wml_X11_172 winst_X11_keepsAhead wsel_X11_keepsAhead rfl ⟨Nat.le_refl 0, Nat.le_refl 0⟩ (Nat.le_of_ble_eq_true rfl) rfl (fun _ _ hf => t_Mod_keepsAhead hf) (fun _ h3 => ?_)
    refine J_aload_n (pc' := 26) ok (dOf dX11_tellsAt 14 rfl) rfl rfl rfl ?_
    refine J_getR (ci := 11) (kf := 5) (C := RX11) (T := TX11) (N := 29) (pc' := 29) ok (dOf dX11_tellsAt 15 rfl) rfl (by decide) rfl (by decide) win_11 wfl_X11_22 (fun a4 => ?_)
    refine J_iload_n (pc' := 30) ok (dOf dX11_tellsAt 16 rfl) rfl rfl rfl ?_
    refine J_iload_n (pc' := 31) ok (dOf dX11_tellsAt 17 rfl) rfl rfl rfl ?_
    refine J_iast (pc' := 32) ok (dOf dX11_tellsAt 18 rfl) rfl (fun h5 _ => ?_)
    refine J_aload_n (pc' := 33) ok (dOf dX11_tellsAt 19 rfl) rfl rfl rfl ?_
    refine J_iload_n (pc' := 34) ok (dOf dX11_tellsAt 20 rfl) rfl rfl rfl ?_
    refine J_iload (pc' := 36) ok (dOf dX11_tellsAt 21 rfl) rfl rfl ?_
    refine J_callVi (k2 := kMod_changed) (ci := 11) (T := TX11) (N := 29) (as := [.int v1, .int x2]) (pc' := 39) ok (dOf dX11_tellsAt 22 rfl) rfl (cw_Mod_changed (by decide) (by decide)) wml_X11_187 winst_X11_changed wsel_X11_changed rfl ⟨Nat.le_refl 0, Nat.le_refl 0⟩ (Nat.le_of_ble_eq_true rfl) rfl (fun _ _ hf => t_Mod_changed hf) (fun x7 h6 => ?_)
    exact J_ireturn ok (dOf dX11_tellsAt 23 rfl) rfl (Eq.refl 0) (Nat.le_refl 0)
  · refine J_aload_n (pc' := 15) ok (dOf dX11_tellsAt 8 rfl) rfl rfl rfl ?_
    refine J_bipush (v := (-4)) (pc' := 17) ok (dOf dX11_tellsAt 9 rfl) rfl (by decide) ?_
    refine J_callVi (k2 := kMod_refuses) (ci := 11) (T := TX11) (N := 29) (as := [.int (-4)]) (pc' := 20) ok (dOf dX11_tellsAt 10 rfl) rfl (cw_Mod_refuses (by decide) (by decide)) wml_X11_85 winst_X11_refuses wsel_X11_refuses rfl ⟨Nat.le_refl 0, Nat.le_refl 0⟩ (Nat.le_of_ble_eq_true rfl) rfl (fun _ _ hf => t_Mod_refuses hf) (fun x9 h8 => ?_)
    exact J_ireturn ok (dOf dX11_tellsAt 11 rfl) rfl (Eq.refl 0) (Nat.le_refl 0)
-- X11_need
abbrev kMod_need : Cd := (yX11_need, cX11_need, 4, (some .int), 5, 118)
theorem dX11_need : dcheck cX11_need [(0, .iload_n 3, 1), (1, .iconst 0, 1), (2, .bipush 20, 2), (4, .invokestatic 75, 3), (7, .ifCond .ne 9, 3), (10, .aload_n 0, 1), (11, .iconst (-1), 1), (12, .invokevirtual 85, 3), (15, .ireturn, 1), (16, .aload_n 0, 1), (17, .iload_n 1, 1), (18, .invokevirtual 196, 3), (21, .ifCond .eq 11, 3), (24, .aload_n 0, 1), (25, .iload_n 2, 1), (26, .invokevirtual 193, 3), (29, .ifCond .ne 12, 3), (32, .aload_n 0, 1), (33, .bipush (-2), 2), (35, .invokevirtual 85, 3), (38, .goto 18, 3), (41, .aload_n 0, 1), (42, .iconst 5, 1), (43, .bipush 51, 2), (45, .bipush 6, 2), (47, .iload_n 1, 1), (48, .imul, 1), (49, .iadd, 1), (50, .iload_n 2, 1), (51, .iadd, 1), (52, .iload_n 3, 1), (53, .invokevirtual 199, 3), (56, .ireturn, 1)] = true := by decide +kernel
theorem cw_Mod_need {k : Cd} (h1 : kMod_need.2.2.2.2.1 + 1 ≤ k.2.2.2.2.1) (h2 : 8 + (kMod_need.2.2.1 + 11) + kMod_need.2.2.2.2.2 ≤ k.2.2.2.2.2) : Cw k kMod_need 3 := ⟨wcode_X11_need, wini_SplitProgramModel, ⟨by decide, by decide, by decide +kernel⟩, h1, h2⟩
def Mod_need_j56 (v0 : Nat) (v1 : Int32) (v2 : Int32) (v3 : Int32) (t0 : Int32) (h : AHeap) : Option (Int32 × AHeap) :=
  some (t0, h)
theorem Mod_need_j56_J {E : JE} {l : Launch} {G : GX} {v : Int32} {h' : AHeap} (ok : JOK E l G kMod_need 0 0 (some (.int v)) h') (v0 : Nat) (v1 : Int32) (v2 : Int32) (v3 : Int32) (t0 : Int32) (h : AHeap) : J E kMod_need (Mod_need_j56 v0 v1 v2 v3 t0 h) (fun z => z = (v, h')) 56 [some (.ref v0), some (.int v1), some (.int v2), some (.int v3)] [.int t0] h 0 0 := by
  unfold Mod_need_j56
  exact J_ireturn ok (dOf dX11_need 32 rfl) rfl (Eq.refl 0) (Nat.le_refl 0)
def Mod_need_j32 (v0 : Nat) (v1 : Int32) (v2 : Int32) (v3 : Int32) (h : AHeap) : Option (Int32 × AHeap) :=
  (chk h v0 11).bind fun _ => bnd2 (Mod_refuses v0 (-2) h) fun x6 h5 => Mod_need_j56 v0 v1 v2 v3 x6 h5
theorem Mod_need_j32_J {E : JE} {l : Launch} {G : GX} {v : Int32} {h' : AHeap} (ok : JOK E l G kMod_need 0 0 (some (.int v)) h') (v0 : Nat) (v1 : Int32) (v2 : Int32) (v3 : Int32) (h : AHeap) : J E kMod_need (Mod_need_j32 v0 v1 v2 v3 h) (fun z => z = (v, h')) 32 [some (.ref v0), some (.int v1), some (.int v2), some (.int v3)] [] h 0 0 := by
  unfold Mod_need_j32
  refine J_aload_n (pc' := 33) ok (dOf dX11_need 17 rfl) rfl rfl rfl ?_
  refine J_bipush (v := (-2)) (pc' := 35) ok (dOf dX11_need 18 rfl) rfl (by decide) ?_
  refine J_callVi (k2 := kMod_refuses) (ci := 11) (T := TX11) (N := 29) (as := [.int (-2)]) (pc' := 38) ok (dOf dX11_need 19 rfl) rfl (cw_Mod_refuses (by decide) (by decide)) wml_X11_85 winst_X11_refuses wsel_X11_refuses rfl ⟨Nat.le_refl 0, Nat.le_refl 0⟩ (Nat.le_of_ble_eq_true rfl) rfl (fun _ _ hf => t_Mod_refuses hf) (fun x6 h5 => ?_)
  refine J_goto (tgt := 56) ok (dOf dX11_need 20 rfl) (by decide) ?_
  exact Mod_need_j56_J ok v0 v1 v2 v3 x6 h5
def Mod_need (v0 : Nat) (v1 : Int32) (v2 : Int32) (v3 : Int32) (h : AHeap) : Option (Int32 × AHeap) :=
  bnd2 (Mod_isIn v3 0 20 h) fun x2 h1 => (if ¬ x2 = 0 then (chk h1 v0 11).bind fun _ => bnd2 (Mod_isCase v0 v1 h1) fun x4 h3 => (if x4 = 0 then Mod_need_j32 v0 v1 v2 v3 h3 else (chk h3 v0 11).bind fun _ => bnd2 (Mod_isSite v0 v2 h3) fun x8 h7 => (if ¬ x8 = 0 then (chk h7 v0 11).bind fun _ => bnd2 (Mod_tellsAt v0 5 ((51 + (6 * v1)) + v2) v3 h7) fun x10 h9 => Mod_need_j56 v0 v1 v2 v3 x10 h9 else Mod_need_j32 v0 v1 v2 v3 h7)) else (chk h1 v0 11).bind fun _ => bnd2 (Mod_refuses v0 (-1) h1) fun x12 h11 => some (x12, h11))
theorem t_Mod_need {l : Launch} {G : GX} {v0 : Nat} {v1 : Int32} {v2 : Int32} {v3 : Int32} {h : AHeap} {v : Int32} {h1 : AHeap} (hf : Mod_need v0 v1 v2 v3 h = some (v, h1)) : CT l G kMod_need 0 0 [.ref v0, .int v1, .int v2, .int v3] h (some (.int v)) h1 := by
  refine CT_of (ls := [some (.ref v0), some (.int v1), some (.int v2), some (.int v3)]) (Z := fun z => z = (v, h1)) (by decide +kernel) (Nat.le_of_ble_eq_true rfl) hf rfl ⟨rfl, rfl, rfl, rfl, trivial⟩ (fun E ok => ?_)
  unfold Mod_need
  refine J_iload_n (pc' := 1) ok (dOf dX11_need 0 rfl) rfl rfl rfl ?_
  refine J_iconst (v := 0) (pc' := 2) ok (dOf dX11_need 1 rfl) rfl (by decide) ?_
  refine J_bipush (v := 20) (pc' := 4) ok (dOf dX11_need 2 rfl) rfl (by decide) ?_
  refine J_callSi (k2 := kMod_isIn) (as := [.int v3, .int 0, .int 20]) (pc' := 7) ok (dOf dX11_need 3 rfl) rfl (cw_Mod_isIn (by decide) (by decide)) wml_X11_75 wstat_X11_isIn ⟨Nat.le_refl 0, Nat.le_refl 0⟩ (Nat.le_of_ble_eq_true rfl) rfl (fun _ _ hf => t_Mod_isIn hf) (fun x2 h1 => ?_)
  refine J_if_ne (tgt := 16) (pc' := 10) ok (dOf dX11_need 4 rfl) rfl (by decide) ?_ ?_
  · refine J_aload_n (pc' := 17) ok (dOf dX11_need 9 rfl) rfl rfl rfl ?_
    refine J_iload_n (pc' := 18) ok (dOf dX11_need 10 rfl) rfl rfl rfl ?_
    refine J_callVi (k2 := kMod_isCase) (ci := 11) (T := TX11) (N := 29) (as := [.int v1]) (pc' := 21) ok (dOf dX11_need 11 rfl) rfl (cw_Mod_isCase (by decide) (by decide)) wml_X11_196 winst_X11_isCase wsel_X11_isCase rfl ⟨Nat.le_refl 0, Nat.le_refl 0⟩ (Nat.le_of_ble_eq_true rfl) rfl (fun _ _ hf => t_Mod_isCase hf) (fun x4 h3 => ?_)
    refine J_if_eq (tgt := 32) (pc' := 24) ok (dOf dX11_need 12 rfl) rfl (by decide) ?_ ?_
    · exact Mod_need_j32_J ok v0 v1 v2 v3 h3
    · refine J_aload_n (pc' := 25) ok (dOf dX11_need 13 rfl) rfl rfl rfl ?_
      refine J_iload_n (pc' := 26) ok (dOf dX11_need 14 rfl) rfl rfl rfl ?_
      refine J_callVi (k2 := kMod_isSite) (ci := 11) (T := TX11) (N := 29) (as := [.int v2]) (pc' := 29) ok (dOf dX11_need 15 rfl) rfl (cw_Mod_isSite (by decide) (by decide)) wml_X11_193 winst_X11_isSite wsel_X11_isSite rfl ⟨Nat.le_refl 0, Nat.le_refl 0⟩ (Nat.le_of_ble_eq_true rfl) rfl (fun _ _ hf => t_Mod_isSite hf) (fun x8 h7 => ?_)
      refine J_if_ne (tgt := 41) (pc' := 32) ok (dOf dX11_need 16 rfl) rfl (by decide) ?_ ?_
      · refine J_aload_n (pc' := 42) ok (dOf dX11_need 21 rfl) rfl rfl rfl ?_
        refine J_iconst (v := 5) (pc' := 43) ok (dOf dX11_need 22 rfl) rfl (by decide) ?_
        refine J_bipush (v := 51) (pc' := 45) ok (dOf dX11_need 23 rfl) rfl (by decide) ?_
        refine J_bipush (v := 6) (pc' := 47) ok (dOf dX11_need 24 rfl) rfl (by decide) ?_
        refine J_iload_n (pc' := 48) ok (dOf dX11_need 25 rfl) rfl rfl rfl ?_
        refine J_imul (pc' := 49) ok (dOf dX11_need 26 rfl) rfl ?_
        refine J_iadd (pc' := 50) ok (dOf dX11_need 27 rfl) rfl ?_
        refine J_iload_n (pc' := 51) ok (dOf dX11_need 28 rfl) rfl rfl rfl ?_
        refine J_iadd (pc' := 52) ok (dOf dX11_need 29 rfl) rfl ?_
        refine J_iload_n (pc' := 53) ok (dOf dX11_need 30 rfl) rfl rfl rfl ?_
        refine J_callVi (k2 := kMod_tellsAt) (ci := 11) (T := TX11) (N := 29) (as := [.int 5, .int ((51 + (6 * v1)) + v2), .int v3]) (pc' := 56) ok (dOf dX11_need 31 rfl) rfl (cw_Mod_tellsAt (by decide) (by decide)) wml_X11_199 winst_X11_tellsAt wsel_X11_tellsAt rfl ⟨Nat.le_refl 0, Nat.le_refl 0⟩ (Nat.le_of_ble_eq_true rfl) rfl (fun _ _ hf => t_Mod_tellsAt hf) (fun x10 h9 => ?_)
        exact Mod_need_j56_J ok v0 v1 v2 v3 x10 h9
      · exact Mod_need_j32_J ok v0 v1 v2 v3 h7
  · refine J_aload_n (pc' := 11) ok (dOf dX11_need 5 rfl) rfl rfl rfl ?_
    refine J_iconst (v := (-1)) (pc' := 12) ok (dOf dX11_need 6 rfl) rfl (by decide) ?_
    refine J_callVi (k2 := kMod_refuses) (ci := 11) (T := TX11) (N := 29) (as := [.int (-1)]) (pc' := 15) ok (dOf dX11_need 7 rfl) rfl (cw_Mod_refuses (by decide) (by decide)) wml_X11_85 winst_X11_refuses wsel_X11_refuses rfl ⟨Nat.le_refl 0, Nat.le_refl 0⟩ (Nat.le_of_ble_eq_true rfl) rfl (fun _ _ hf => t_Mod_refuses hf) (fun x12 h11 => ?_)
    exact J_ireturn ok (dOf dX11_need 8 rfl) rfl (Eq.refl 0) (Nat.le_refl 0)
-- X11_change
abbrev kMod_change : Cd := (yX11_change, cX11_change, 4, (some .int), 5, 118)
theorem dX11_change : dcheck cX11_change [(0, .iload_n 2, 1), (1, .iconst 0, 1), (2, .iconst 2, 1), (3, .invokestatic 75, 3), (6, .ifCond .eq 41, 3), (9, .iload_n 3, 1), (10, .iload_n 2, 1), (11, .iconst 1, 1), (12, .if_icmp .ne 7, 3), (15, .iconst 1, 1), (16, .goto 4, 3), (19, .iconst 0, 1), (20, .iload_n 2, 1), (21, .ifCond .ne 9, 3), (24, .sipush 999, 3), (27, .goto 14, 3), (30, .iload_n 2, 1), (31, .iconst 1, 1), (32, .if_icmp .ne 8, 3), (35, .bipush 20, 2), (37, .goto 4, 3), (40, .iconst 3, 1), (41, .invokestatic 75, 3), (44, .ifCond .ne 9, 3), (47, .aload_n 0, 1), (48, .iconst (-1), 1), (49, .invokevirtual 85, 3), (52, .ireturn, 1), (53, .aload_n 0, 1), (54, .iload_n 1, 1), (55, .invokevirtual 190, 3), (58, .ifCond .ne 12, 3), (61, .aload_n 0, 1), (62, .bipush (-2), 2), (64, .invokevirtual 85, 3), (67, .goto 18, 3), (70, .aload_n 0, 1), (71, .bipush 6, 2), (73, .bipush 11, 2), (75, .iconst 4, 1), (76, .iload_n 2, 1), (77, .imul, 1), (78, .iadd, 1), (79, .iload_n 1, 1), (80, .iadd, 1), (81, .iload_n 3, 1), (82, .invokevirtual 199, 3), (85, .ireturn, 1)] = true := by decide +kernel
theorem cw_Mod_change {k : Cd} (h1 : kMod_change.2.2.2.2.1 + 1 ≤ k.2.2.2.2.1) (h2 : 8 + (kMod_change.2.2.1 + 11) + kMod_change.2.2.2.2.2 ≤ k.2.2.2.2.2) : Cw k kMod_change 3 := ⟨wcode_X11_change, wini_SplitProgramModel, ⟨by decide, by decide, by decide +kernel⟩, h1, h2⟩
def Mod_change_j47 (v0 : Nat) (v1 : Int32) (v2 : Int32) (v3 : Int32) (h : AHeap) : Option (Int32 × AHeap) :=
  (chk h v0 11).bind fun _ => bnd2 (Mod_refuses v0 (-1) h) fun x4 h3 => some (x4, h3)
theorem Mod_change_j47_J {E : JE} {l : Launch} {G : GX} {v : Int32} {h' : AHeap} (ok : JOK E l G kMod_change 0 0 (some (.int v)) h') (v0 : Nat) (v1 : Int32) (v2 : Int32) (v3 : Int32) (h : AHeap) : J E kMod_change (Mod_change_j47 v0 v1 v2 v3 h) (fun z => z = (v, h')) 47 [some (.ref v0), some (.int v1), some (.int v2), some (.int v3)] [] h 0 0 := by
  unfold Mod_change_j47
  refine J_aload_n (pc' := 48) ok (dOf dX11_change 24 rfl) rfl rfl rfl ?_
  refine J_iconst (v := (-1)) (pc' := 49) ok (dOf dX11_change 25 rfl) rfl (by decide) ?_
  refine J_callVi (k2 := kMod_refuses) (ci := 11) (T := TX11) (N := 29) (as := [.int (-1)]) (pc' := 52) ok (dOf dX11_change 26 rfl) rfl (cw_Mod_refuses (by decide) (by decide)) wml_X11_85 winst_X11_refuses wsel_X11_refuses rfl ⟨Nat.le_refl 0, Nat.le_refl 0⟩ (Nat.le_of_ble_eq_true rfl) rfl (fun _ _ hf => t_Mod_refuses hf) (fun x4 h3 => ?_)
  exact J_ireturn ok (dOf dX11_change 27 rfl) rfl (Eq.refl 0) (Nat.le_refl 0)
def Mod_change_j85 (v0 : Nat) (v1 : Int32) (v2 : Int32) (v3 : Int32) (t0 : Int32) (h : AHeap) : Option (Int32 × AHeap) :=
  some (t0, h)
theorem Mod_change_j85_J {E : JE} {l : Launch} {G : GX} {v : Int32} {h' : AHeap} (ok : JOK E l G kMod_change 0 0 (some (.int v)) h') (v0 : Nat) (v1 : Int32) (v2 : Int32) (v3 : Int32) (t0 : Int32) (h : AHeap) : J E kMod_change (Mod_change_j85 v0 v1 v2 v3 t0 h) (fun z => z = (v, h')) 85 [some (.ref v0), some (.int v1), some (.int v2), some (.int v3)] [.int t0] h 0 0 := by
  unfold Mod_change_j85
  exact J_ireturn ok (dOf dX11_change 47 rfl) rfl (Eq.refl 0) (Nat.le_refl 0)
def Mod_change_j41 (v0 : Nat) (v1 : Int32) (v2 : Int32) (v3 : Int32) (t0 : Int32) (t1 : Int32) (t2 : Int32) (h : AHeap) : Option (Int32 × AHeap) :=
  bnd2 (Mod_isIn t0 t1 t2 h) fun x6 h5 => (if ¬ x6 = 0 then (chk h5 v0 11).bind fun _ => bnd2 (Mod_isPlant v0 v1 h5) fun x8 h7 => (if ¬ x8 = 0 then (chk h7 v0 11).bind fun _ => bnd2 (Mod_tellsAt v0 6 ((11 + (4 * v2)) + v1) v3 h7) fun x10 h9 => Mod_change_j85 v0 v1 v2 v3 x10 h9 else (chk h7 v0 11).bind fun _ => bnd2 (Mod_refuses v0 (-2) h7) fun x12 h11 => Mod_change_j85 v0 v1 v2 v3 x12 h11) else Mod_change_j47 v0 v1 v2 v3 h5)
theorem Mod_change_j41_J {E : JE} {l : Launch} {G : GX} {v : Int32} {h' : AHeap} (ok : JOK E l G kMod_change 0 0 (some (.int v)) h') (v0 : Nat) (v1 : Int32) (v2 : Int32) (v3 : Int32) (t0 : Int32) (t1 : Int32) (t2 : Int32) (h : AHeap) : J E kMod_change (Mod_change_j41 v0 v1 v2 v3 t0 t1 t2 h) (fun z => z = (v, h')) 41 [some (.ref v0), some (.int v1), some (.int v2), some (.int v3)] [.int t2, .int t1, .int t0] h 0 0 := by
  unfold Mod_change_j41
  refine J_callSi (k2 := kMod_isIn) (as := [.int t0, .int t1, .int t2]) (pc' := 44) ok (dOf dX11_change 22 rfl) rfl (cw_Mod_isIn (by decide) (by decide)) wml_X11_75 wstat_X11_isIn ⟨Nat.le_refl 0, Nat.le_refl 0⟩ (Nat.le_of_ble_eq_true rfl) rfl (fun _ _ hf => t_Mod_isIn hf) (fun x6 h5 => ?_)
  refine J_if_ne (tgt := 53) (pc' := 47) ok (dOf dX11_change 23 rfl) rfl (by decide) ?_ ?_
  · refine J_aload_n (pc' := 54) ok (dOf dX11_change 28 rfl) rfl rfl rfl ?_
    refine J_iload_n (pc' := 55) ok (dOf dX11_change 29 rfl) rfl rfl rfl ?_
    refine J_callVi (k2 := kMod_isPlant) (ci := 11) (T := TX11) (N := 29) (as := [.int v1]) (pc' := 58) ok (dOf dX11_change 30 rfl) rfl (cw_Mod_isPlant (by decide) (by decide)) wml_X11_190 winst_X11_isPlant wsel_X11_isPlant rfl ⟨Nat.le_refl 0, Nat.le_refl 0⟩ (Nat.le_of_ble_eq_true rfl) rfl (fun _ _ hf => t_Mod_isPlant hf) (fun x8 h7 => ?_)
    refine J_if_ne (tgt := 70) (pc' := 61) ok (dOf dX11_change 31 rfl) rfl (by decide) ?_ ?_
    · refine J_aload_n (pc' := 71) ok (dOf dX11_change 36 rfl) rfl rfl rfl ?_
      refine J_bipush (v := 6) (pc' := 73) ok (dOf dX11_change 37 rfl) rfl (by decide) ?_
      refine J_bipush (v := 11) (pc' := 75) ok (dOf dX11_change 38 rfl) rfl (by decide) ?_
      refine J_iconst (v := 4) (pc' := 76) ok (dOf dX11_change 39 rfl) rfl (by decide) ?_
      refine J_iload_n (pc' := 77) ok (dOf dX11_change 40 rfl) rfl rfl rfl ?_
      refine J_imul (pc' := 78) ok (dOf dX11_change 41 rfl) rfl ?_
      refine J_iadd (pc' := 79) ok (dOf dX11_change 42 rfl) rfl ?_
      refine J_iload_n (pc' := 80) ok (dOf dX11_change 43 rfl) rfl rfl rfl ?_
      refine J_iadd (pc' := 81) ok (dOf dX11_change 44 rfl) rfl ?_
      refine J_iload_n (pc' := 82) ok (dOf dX11_change 45 rfl) rfl rfl rfl ?_
      refine J_callVi (k2 := kMod_tellsAt) (ci := 11) (T := TX11) (N := 29) (as := [.int 6, .int ((11 + (4 * v2)) + v1), .int v3]) (pc' := 85) ok (dOf dX11_change 46 rfl) rfl (cw_Mod_tellsAt (by decide) (by decide)) wml_X11_199 winst_X11_tellsAt wsel_X11_tellsAt rfl ⟨Nat.le_refl 0, Nat.le_refl 0⟩ (Nat.le_of_ble_eq_true rfl) rfl (fun _ _ hf => t_Mod_tellsAt hf) (fun x10 h9 => ?_)
      exact Mod_change_j85_J ok v0 v1 v2 v3 x10 h9
    · refine J_aload_n (pc' := 62) ok (dOf dX11_change 32 rfl) rfl rfl rfl ?_
      refine J_bipush (v := (-2)) (pc' := 64) ok (dOf dX11_change 33 rfl) rfl (by decide) ?_
      refine J_callVi (k2 := kMod_refuses) (ci := 11) (T := TX11) (N := 29) (as := [.int (-2)]) (pc' := 67) ok (dOf dX11_change 34 rfl) rfl (cw_Mod_refuses (by decide) (by decide)) wml_X11_85 winst_X11_refuses wsel_X11_refuses rfl ⟨Nat.le_refl 0, Nat.le_refl 0⟩ (Nat.le_of_ble_eq_true rfl) rfl (fun _ _ hf => t_Mod_refuses hf) (fun x12 h11 => ?_)
      refine J_goto (tgt := 85) ok (dOf dX11_change 35 rfl) (by decide) ?_
      exact Mod_change_j85_J ok v0 v1 v2 v3 x12 h11
  · exact Mod_change_j47_J ok v0 v1 v2 v3 h5
def Mod_change_j20 (v0 : Nat) (v1 : Int32) (v2 : Int32) (v3 : Int32) (t0 : Int32) (t1 : Int32) (h : AHeap) : Option (Int32 × AHeap) :=
  (if ¬ v2 = 0 then (if ¬ v2 = 1 then Mod_change_j41 v0 v1 v2 v3 t0 t1 3 h else Mod_change_j41 v0 v1 v2 v3 t0 t1 20 h) else Mod_change_j41 v0 v1 v2 v3 t0 t1 999 h)
theorem Mod_change_j20_J {E : JE} {l : Launch} {G : GX} {v : Int32} {h' : AHeap} (ok : JOK E l G kMod_change 0 0 (some (.int v)) h') (v0 : Nat) (v1 : Int32) (v2 : Int32) (v3 : Int32) (t0 : Int32) (t1 : Int32) (h : AHeap) : J E kMod_change (Mod_change_j20 v0 v1 v2 v3 t0 t1 h) (fun z => z = (v, h')) 20 [some (.ref v0), some (.int v1), some (.int v2), some (.int v3)] [.int t1, .int t0] h 0 0 := by
  unfold Mod_change_j20
  refine J_iload_n (pc' := 21) ok (dOf dX11_change 12 rfl) rfl rfl rfl ?_
  refine J_if_ne (tgt := 30) (pc' := 24) ok (dOf dX11_change 13 rfl) rfl (by decide) ?_ ?_
  · refine J_iload_n (pc' := 31) ok (dOf dX11_change 16 rfl) rfl rfl rfl ?_
    refine J_iconst (v := 1) (pc' := 32) ok (dOf dX11_change 17 rfl) rfl (by decide) ?_
    refine J_icmp_ne (tgt := 40) (pc' := 35) ok (dOf dX11_change 18 rfl) rfl (by decide) ?_ ?_
    · refine J_iconst (v := 3) (pc' := 41) ok (dOf dX11_change 21 rfl) rfl (by decide) ?_
      exact Mod_change_j41_J ok v0 v1 v2 v3 t0 t1 3 h
    · refine J_bipush (v := 20) (pc' := 37) ok (dOf dX11_change 19 rfl) rfl (by decide) ?_
      refine J_goto (tgt := 41) ok (dOf dX11_change 20 rfl) (by decide) ?_
      exact Mod_change_j41_J ok v0 v1 v2 v3 t0 t1 20 h
  · refine J_sipush (v := 999) (pc' := 27) ok (dOf dX11_change 14 rfl) rfl (by decide) ?_
    refine J_goto (tgt := 41) ok (dOf dX11_change 15 rfl) (by decide) ?_
    exact Mod_change_j41_J ok v0 v1 v2 v3 t0 t1 999 h
def Mod_change (v0 : Nat) (v1 : Int32) (v2 : Int32) (v3 : Int32) (h : AHeap) : Option (Int32 × AHeap) :=
  bnd2 (Mod_isIn v2 0 2 h) fun x2 h1 => (if x2 = 0 then Mod_change_j47 v0 v1 v2 v3 h1 else (if ¬ v2 = 1 then Mod_change_j20 v0 v1 v2 v3 v3 0 h1 else Mod_change_j20 v0 v1 v2 v3 v3 1 h1))
theorem t_Mod_change {l : Launch} {G : GX} {v0 : Nat} {v1 : Int32} {v2 : Int32} {v3 : Int32} {h : AHeap} {v : Int32} {h1 : AHeap} (hf : Mod_change v0 v1 v2 v3 h = some (v, h1)) : CT l G kMod_change 0 0 [.ref v0, .int v1, .int v2, .int v3] h (some (.int v)) h1 := by
  refine CT_of (ls := [some (.ref v0), some (.int v1), some (.int v2), some (.int v3)]) (Z := fun z => z = (v, h1)) (by decide +kernel) (Nat.le_of_ble_eq_true rfl) hf rfl ⟨rfl, rfl, rfl, rfl, trivial⟩ (fun E ok => ?_)
  unfold Mod_change
  refine J_iload_n (pc' := 1) ok (dOf dX11_change 0 rfl) rfl rfl rfl ?_
  refine J_iconst (v := 0) (pc' := 2) ok (dOf dX11_change 1 rfl) rfl (by decide) ?_
  refine J_iconst (v := 2) (pc' := 3) ok (dOf dX11_change 2 rfl) rfl (by decide) ?_
  refine J_callSi (k2 := kMod_isIn) (as := [.int v2, .int 0, .int 2]) (pc' := 6) ok (dOf dX11_change 3 rfl) rfl (cw_Mod_isIn (by decide) (by decide)) wml_X11_75 wstat_X11_isIn ⟨Nat.le_refl 0, Nat.le_refl 0⟩ (Nat.le_of_ble_eq_true rfl) rfl (fun _ _ hf => t_Mod_isIn hf) (fun x2 h1 => ?_)
  refine J_if_eq (tgt := 47) (pc' := 9) ok (dOf dX11_change 4 rfl) rfl (by decide) ?_ ?_
  · exact Mod_change_j47_J ok v0 v1 v2 v3 h1
  · refine J_iload_n (pc' := 10) ok (dOf dX11_change 5 rfl) rfl rfl rfl ?_
    refine J_iload_n (pc' := 11) ok (dOf dX11_change 6 rfl) rfl rfl rfl ?_
    refine J_iconst (v := 1) (pc' := 12) ok (dOf dX11_change 7 rfl) rfl (by decide) ?_
    refine J_icmp_ne (tgt := 19) (pc' := 15) ok (dOf dX11_change 8 rfl) rfl (by decide) ?_ ?_
    · refine J_iconst (v := 0) (pc' := 20) ok (dOf dX11_change 11 rfl) rfl (by decide) ?_
      exact Mod_change_j20_J ok v0 v1 v2 v3 v3 0 h1
    · refine J_iconst (v := 1) (pc' := 16) ok (dOf dX11_change 9 rfl) rfl (by decide) ?_
      refine J_goto (tgt := 20) ok (dOf dX11_change 10 rfl) (by decide) ?_
      exact Mod_change_j20_J ok v0 v1 v2 v3 v3 1 h1
-- X11_unitsOf
abbrev kMod_unitsOf : Cd := (yX11_unitsOf, cX11_unitsOf, 2, (some .int), 0, 0)
theorem dX11_unitsOf : dcheck cX11_unitsOf [(0, .iload_n 0, 1), (1, .iconst 2, 1), (2, .iload_n 1, 1), (3, .imul, 1), (4, .ishr, 1), (5, .iconst 3, 1), (6, .iand, 1), (7, .ireturn, 1)] = true := by decide +kernel
theorem cw_Mod_unitsOf {k : Cd} (h1 : kMod_unitsOf.2.2.2.2.1 + 1 ≤ k.2.2.2.2.1) (h2 : 8 + (kMod_unitsOf.2.2.1 + 11) + kMod_unitsOf.2.2.2.2.2 ≤ k.2.2.2.2.2) : Cw k kMod_unitsOf 2 := ⟨wcode_X11_unitsOf, wini_SplitProgramModel, ⟨by decide, by decide, by decide +kernel⟩, h1, h2⟩
def Mod_unitsOf (v0 : Int32) (v1 : Int32) (h : AHeap) : Option (Int32 × AHeap) :=
  some ((v0 >>> ((2 * v1) &&& 31)) &&& 3, h)
theorem t_Mod_unitsOf {l : Launch} {G : GX} {v0 : Int32} {v1 : Int32} {h : AHeap} {v : Int32} {h1 : AHeap} (hf : Mod_unitsOf v0 v1 h = some (v, h1)) : CT l G kMod_unitsOf 0 0 [.int v0, .int v1] h (some (.int v)) h1 := by
  refine CT_of (ls := [some (.int v0), some (.int v1)]) (Z := fun z => z = (v, h1)) (by decide +kernel) (Nat.le_of_ble_eq_true rfl) hf rfl ⟨rfl, rfl, trivial⟩ (fun E ok => ?_)
  unfold Mod_unitsOf
  refine J_iload_n (pc' := 1) ok (dOf dX11_unitsOf 0 rfl) rfl rfl rfl ?_
  refine J_iconst (v := 2) (pc' := 2) ok (dOf dX11_unitsOf 1 rfl) rfl (by decide) ?_
  refine J_iload_n (pc' := 3) ok (dOf dX11_unitsOf 2 rfl) rfl rfl rfl ?_
  refine J_imul (pc' := 4) ok (dOf dX11_unitsOf 3 rfl) rfl ?_
  refine J_ishr (pc' := 5) ok (dOf dX11_unitsOf 4 rfl) rfl ?_
  refine J_iconst (v := 3) (pc' := 6) ok (dOf dX11_unitsOf 5 rfl) rfl (by decide) ?_
  refine J_iand (pc' := 7) ok (dOf dX11_unitsOf 6 rfl) rfl ?_
  exact J_ireturn ok (dOf dX11_unitsOf 7 rfl) rfl (Eq.refl 0) (Nat.le_refl 0)
-- X11_isPlan
abbrev kMod_isPlan : Cd := (yX11_isPlan, cX11_isPlan, 3, (some .boolean), 1, 22)
theorem dX11_isPlan : dcheck cX11_isPlan [(0, .iload_n 1, 1), (1, .iconst 0, 1), (2, .sipush 255, 3), (5, .invokestatic 75, 3), (8, .ifCond .ne 5, 3), (11, .iconst 0, 1), (12, .ireturn, 1), (13, .iconst 0, 1), (14, .istore_n 2, 1), (15, .iload_n 2, 1), (16, .iconst 4, 1), (17, .if_icmp .ge 42, 3), (20, .iload_n 1, 1), (21, .iload_n 2, 1), (22, .invokestatic 203, 3), (25, .iload_n 2, 1), (26, .aload_n 0, 1), (27, .getfield 22, 3), (30, .iconst 0, 1), (31, .iaload, 1), (32, .if_icmp .ge 15, 3), (35, .aload_n 0, 1), (36, .getfield 22, 3), (39, .bipush 19, 2), (41, .iload_n 2, 1), (42, .iadd, 1), (43, .iaload, 1), (44, .goto 4, 3), (47, .iconst 0, 1), (48, .if_icmp .le 5, 3), (51, .iconst 0, 1), (52, .ireturn, 1), (53, .iinc 2 1, 3), (56, .goto (-41), 3), (59, .iconst 1, 1), (60, .ireturn, 1)] = true := by decide +kernel
theorem cw_Mod_isPlan {k : Cd} (h1 : kMod_isPlan.2.2.2.2.1 + 1 ≤ k.2.2.2.2.1) (h2 : 8 + (kMod_isPlan.2.2.1 + 11) + kMod_isPlan.2.2.2.2.2 ≤ k.2.2.2.2.2) : Cw k kMod_isPlan 1 := ⟨wcode_X11_isPlan, wini_SplitProgramModel, ⟨by decide, by decide, by decide +kernel⟩, h1, h2⟩
def Mod_isPlan_j48 (v0 : Nat) (v1 : Int32) (v2 : Int32) (t0 : Int32) (t1 : Int32) (h : AHeap) : Option ((Int32 × AHeap) ⊕ ((Int32 × AHeap) ⊕ (Int32 × AHeap))) :=
  (if t0 ≤ t1 then some (Sum.inl (v2 + 1, h)) else some (Sum.inr (Sum.inl (v2, h))))
theorem Mod_isPlan_j48_J {E : JE} {l : Launch} {G : GX} {r : Option Value} {h' : AHeap} (ok : JOK E l G kMod_isPlan 0 0 r h') (v0 : Nat) (v1 : Int32) (v2 : Int32) (t0 : Int32) (t1 : Int32) (h : AHeap) {Y : (Int32 × AHeap) ⊕ ((Int32 × AHeap) ⊕ (Int32 × AHeap)) → Prop} (k1 : ∀ s' : Int32 × AHeap, Y (.inl s') → JW E kMod_isPlan 15 [some (.ref v0), some (.int v1), some (.int s'.1)] [] s'.2 0 0) (kx51 : ∀ q : Int32 × AHeap, Y (.inr (Sum.inl q)) → JW E kMod_isPlan 51 [some (.ref v0), some (.int v1), some (.int q.1)] [] q.2 0 0) (kx59 : ∀ q : Int32 × AHeap, Y (.inr (Sum.inr q)) → JW E kMod_isPlan 59 [some (.ref v0), some (.int v1), some (.int q.1)] [] q.2 0 0) : J E kMod_isPlan (Mod_isPlan_j48 v0 v1 v2 t0 t1 h) Y 48 [some (.ref v0), some (.int v1), some (.int v2)] [.int t1, .int t0] h 0 0 := by
  unfold Mod_isPlan_j48
  refine J_icmp_le (tgt := 53) (pc' := 51) ok (dOf dX11_isPlan 29 rfl) rfl (by decide) ?_ ?_
  · refine J_iinc (v := v2 + 1) (ls' := [some (.ref v0), some (.int v1), some (.int (v2 + 1))]) (pc' := 56) ok (dOf dX11_isPlan 32 rfl) rfl rfl (by rfl) (Nat.le_of_ble_eq_true rfl) rfl rfl ?_
    refine J_goto (tgt := 15) ok (dOf dX11_isPlan 33 rfl) (by decide) ?_
    exact J_fin (k1 (v2 + 1, h))
  · exact J_fin (kx51 (v2, h))
def Mod_isPlan_b15 (v0 : Nat) (v1 : Int32) (s : Int32 × AHeap) : Option ((Int32 × AHeap) ⊕ ((Int32 × AHeap) ⊕ (Int32 × AHeap))) :=
  (if 4 ≤ s.1 then some (Sum.inr (Sum.inr (s.1, s.2))) else bnd2 (Mod_unitsOf v1 s.1 s.2) fun x4 h3 => (gfR h3 v0 11 5).bind fun a5 => (ald 0 h3 a5 0).bind fun x6 => (if x6 ≤ s.1 then Mod_isPlan_j48 v0 v1 s.1 x4 0 h3 else (gfR h3 v0 11 5).bind fun a7 => (ald 0 h3 a7 (19 + s.1)).bind fun x8 => Mod_isPlan_j48 v0 v1 s.1 x4 x8 h3))
theorem Mod_isPlan_b15_J {E : JE} {l : Launch} {G : GX} {r : Option Value} {h' : AHeap} (ok : JOK E l G kMod_isPlan 0 0 r h') (v0 : Nat) (v1 : Int32) {Y : (Int32 × AHeap) ⊕ ((Int32 × AHeap) ⊕ (Int32 × AHeap)) → Prop} (k1 : ∀ s' : Int32 × AHeap, Y (.inl s') → JW E kMod_isPlan 15 [some (.ref v0), some (.int v1), some (.int s'.1)] [] s'.2 0 0) (kx51 : ∀ q : Int32 × AHeap, Y (.inr (Sum.inl q)) → JW E kMod_isPlan 51 [some (.ref v0), some (.int v1), some (.int q.1)] [] q.2 0 0) (kx59 : ∀ q : Int32 × AHeap, Y (.inr (Sum.inr q)) → JW E kMod_isPlan 59 [some (.ref v0), some (.int v1), some (.int q.1)] [] q.2 0 0) (s : Int32 × AHeap) : J E kMod_isPlan (Mod_isPlan_b15 v0 v1 s) Y 15 [some (.ref v0), some (.int v1), some (.int s.1)] [] s.2 0 0 := by
  unfold Mod_isPlan_b15
  refine J_iload_n (pc' := 16) ok (dOf dX11_isPlan 9 rfl) rfl rfl rfl ?_
  refine J_iconst (v := 4) (pc' := 17) ok (dOf dX11_isPlan 10 rfl) rfl (by decide) ?_
  refine J_icmp_ge (tgt := 59) (pc' := 20) ok (dOf dX11_isPlan 11 rfl) rfl (by decide) ?_ ?_
  · exact J_fin (kx59 (s.1, s.2))
  · refine J_iload_n (pc' := 21) ok (dOf dX11_isPlan 12 rfl) rfl rfl rfl ?_
    refine J_iload_n (pc' := 22) ok (dOf dX11_isPlan 13 rfl) rfl rfl rfl ?_
    refine J_callSi (k2 := kMod_unitsOf) (as := [.int v1, .int s.1]) (pc' := 25) ok (dOf dX11_isPlan 14 rfl) rfl (cw_Mod_unitsOf (by decide) (by decide)) wml_X11_203 wstat_X11_unitsOf ⟨Nat.le_refl 0, Nat.le_refl 0⟩ (Nat.le_of_ble_eq_true rfl) rfl (fun _ _ hf => t_Mod_unitsOf hf) (fun x4 h3 => ?_)
    refine J_iload_n (pc' := 26) ok (dOf dX11_isPlan 15 rfl) rfl rfl rfl ?_
    refine J_aload_n (pc' := 27) ok (dOf dX11_isPlan 16 rfl) rfl rfl rfl ?_
    refine J_getR (ci := 11) (kf := 5) (C := RX11) (T := TX11) (N := 29) (pc' := 30) ok (dOf dX11_isPlan 17 rfl) rfl (by decide) rfl (by decide) win_11 wfl_X11_22 (fun a5 => ?_)
    refine J_iconst (v := 0) (pc' := 31) ok (dOf dX11_isPlan 18 rfl) rfl (by decide) ?_
    refine J_iald (pc' := 32) ok (dOf dX11_isPlan 19 rfl) rfl (fun x6 => ?_)
    refine J_icmp_ge (tgt := 47) (pc' := 35) ok (dOf dX11_isPlan 20 rfl) rfl (by decide) ?_ ?_
    · refine J_iconst (v := 0) (pc' := 48) ok (dOf dX11_isPlan 28 rfl) rfl (by decide) ?_
      exact Mod_isPlan_j48_J ok v0 v1 s.1 x4 0 h3 k1 kx51 kx59
    · refine J_aload_n (pc' := 36) ok (dOf dX11_isPlan 21 rfl) rfl rfl rfl ?_
      refine J_getR (ci := 11) (kf := 5) (C := RX11) (T := TX11) (N := 29) (pc' := 39) ok (dOf dX11_isPlan 22 rfl) rfl (by decide) rfl (by decide) win_11 wfl_X11_22 (fun a7 => ?_)
      refine J_bipush (v := 19) (pc' := 41) ok (dOf dX11_isPlan 23 rfl) rfl (by decide) ?_
      refine J_iload_n (pc' := 42) ok (dOf dX11_isPlan 24 rfl) rfl rfl rfl ?_
      refine J_iadd (pc' := 43) ok (dOf dX11_isPlan 25 rfl) rfl ?_
      refine J_iald (pc' := 44) ok (dOf dX11_isPlan 26 rfl) rfl (fun x8 => ?_)
      refine J_goto (tgt := 48) ok (dOf dX11_isPlan 27 rfl) (by decide) ?_
      exact Mod_isPlan_j48_J ok v0 v1 s.1 x4 x8 h3 k1 kx51 kx59
def Mod_isPlan_j51 (v0 : Nat) (v1 : Int32) (v2 : Int32) (h : AHeap) : Option (Int32 × AHeap) :=
  (bz 0).bind fun z => some (z, h)
theorem Mod_isPlan_j51_J {E : JE} {l : Launch} {G : GX} {v : Int32} {h' : AHeap} (ok : JOK E l G kMod_isPlan 0 0 (some (.int v)) h') (v0 : Nat) (v1 : Int32) (v2 : Int32) (h : AHeap) : J E kMod_isPlan (Mod_isPlan_j51 v0 v1 v2 h) (fun z => z = (v, h')) 51 [some (.ref v0), some (.int v1), some (.int v2)] [] h 0 0 := by
  unfold Mod_isPlan_j51
  refine J_iconst (v := 0) (pc' := 52) ok (dOf dX11_isPlan 30 rfl) rfl (by decide) ?_
  exact J_zreturn ok (dOf dX11_isPlan 31 rfl) rfl (Eq.refl 0) (Nat.le_refl 0)
def Mod_isPlan_j59 (v0 : Nat) (v1 : Int32) (v2 : Int32) (h : AHeap) : Option (Int32 × AHeap) :=
  (bz 1).bind fun z => some (z, h)
theorem Mod_isPlan_j59_J {E : JE} {l : Launch} {G : GX} {v : Int32} {h' : AHeap} (ok : JOK E l G kMod_isPlan 0 0 (some (.int v)) h') (v0 : Nat) (v1 : Int32) (v2 : Int32) (h : AHeap) : J E kMod_isPlan (Mod_isPlan_j59 v0 v1 v2 h) (fun z => z = (v, h')) 59 [some (.ref v0), some (.int v1), some (.int v2)] [] h 0 0 := by
  unfold Mod_isPlan_j59
  refine J_iconst (v := 1) (pc' := 60) ok (dOf dX11_isPlan 34 rfl) rfl (by decide) ?_
  exact J_zreturn ok (dOf dX11_isPlan 35 rfl) rfl (Eq.refl 0) (Nat.le_refl 0)
def Mod_isPlan (v0 : Nat) (v1 : Int32) (h : AHeap) : Option (Int32 × AHeap) :=
  bnd2 (Mod_isIn v1 0 255 h) fun x2 h1 => (if ¬ x2 = 0 then (iter (Mod_isPlan_b15 v0 v1) Lmax (0, h1)).bind (Sum.elim (fun (q15 : Int32 × AHeap) => Mod_isPlan_j51 v0 v1 q15.1 q15.2) (fun (q15 : Int32 × AHeap) => Mod_isPlan_j59 v0 v1 q15.1 q15.2)) else (bz 0).bind fun z => some (z, h1))
theorem t_Mod_isPlan {l : Launch} {G : GX} {v0 : Nat} {v1 : Int32} {h : AHeap} {v : Int32} {h1 : AHeap} (hf : Mod_isPlan v0 v1 h = some (v, h1)) : CT l G kMod_isPlan 0 0 [.ref v0, .int v1] h (some (.int v)) h1 := by
  refine CT_of (ls := [some (.ref v0), some (.int v1), none]) (Z := fun z => z = (v, h1)) (by decide +kernel) (Nat.le_of_ble_eq_true rfl) hf rfl ⟨rfl, rfl, trivial⟩ (fun E ok => ?_)
  unfold Mod_isPlan
  refine J_iload_n (pc' := 1) ok (dOf dX11_isPlan 0 rfl) rfl rfl rfl ?_
  refine J_iconst (v := 0) (pc' := 2) ok (dOf dX11_isPlan 1 rfl) rfl (by decide) ?_
  refine J_sipush (v := 255) (pc' := 5) ok (dOf dX11_isPlan 2 rfl) rfl (by decide) ?_
  refine J_callSi (k2 := kMod_isIn) (as := [.int v1, .int 0, .int 255]) (pc' := 8) ok (dOf dX11_isPlan 3 rfl) rfl (cw_Mod_isIn (by decide) (by decide)) wml_X11_75 wstat_X11_isIn ⟨Nat.le_refl 0, Nat.le_refl 0⟩ (Nat.le_of_ble_eq_true rfl) rfl (fun _ _ hf => t_Mod_isIn hf) (fun x2 h1 => ?_)
  refine J_if_ne (tgt := 13) (pc' := 11) ok (dOf dX11_isPlan 4 rfl) rfl (by decide) ?_ ?_
  · refine J_iconst (v := 0) (pc' := 14) ok (dOf dX11_isPlan 7 rfl) rfl (by decide) ?_
    refine J_istore_n (ls' := [some (.ref v0), some (.int v1), some (.int 0)]) (pc' := 15) ok (dOf dX11_isPlan 8 rfl) rfl rfl (Nat.le_of_ble_eq_true rfl) rfl rfl ?_
    refine J_iter (lf := fun z15 => [some (.ref v0), some (.int v1), some (.int z15.1)]) (sf := fun _ => []) (hf := fun z15 => z15.2) (px := (Sum.elim (fun (q15 : Int32 × AHeap) => 51) (fun (q15 : Int32 × AHeap) => 59))) (lx := (Sum.elim (fun (q15 : Int32 × AHeap) => [some (.ref v0), some (.int v1), some (.int q15.1)]) (fun (q15 : Int32 × AHeap) => [some (.ref v0), some (.int v1), some (.int q15.1)]))) (sx := (Sum.elim (fun (q15 : Int32 × AHeap) => []) (fun (q15 : Int32 × AHeap) => []))) (hx := (Sum.elim (fun (q15 : Int32 × AHeap) => q15.2) (fun (q15 : Int32 × AHeap) => q15.2))) (fun Y2 z15 m1 m2 => Mod_isPlan_b15_J ok v0 v1 m1 (fun q hq => m2 (Sum.inl q) hq) (fun q hq => m2 (Sum.inr q) hq) z15) (fun q15 => ?_) Lmax _
    rcases q15 with q15 | q15
    · show J E kMod_isPlan (Mod_isPlan_j51 v0 v1 q15.1 q15.2) _ 51 [some (.ref v0), some (.int v1), some (.int q15.1)] [] q15.2 0 0
      exact Mod_isPlan_j51_J ok v0 v1 q15.1 q15.2
    · show J E kMod_isPlan (Mod_isPlan_j59 v0 v1 q15.1 q15.2) _ 59 [some (.ref v0), some (.int v1), some (.int q15.1)] [] q15.2 0 0
      exact Mod_isPlan_j59_J ok v0 v1 q15.1 q15.2
  · refine J_iconst (v := 0) (pc' := 12) ok (dOf dX11_isPlan 5 rfl) rfl (by decide) ?_
    exact J_zreturn ok (dOf dX11_isPlan 6 rfl) rfl (Eq.refl 0) (Nat.le_refl 0)
-- X11_ofCut
abbrev kMod_ofCut : Cd := (yX11_ofCut, cX11_ofCut, 3, (some .int), 0, 0)
theorem dX11_ofCut : dcheck cX11_ofCut [(0, .aload_n 0, 1), (1, .getfield 22, 3), (4, .bipush 75, 2), (6, .bipush 13, 2), (8, .iload_n 1, 1), (9, .imul, 1), (10, .iadd, 1), (11, .iload_n 2, 1), (12, .iadd, 1), (13, .iaload, 1), (14, .ireturn, 1)] = true := by decide +kernel
theorem cw_Mod_ofCut {k : Cd} (h1 : kMod_ofCut.2.2.2.2.1 + 1 ≤ k.2.2.2.2.1) (h2 : 8 + (kMod_ofCut.2.2.1 + 11) + kMod_ofCut.2.2.2.2.2 ≤ k.2.2.2.2.2) : Cw k kMod_ofCut 2 := ⟨wcode_X11_ofCut, wini_SplitProgramModel, ⟨by decide, by decide, by decide +kernel⟩, h1, h2⟩
def Mod_ofCut (v0 : Nat) (v1 : Int32) (v2 : Int32) (h : AHeap) : Option (Int32 × AHeap) :=
  (gfR h v0 11 5).bind fun a1 => (ald 0 h a1 ((75 + (13 * v1)) + v2)).bind fun x2 => some (x2, h)
theorem t_Mod_ofCut {l : Launch} {G : GX} {v0 : Nat} {v1 : Int32} {v2 : Int32} {h : AHeap} {v : Int32} {h1 : AHeap} (hf : Mod_ofCut v0 v1 v2 h = some (v, h1)) : CT l G kMod_ofCut 0 0 [.ref v0, .int v1, .int v2] h (some (.int v)) h1 := by
  refine CT_of (ls := [some (.ref v0), some (.int v1), some (.int v2)]) (Z := fun z => z = (v, h1)) (by decide +kernel) (Nat.le_of_ble_eq_true rfl) hf rfl ⟨rfl, rfl, rfl, trivial⟩ (fun E ok => ?_)
  unfold Mod_ofCut
  refine J_aload_n (pc' := 1) ok (dOf dX11_ofCut 0 rfl) rfl rfl rfl ?_
  refine J_getR (ci := 11) (kf := 5) (C := RX11) (T := TX11) (N := 29) (pc' := 4) ok (dOf dX11_ofCut 1 rfl) rfl (by decide) rfl (by decide) win_11 wfl_X11_22 (fun a1 => ?_)
  refine J_bipush (v := 75) (pc' := 6) ok (dOf dX11_ofCut 2 rfl) rfl (by decide) ?_
  refine J_bipush (v := 13) (pc' := 8) ok (dOf dX11_ofCut 3 rfl) rfl (by decide) ?_
  refine J_iload_n (pc' := 9) ok (dOf dX11_ofCut 4 rfl) rfl rfl rfl ?_
  refine J_imul (pc' := 10) ok (dOf dX11_ofCut 5 rfl) rfl ?_
  refine J_iadd (pc' := 11) ok (dOf dX11_ofCut 6 rfl) rfl ?_
  refine J_iload_n (pc' := 12) ok (dOf dX11_ofCut 7 rfl) rfl rfl rfl ?_
  refine J_iadd (pc' := 13) ok (dOf dX11_ofCut 8 rfl) rfl ?_
  refine J_iald (pc' := 14) ok (dOf dX11_ofCut 9 rfl) rfl (fun x2 => ?_)
  exact J_ireturn ok (dOf dX11_ofCut 10 rfl) rfl (Eq.refl 0) (Nat.le_refl 0)
-- X11_needOf
abbrev kMod_needOf : Cd := (yX11_needOf, cX11_needOf, 3, (some .int), 0, 0)
theorem dX11_needOf : dcheck cX11_needOf [(0, .aload_n 0, 1), (1, .getfield 22, 3), (4, .bipush 51, 2), (6, .bipush 6, 2), (8, .iload_n 1, 1), (9, .imul, 1), (10, .iadd, 1), (11, .iload_n 2, 1), (12, .iadd, 1), (13, .iaload, 1), (14, .ireturn, 1)] = true := by decide +kernel
theorem cw_Mod_needOf {k : Cd} (h1 : kMod_needOf.2.2.2.2.1 + 1 ≤ k.2.2.2.2.1) (h2 : 8 + (kMod_needOf.2.2.1 + 11) + kMod_needOf.2.2.2.2.2 ≤ k.2.2.2.2.2) : Cw k kMod_needOf 2 := ⟨wcode_X11_needOf, wini_SplitProgramModel, ⟨by decide, by decide, by decide +kernel⟩, h1, h2⟩
def Mod_needOf (v0 : Nat) (v1 : Int32) (v2 : Int32) (h : AHeap) : Option (Int32 × AHeap) :=
  (gfR h v0 11 5).bind fun a1 => (ald 0 h a1 ((51 + (6 * v1)) + v2)).bind fun x2 => some (x2, h)
theorem t_Mod_needOf {l : Launch} {G : GX} {v0 : Nat} {v1 : Int32} {v2 : Int32} {h : AHeap} {v : Int32} {h1 : AHeap} (hf : Mod_needOf v0 v1 v2 h = some (v, h1)) : CT l G kMod_needOf 0 0 [.ref v0, .int v1, .int v2] h (some (.int v)) h1 := by
  refine CT_of (ls := [some (.ref v0), some (.int v1), some (.int v2)]) (Z := fun z => z = (v, h1)) (by decide +kernel) (Nat.le_of_ble_eq_true rfl) hf rfl ⟨rfl, rfl, rfl, trivial⟩ (fun E ok => ?_)
  unfold Mod_needOf
  refine J_aload_n (pc' := 1) ok (dOf dX11_needOf 0 rfl) rfl rfl rfl ?_
  refine J_getR (ci := 11) (kf := 5) (C := RX11) (T := TX11) (N := 29) (pc' := 4) ok (dOf dX11_needOf 1 rfl) rfl (by decide) rfl (by decide) win_11 wfl_X11_22 (fun a1 => ?_)
  refine J_bipush (v := 51) (pc' := 6) ok (dOf dX11_needOf 2 rfl) rfl (by decide) ?_
  refine J_bipush (v := 6) (pc' := 8) ok (dOf dX11_needOf 3 rfl) rfl (by decide) ?_
  refine J_iload_n (pc' := 9) ok (dOf dX11_needOf 4 rfl) rfl rfl rfl ?_
  refine J_imul (pc' := 10) ok (dOf dX11_needOf 5 rfl) rfl ?_
  refine J_iadd (pc' := 11) ok (dOf dX11_needOf 6 rfl) rfl ?_
  refine J_iload_n (pc' := 12) ok (dOf dX11_needOf 7 rfl) rfl rfl rfl ?_
  refine J_iadd (pc' := 13) ok (dOf dX11_needOf 8 rfl) rfl ?_
  refine J_iald (pc' := 14) ok (dOf dX11_needOf 9 rfl) rfl (fun x2 => ?_)
  exact J_ireturn ok (dOf dX11_needOf 10 rfl) rfl (Eq.refl 0) (Nat.le_refl 0)
-- X11_stockOf
abbrev kMod_stockOf : Cd := (yX11_stockOf, cX11_stockOf, 3, (some .int), 1, 21)
theorem dX11_stockOf : dcheck cX11_stockOf [(0, .iload_n 2, 1), (1, .aload_n 0, 1), (2, .getfield 22, 3), (5, .iconst 0, 1), (6, .iaload, 1), (7, .if_icmp .ge 21, 3), (10, .iload_n 1, 1), (11, .iload_n 2, 1), (12, .invokestatic 203, 3), (15, .aload_n 0, 1), (16, .getfield 22, 3), (19, .bipush 15, 2), (21, .iload_n 2, 1), (22, .iadd, 1), (23, .iaload, 1), (24, .imul, 1), (25, .goto 4, 3), (28, .iconst 0, 1), (29, .ireturn, 1)] = true := by decide +kernel
theorem cw_Mod_stockOf {k : Cd} (h1 : kMod_stockOf.2.2.2.2.1 + 1 ≤ k.2.2.2.2.1) (h2 : 8 + (kMod_stockOf.2.2.1 + 11) + kMod_stockOf.2.2.2.2.2 ≤ k.2.2.2.2.2) : Cw k kMod_stockOf 2 := ⟨wcode_X11_stockOf, wini_SplitProgramModel, ⟨by decide, by decide, by decide +kernel⟩, h1, h2⟩
def Mod_stockOf_j29 (v0 : Nat) (v1 : Int32) (v2 : Int32) (t0 : Int32) (h : AHeap) : Option (Int32 × AHeap) :=
  some (t0, h)
theorem Mod_stockOf_j29_J {E : JE} {l : Launch} {G : GX} {v : Int32} {h' : AHeap} (ok : JOK E l G kMod_stockOf 0 0 (some (.int v)) h') (v0 : Nat) (v1 : Int32) (v2 : Int32) (t0 : Int32) (h : AHeap) : J E kMod_stockOf (Mod_stockOf_j29 v0 v1 v2 t0 h) (fun z => z = (v, h')) 29 [some (.ref v0), some (.int v1), some (.int v2)] [.int t0] h 0 0 := by
  unfold Mod_stockOf_j29
  exact J_ireturn ok (dOf dX11_stockOf 18 rfl) rfl (Eq.refl 0) (Nat.le_refl 0)
def Mod_stockOf (v0 : Nat) (v1 : Int32) (v2 : Int32) (h : AHeap) : Option (Int32 × AHeap) :=
  (gfR h v0 11 5).bind fun a1 => (ald 0 h a1 0).bind fun x2 => (if x2 ≤ v2 then Mod_stockOf_j29 v0 v1 v2 0 h else bnd2 (Mod_unitsOf v1 v2 h) fun x4 h3 => (gfR h3 v0 11 5).bind fun a5 => (ald 0 h3 a5 (15 + v2)).bind fun x6 => Mod_stockOf_j29 v0 v1 v2 (x4 * x6) h3)
theorem t_Mod_stockOf {l : Launch} {G : GX} {v0 : Nat} {v1 : Int32} {v2 : Int32} {h : AHeap} {v : Int32} {h1 : AHeap} (hf : Mod_stockOf v0 v1 v2 h = some (v, h1)) : CT l G kMod_stockOf 0 0 [.ref v0, .int v1, .int v2] h (some (.int v)) h1 := by
  refine CT_of (ls := [some (.ref v0), some (.int v1), some (.int v2)]) (Z := fun z => z = (v, h1)) (by decide +kernel) (Nat.le_of_ble_eq_true rfl) hf rfl ⟨rfl, rfl, rfl, trivial⟩ (fun E ok => ?_)
  unfold Mod_stockOf
  refine J_iload_n (pc' := 1) ok (dOf dX11_stockOf 0 rfl) rfl rfl rfl ?_
  refine J_aload_n (pc' := 2) ok (dOf dX11_stockOf 1 rfl) rfl rfl rfl ?_
  refine J_getR (ci := 11) (kf := 5) (C := RX11) (T := TX11) (N := 29) (pc' := 5) ok (dOf dX11_stockOf 2 rfl) rfl (by decide) rfl (by decide) win_11 wfl_X11_22 (fun a1 => ?_)
  refine J_iconst (v := 0) (pc' := 6) ok (dOf dX11_stockOf 3 rfl) rfl (by decide) ?_
  refine J_iald (pc' := 7) ok (dOf dX11_stockOf 4 rfl) rfl (fun x2 => ?_)
  refine J_icmp_ge (tgt := 28) (pc' := 10) ok (dOf dX11_stockOf 5 rfl) rfl (by decide) ?_ ?_
  · refine J_iconst (v := 0) (pc' := 29) ok (dOf dX11_stockOf 17 rfl) rfl (by decide) ?_
    exact Mod_stockOf_j29_J ok v0 v1 v2 0 h
  · refine J_iload_n (pc' := 11) ok (dOf dX11_stockOf 6 rfl) rfl rfl rfl ?_
    refine J_iload_n (pc' := 12) ok (dOf dX11_stockOf 7 rfl) rfl rfl rfl ?_
    refine J_callSi (k2 := kMod_unitsOf) (as := [.int v1, .int v2]) (pc' := 15) ok (dOf dX11_stockOf 8 rfl) rfl (cw_Mod_unitsOf (by decide) (by decide)) wml_X11_203 wstat_X11_unitsOf ⟨Nat.le_refl 0, Nat.le_refl 0⟩ (Nat.le_of_ble_eq_true rfl) rfl (fun _ _ hf => t_Mod_unitsOf hf) (fun x4 h3 => ?_)
    refine J_aload_n (pc' := 16) ok (dOf dX11_stockOf 9 rfl) rfl rfl rfl ?_
    refine J_getR (ci := 11) (kf := 5) (C := RX11) (T := TX11) (N := 29) (pc' := 19) ok (dOf dX11_stockOf 10 rfl) rfl (by decide) rfl (by decide) win_11 wfl_X11_22 (fun a5 => ?_)
    refine J_bipush (v := 15) (pc' := 21) ok (dOf dX11_stockOf 11 rfl) rfl (by decide) ?_
    refine J_iload_n (pc' := 22) ok (dOf dX11_stockOf 12 rfl) rfl rfl rfl ?_
    refine J_iadd (pc' := 23) ok (dOf dX11_stockOf 13 rfl) rfl ?_
    refine J_iald (pc' := 24) ok (dOf dX11_stockOf 14 rfl) rfl (fun x6 => ?_)
    refine J_imul (pc' := 25) ok (dOf dX11_stockOf 15 rfl) rfl ?_
    refine J_goto (tgt := 29) ok (dOf dX11_stockOf 16 rfl) (by decide) ?_
    exact Mod_stockOf_j29_J ok v0 v1 v2 (x4 * x6) h3
-- X11_toldBy
abbrev kMod_toldBy : Cd := (yX11_toldBy, cX11_toldBy, 5, (some .int), 2, 43)
theorem dX11_toldBy : dcheck cX11_toldBy [(0, .iconst 0, 1), (1, .istore_n 3, 1), (2, .iconst 0, 1), (3, .istore 4, 2), (5, .iload 4, 2), (7, .bipush 6, 2), (9, .if_icmp .ge 35, 3), (12, .iload_n 3, 1), (13, .aload_n 0, 1), (14, .aload_n 0, 1), (15, .iload_n 1, 1), (16, .iconst 0, 1), (17, .invokevirtual 252, 3), (20, .iload 4, 2), (22, .invokevirtual 212, 3), (25, .aload_n 0, 1), (26, .iload_n 1, 1), (27, .bipush 7, 2), (29, .iload 4, 2), (31, .iadd, 1), (32, .invokevirtual 252, 3), (35, .imul, 1), (36, .iadd, 1), (37, .istore_n 3, 1), (38, .iinc 4 1, 3), (41, .goto (-36), 3), (44, .iconst 0, 1), (45, .istore 4, 2), (47, .iload 4, 2), (49, .iconst 4, 1), (50, .if_icmp .ge 29, 3), (53, .iload_n 3, 1), (54, .aload_n 0, 1), (55, .iload_n 2, 1), (56, .iload 4, 2), (58, .invokevirtual 209, 3), (61, .aload_n 0, 1), (62, .iload_n 1, 1), (63, .iconst 3, 1), (64, .iload 4, 2), (66, .iadd, 1), (67, .invokevirtual 252, 3), (70, .imul, 1), (71, .isub, 1), (72, .istore_n 3, 1), (73, .iinc 4 1, 3), (76, .goto (-29), 3), (79, .iload_n 3, 1), (80, .ireturn, 1)] = true := by decide +kernel
theorem cw_Mod_toldBy {k : Cd} (h1 : kMod_toldBy.2.2.2.2.1 + 1 ≤ k.2.2.2.2.1) (h2 : 8 + (kMod_toldBy.2.2.1 + 11) + kMod_toldBy.2.2.2.2.2 ≤ k.2.2.2.2.2) : Cw k kMod_toldBy 2 := ⟨wcode_X11_toldBy, wini_SplitProgramModel, ⟨by decide, by decide, by decide +kernel⟩, h1, h2⟩
def Mod_toldBy_b5 (v0 : Nat) (v1 : Int32) (v2 : Int32) (s : Int32 × Int32 × AHeap) : Option ((Int32 × Int32 × AHeap) ⊕ ((Int32 × Int32 × AHeap))) :=
  (if 6 ≤ s.2.1 then some (Sum.inr (s.1, s.2.1, s.2.2)) else (chk s.2.2 v0 11).bind fun _ => bnd2 (Mod_ofCut v0 v1 0 s.2.2) fun x2 h1 => (chk h1 v0 11).bind fun _ => bnd2 (Mod_needOf v0 x2 s.2.1 h1) fun x4 h3 => (chk h3 v0 11).bind fun _ => bnd2 (Mod_ofCut v0 v1 (7 + s.2.1) h3) fun x6 h5 => some (Sum.inl (s.1 + (x4 * x6), s.2.1 + 1, h5)))
theorem Mod_toldBy_b5_J {E : JE} {l : Launch} {G : GX} {r : Option Value} {h' : AHeap} (ok : JOK E l G kMod_toldBy 0 0 r h') (v0 : Nat) (v1 : Int32) (v2 : Int32) {Y : (Int32 × Int32 × AHeap) ⊕ ((Int32 × Int32 × AHeap)) → Prop} (k1 : ∀ s' : Int32 × Int32 × AHeap, Y (.inl s') → JW E kMod_toldBy 5 [some (.ref v0), some (.int v1), some (.int v2), some (.int s'.1), some (.int s'.2.1)] [] s'.2.2 0 0) (kx44 : ∀ q : Int32 × Int32 × AHeap, Y (.inr q) → JW E kMod_toldBy 44 [some (.ref v0), some (.int v1), some (.int v2), some (.int q.1), some (.int q.2.1)] [] q.2.2 0 0) (s : Int32 × Int32 × AHeap) : J E kMod_toldBy (Mod_toldBy_b5 v0 v1 v2 s) Y 5 [some (.ref v0), some (.int v1), some (.int v2), some (.int s.1), some (.int s.2.1)] [] s.2.2 0 0 := by
  unfold Mod_toldBy_b5
  refine J_iload (pc' := 7) ok (dOf dX11_toldBy 4 rfl) rfl rfl ?_
  refine J_bipush (v := 6) (pc' := 9) ok (dOf dX11_toldBy 5 rfl) rfl (by decide) ?_
  refine J_icmp_ge (tgt := 44) (pc' := 12) ok (dOf dX11_toldBy 6 rfl) rfl (by decide) ?_ ?_
  · exact J_fin (kx44 (s.1, s.2.1, s.2.2))
  · refine J_iload_n (pc' := 13) ok (dOf dX11_toldBy 7 rfl) rfl rfl rfl ?_
    refine J_aload_n (pc' := 14) ok (dOf dX11_toldBy 8 rfl) rfl rfl rfl ?_
    refine J_aload_n (pc' := 15) ok (dOf dX11_toldBy 9 rfl) rfl rfl rfl ?_
    refine J_iload_n (pc' := 16) ok (dOf dX11_toldBy 10 rfl) rfl rfl rfl ?_
    refine J_iconst (v := 0) (pc' := 17) ok (dOf dX11_toldBy 11 rfl) rfl (by decide) ?_
    refine J_callVi (k2 := kMod_ofCut) (ci := 11) (T := TX11) (N := 29) (as := [.int v1, .int 0]) (pc' := 20) ok (dOf dX11_toldBy 12 rfl) rfl (cw_Mod_ofCut (by decide) (by decide)) wml_X11_252 winst_X11_ofCut wsel_X11_ofCut rfl ⟨Nat.le_refl 0, Nat.le_refl 0⟩ (Nat.le_of_ble_eq_true rfl) rfl (fun _ _ hf => t_Mod_ofCut hf) (fun x2 h1 => ?_)
    refine J_iload (pc' := 22) ok (dOf dX11_toldBy 13 rfl) rfl rfl ?_
    refine J_callVi (k2 := kMod_needOf) (ci := 11) (T := TX11) (N := 29) (as := [.int x2, .int s.2.1]) (pc' := 25) ok (dOf dX11_toldBy 14 rfl) rfl (cw_Mod_needOf (by decide) (by decide)) wml_X11_212 winst_X11_needOf wsel_X11_needOf rfl ⟨Nat.le_refl 0, Nat.le_refl 0⟩ (Nat.le_of_ble_eq_true rfl) rfl (fun _ _ hf => t_Mod_needOf hf) (fun x4 h3 => ?_)
    refine J_aload_n (pc' := 26) ok (dOf dX11_toldBy 15 rfl) rfl rfl rfl ?_
    refine J_iload_n (pc' := 27) ok (dOf dX11_toldBy 16 rfl) rfl rfl rfl ?_
    refine J_bipush (v := 7) (pc' := 29) ok (dOf dX11_toldBy 17 rfl) rfl (by decide) ?_
    refine J_iload (pc' := 31) ok (dOf dX11_toldBy 18 rfl) rfl rfl ?_
    refine J_iadd (pc' := 32) ok (dOf dX11_toldBy 19 rfl) rfl ?_
    refine J_callVi (k2 := kMod_ofCut) (ci := 11) (T := TX11) (N := 29) (as := [.int v1, .int (7 + s.2.1)]) (pc' := 35) ok (dOf dX11_toldBy 20 rfl) rfl (cw_Mod_ofCut (by decide) (by decide)) wml_X11_252 winst_X11_ofCut wsel_X11_ofCut rfl ⟨Nat.le_refl 0, Nat.le_refl 0⟩ (Nat.le_of_ble_eq_true rfl) rfl (fun _ _ hf => t_Mod_ofCut hf) (fun x6 h5 => ?_)
    refine J_imul (pc' := 36) ok (dOf dX11_toldBy 21 rfl) rfl ?_
    refine J_iadd (pc' := 37) ok (dOf dX11_toldBy 22 rfl) rfl ?_
    refine J_istore_n (ls' := [some (.ref v0), some (.int v1), some (.int v2), some (.int (s.1 + (x4 * x6))), some (.int s.2.1)]) (pc' := 38) ok (dOf dX11_toldBy 23 rfl) rfl rfl (Nat.le_of_ble_eq_true rfl) rfl rfl ?_
    refine J_iinc (v := s.2.1 + 1) (ls' := [some (.ref v0), some (.int v1), some (.int v2), some (.int (s.1 + (x4 * x6))), some (.int (s.2.1 + 1))]) (pc' := 41) ok (dOf dX11_toldBy 24 rfl) rfl rfl (by rfl) (Nat.le_of_ble_eq_true rfl) rfl rfl ?_
    refine J_goto (tgt := 5) ok (dOf dX11_toldBy 25 rfl) (by decide) ?_
    exact J_fin (k1 (s.1 + (x4 * x6), s.2.1 + 1, h5))
def Mod_toldBy_b47 (v0 : Nat) (v1 : Int32) (v2 : Int32) (s : Int32 × Int32 × AHeap) : Option ((Int32 × Int32 × AHeap) ⊕ ((Int32 × Int32 × AHeap))) :=
  (if 4 ≤ s.2.1 then some (Sum.inr (s.1, s.2.1, s.2.2)) else (chk s.2.2 v0 11).bind fun _ => bnd2 (Mod_stockOf v0 v2 s.2.1 s.2.2) fun x8 h7 => (chk h7 v0 11).bind fun _ => bnd2 (Mod_ofCut v0 v1 (3 + s.2.1) h7) fun x10 h9 => some (Sum.inl (s.1 - (x8 * x10), s.2.1 + 1, h9)))
theorem Mod_toldBy_b47_J {E : JE} {l : Launch} {G : GX} {r : Option Value} {h' : AHeap} (ok : JOK E l G kMod_toldBy 0 0 r h') (v0 : Nat) (v1 : Int32) (v2 : Int32) {Y : (Int32 × Int32 × AHeap) ⊕ ((Int32 × Int32 × AHeap)) → Prop} (k1 : ∀ s' : Int32 × Int32 × AHeap, Y (.inl s') → JW E kMod_toldBy 47 [some (.ref v0), some (.int v1), some (.int v2), some (.int s'.1), some (.int s'.2.1)] [] s'.2.2 0 0) (kx79 : ∀ q : Int32 × Int32 × AHeap, Y (.inr q) → JW E kMod_toldBy 79 [some (.ref v0), some (.int v1), some (.int v2), some (.int q.1), some (.int q.2.1)] [] q.2.2 0 0) (s : Int32 × Int32 × AHeap) : J E kMod_toldBy (Mod_toldBy_b47 v0 v1 v2 s) Y 47 [some (.ref v0), some (.int v1), some (.int v2), some (.int s.1), some (.int s.2.1)] [] s.2.2 0 0 := by
  unfold Mod_toldBy_b47
  refine J_iload (pc' := 49) ok (dOf dX11_toldBy 28 rfl) rfl rfl ?_
  refine J_iconst (v := 4) (pc' := 50) ok (dOf dX11_toldBy 29 rfl) rfl (by decide) ?_
  refine J_icmp_ge (tgt := 79) (pc' := 53) ok (dOf dX11_toldBy 30 rfl) rfl (by decide) ?_ ?_
  · exact J_fin (kx79 (s.1, s.2.1, s.2.2))
  · refine J_iload_n (pc' := 54) ok (dOf dX11_toldBy 31 rfl) rfl rfl rfl ?_
    refine J_aload_n (pc' := 55) ok (dOf dX11_toldBy 32 rfl) rfl rfl rfl ?_
    refine J_iload_n (pc' := 56) ok (dOf dX11_toldBy 33 rfl) rfl rfl rfl ?_
    refine J_iload (pc' := 58) ok (dOf dX11_toldBy 34 rfl) rfl rfl ?_
    refine J_callVi (k2 := kMod_stockOf) (ci := 11) (T := TX11) (N := 29) (as := [.int v2, .int s.2.1]) (pc' := 61) ok (dOf dX11_toldBy 35 rfl) rfl (cw_Mod_stockOf (by decide) (by decide)) wml_X11_209 winst_X11_stockOf wsel_X11_stockOf rfl ⟨Nat.le_refl 0, Nat.le_refl 0⟩ (Nat.le_of_ble_eq_true rfl) rfl (fun _ _ hf => t_Mod_stockOf hf) (fun x8 h7 => ?_)
    refine J_aload_n (pc' := 62) ok (dOf dX11_toldBy 36 rfl) rfl rfl rfl ?_
    refine J_iload_n (pc' := 63) ok (dOf dX11_toldBy 37 rfl) rfl rfl rfl ?_
    refine J_iconst (v := 3) (pc' := 64) ok (dOf dX11_toldBy 38 rfl) rfl (by decide) ?_
    refine J_iload (pc' := 66) ok (dOf dX11_toldBy 39 rfl) rfl rfl ?_
    refine J_iadd (pc' := 67) ok (dOf dX11_toldBy 40 rfl) rfl ?_
    refine J_callVi (k2 := kMod_ofCut) (ci := 11) (T := TX11) (N := 29) (as := [.int v1, .int (3 + s.2.1)]) (pc' := 70) ok (dOf dX11_toldBy 41 rfl) rfl (cw_Mod_ofCut (by decide) (by decide)) wml_X11_252 winst_X11_ofCut wsel_X11_ofCut rfl ⟨Nat.le_refl 0, Nat.le_refl 0⟩ (Nat.le_of_ble_eq_true rfl) rfl (fun _ _ hf => t_Mod_ofCut hf) (fun x10 h9 => ?_)
    refine J_imul (pc' := 71) ok (dOf dX11_toldBy 42 rfl) rfl ?_
    refine J_isub (pc' := 72) ok (dOf dX11_toldBy 43 rfl) rfl ?_
    refine J_istore_n (ls' := [some (.ref v0), some (.int v1), some (.int v2), some (.int (s.1 - (x8 * x10))), some (.int s.2.1)]) (pc' := 73) ok (dOf dX11_toldBy 44 rfl) rfl rfl (Nat.le_of_ble_eq_true rfl) rfl rfl ?_
    refine J_iinc (v := s.2.1 + 1) (ls' := [some (.ref v0), some (.int v1), some (.int v2), some (.int (s.1 - (x8 * x10))), some (.int (s.2.1 + 1))]) (pc' := 76) ok (dOf dX11_toldBy 45 rfl) rfl rfl (by rfl) (Nat.le_of_ble_eq_true rfl) rfl rfl ?_
    refine J_goto (tgt := 47) ok (dOf dX11_toldBy 46 rfl) (by decide) ?_
    exact J_fin (k1 (s.1 - (x8 * x10), s.2.1 + 1, h9))
def Mod_toldBy_j79 (v0 : Nat) (v1 : Int32) (v2 : Int32) (v3 : Int32) (v4 : Int32) (h : AHeap) : Option (Int32 × AHeap) :=
  some (v3, h)
theorem Mod_toldBy_j79_J {E : JE} {l : Launch} {G : GX} {v : Int32} {h' : AHeap} (ok : JOK E l G kMod_toldBy 0 0 (some (.int v)) h') (v0 : Nat) (v1 : Int32) (v2 : Int32) (v3 : Int32) (v4 : Int32) (h : AHeap) : J E kMod_toldBy (Mod_toldBy_j79 v0 v1 v2 v3 v4 h) (fun z => z = (v, h')) 79 [some (.ref v0), some (.int v1), some (.int v2), some (.int v3), some (.int v4)] [] h 0 0 := by
  unfold Mod_toldBy_j79
  refine J_iload_n (pc' := 80) ok (dOf dX11_toldBy 47 rfl) rfl rfl rfl ?_
  exact J_ireturn ok (dOf dX11_toldBy 48 rfl) rfl (Eq.refl 0) (Nat.le_refl 0)
def Mod_toldBy_j44 (v0 : Nat) (v1 : Int32) (v2 : Int32) (v3 : Int32) (v4 : Int32) (h : AHeap) : Option (Int32 × AHeap) :=
  (iter (Mod_toldBy_b47 v0 v1 v2) Lmax (v3, 0, h)).bind (fun (q47 : Int32 × Int32 × AHeap) => Mod_toldBy_j79 v0 v1 v2 q47.1 q47.2.1 q47.2.2)
theorem Mod_toldBy_j44_J {E : JE} {l : Launch} {G : GX} {v : Int32} {h' : AHeap} (ok : JOK E l G kMod_toldBy 0 0 (some (.int v)) h') (v0 : Nat) (v1 : Int32) (v2 : Int32) (v3 : Int32) (v4 : Int32) (h : AHeap) : J E kMod_toldBy (Mod_toldBy_j44 v0 v1 v2 v3 v4 h) (fun z => z = (v, h')) 44 [some (.ref v0), some (.int v1), some (.int v2), some (.int v3), some (.int v4)] [] h 0 0 := by
  unfold Mod_toldBy_j44
  refine J_iconst (v := 0) (pc' := 45) ok (dOf dX11_toldBy 26 rfl) rfl (by decide) ?_
  refine J_istore (ls' := [some (.ref v0), some (.int v1), some (.int v2), some (.int v3), some (.int 0)]) (pc' := 47) ok (dOf dX11_toldBy 27 rfl) rfl (Nat.le_of_ble_eq_true rfl) rfl rfl ?_
  refine J_iter (lf := fun z47 => [some (.ref v0), some (.int v1), some (.int v2), some (.int z47.1), some (.int z47.2.1)]) (sf := fun _ => []) (hf := fun z47 => z47.2.2) (px := (fun (q47 : Int32 × Int32 × AHeap) => 79)) (lx := (fun (q47 : Int32 × Int32 × AHeap) => [some (.ref v0), some (.int v1), some (.int v2), some (.int q47.1), some (.int q47.2.1)])) (sx := (fun (q47 : Int32 × Int32 × AHeap) => [])) (hx := (fun (q47 : Int32 × Int32 × AHeap) => q47.2.2)) (fun Y2 z47 m1 m2 => Mod_toldBy_b47_J ok v0 v1 v2 m1 m2 z47) (fun q47 => ?_) Lmax _
  exact Mod_toldBy_j79_J ok v0 v1 v2 q47.1 q47.2.1 q47.2.2
def Mod_toldBy (v0 : Nat) (v1 : Int32) (v2 : Int32) (h : AHeap) : Option (Int32 × AHeap) :=
  (iter (Mod_toldBy_b5 v0 v1 v2) Lmax (0, 0, h)).bind (fun (q5 : Int32 × Int32 × AHeap) => Mod_toldBy_j44 v0 v1 v2 q5.1 q5.2.1 q5.2.2)
theorem t_Mod_toldBy {l : Launch} {G : GX} {v0 : Nat} {v1 : Int32} {v2 : Int32} {h : AHeap} {v : Int32} {h1 : AHeap} (hf : Mod_toldBy v0 v1 v2 h = some (v, h1)) : CT l G kMod_toldBy 0 0 [.ref v0, .int v1, .int v2] h (some (.int v)) h1 := by
  refine CT_of (ls := [some (.ref v0), some (.int v1), some (.int v2), none, none]) (Z := fun z => z = (v, h1)) (by decide +kernel) (Nat.le_of_ble_eq_true rfl) hf rfl ⟨rfl, rfl, rfl, trivial⟩ (fun E ok => ?_)
  unfold Mod_toldBy
  refine J_iconst (v := 0) (pc' := 1) ok (dOf dX11_toldBy 0 rfl) rfl (by decide) ?_
  refine J_istore_n (ls' := [some (.ref v0), some (.int v1), some (.int v2), some (.int 0), none]) (pc' := 2) ok (dOf dX11_toldBy 1 rfl) rfl rfl (Nat.le_of_ble_eq_true rfl) rfl rfl ?_
  refine J_iconst (v := 0) (pc' := 3) ok (dOf dX11_toldBy 2 rfl) rfl (by decide) ?_
  refine J_istore (ls' := [some (.ref v0), some (.int v1), some (.int v2), some (.int 0), some (.int 0)]) (pc' := 5) ok (dOf dX11_toldBy 3 rfl) rfl (Nat.le_of_ble_eq_true rfl) rfl rfl ?_
  refine J_iter (lf := fun z5 => [some (.ref v0), some (.int v1), some (.int v2), some (.int z5.1), some (.int z5.2.1)]) (sf := fun _ => []) (hf := fun z5 => z5.2.2) (px := (fun (q5 : Int32 × Int32 × AHeap) => 44)) (lx := (fun (q5 : Int32 × Int32 × AHeap) => [some (.ref v0), some (.int v1), some (.int v2), some (.int q5.1), some (.int q5.2.1)])) (sx := (fun (q5 : Int32 × Int32 × AHeap) => [])) (hx := (fun (q5 : Int32 × Int32 × AHeap) => q5.2.2)) (fun Y2 z5 m1 m2 => Mod_toldBy_b5_J ok v0 v1 v2 m1 m2 z5) (fun q5 => ?_) Lmax _
  exact Mod_toldBy_j44_J ok v0 v1 v2 q5.1 q5.2.1 q5.2.2
-- X11_feesOf
abbrev kMod_feesOf : Cd := (yX11_feesOf, cX11_feesOf, 4, (some .int), 1, 21)
theorem dX11_feesOf : dcheck cX11_feesOf [(0, .iconst 0, 1), (1, .istore_n 2, 1), (2, .iconst 0, 1), (3, .istore_n 3, 1), (4, .iload_n 3, 1), (5, .aload_n 0, 1), (6, .getfield 22, 3), (9, .iconst 0, 1), (10, .iaload, 1), (11, .if_icmp .ge 27, 3), (14, .iload_n 2, 1), (15, .iload_n 1, 1), (16, .iload_n 3, 1), (17, .invokestatic 203, 3), (20, .aload_n 0, 1), (21, .getfield 22, 3), (24, .bipush 11, 2), (26, .iload_n 3, 1), (27, .iadd, 1), (28, .iaload, 1), (29, .imul, 1), (30, .iadd, 1), (31, .istore_n 2, 1), (32, .iinc 3 1, 3), (35, .goto (-31), 3), (38, .iload_n 2, 1), (39, .ireturn, 1)] = true := by decide +kernel
theorem cw_Mod_feesOf {k : Cd} (h1 : kMod_feesOf.2.2.2.2.1 + 1 ≤ k.2.2.2.2.1) (h2 : 8 + (kMod_feesOf.2.2.1 + 11) + kMod_feesOf.2.2.2.2.2 ≤ k.2.2.2.2.2) : Cw k kMod_feesOf 1 := ⟨wcode_X11_feesOf, wini_SplitProgramModel, ⟨by decide, by decide, by decide +kernel⟩, h1, h2⟩
def Mod_feesOf_b4 (v0 : Nat) (v1 : Int32) (s : Int32 × Int32 × AHeap) : Option ((Int32 × Int32 × AHeap) ⊕ ((Int32 × Int32 × AHeap))) :=
  (gfR s.2.2 v0 11 5).bind fun a1 => (ald 0 s.2.2 a1 0).bind fun x2 => (if x2 ≤ s.2.1 then some (Sum.inr (s.1, s.2.1, s.2.2)) else bnd2 (Mod_unitsOf v1 s.2.1 s.2.2) fun x4 h3 => (gfR h3 v0 11 5).bind fun a5 => (ald 0 h3 a5 (11 + s.2.1)).bind fun x6 => some (Sum.inl (s.1 + (x4 * x6), s.2.1 + 1, h3)))
theorem Mod_feesOf_b4_J {E : JE} {l : Launch} {G : GX} {r : Option Value} {h' : AHeap} (ok : JOK E l G kMod_feesOf 0 0 r h') (v0 : Nat) (v1 : Int32) {Y : (Int32 × Int32 × AHeap) ⊕ ((Int32 × Int32 × AHeap)) → Prop} (k1 : ∀ s' : Int32 × Int32 × AHeap, Y (.inl s') → JW E kMod_feesOf 4 [some (.ref v0), some (.int v1), some (.int s'.1), some (.int s'.2.1)] [] s'.2.2 0 0) (kx38 : ∀ q : Int32 × Int32 × AHeap, Y (.inr q) → JW E kMod_feesOf 38 [some (.ref v0), some (.int v1), some (.int q.1), some (.int q.2.1)] [] q.2.2 0 0) (s : Int32 × Int32 × AHeap) : J E kMod_feesOf (Mod_feesOf_b4 v0 v1 s) Y 4 [some (.ref v0), some (.int v1), some (.int s.1), some (.int s.2.1)] [] s.2.2 0 0 := by
  unfold Mod_feesOf_b4
  refine J_iload_n (pc' := 5) ok (dOf dX11_feesOf 4 rfl) rfl rfl rfl ?_
  refine J_aload_n (pc' := 6) ok (dOf dX11_feesOf 5 rfl) rfl rfl rfl ?_
  refine J_getR (ci := 11) (kf := 5) (C := RX11) (T := TX11) (N := 29) (pc' := 9) ok (dOf dX11_feesOf 6 rfl) rfl (by decide) rfl (by decide) win_11 wfl_X11_22 (fun a1 => ?_)
  refine J_iconst (v := 0) (pc' := 10) ok (dOf dX11_feesOf 7 rfl) rfl (by decide) ?_
  refine J_iald (pc' := 11) ok (dOf dX11_feesOf 8 rfl) rfl (fun x2 => ?_)
  refine J_icmp_ge (tgt := 38) (pc' := 14) ok (dOf dX11_feesOf 9 rfl) rfl (by decide) ?_ ?_
  · exact J_fin (kx38 (s.1, s.2.1, s.2.2))
  · refine J_iload_n (pc' := 15) ok (dOf dX11_feesOf 10 rfl) rfl rfl rfl ?_
    refine J_iload_n (pc' := 16) ok (dOf dX11_feesOf 11 rfl) rfl rfl rfl ?_
    refine J_iload_n (pc' := 17) ok (dOf dX11_feesOf 12 rfl) rfl rfl rfl ?_
    refine J_callSi (k2 := kMod_unitsOf) (as := [.int v1, .int s.2.1]) (pc' := 20) ok (dOf dX11_feesOf 13 rfl) rfl (cw_Mod_unitsOf (by decide) (by decide)) wml_X11_203 wstat_X11_unitsOf ⟨Nat.le_refl 0, Nat.le_refl 0⟩ (Nat.le_of_ble_eq_true rfl) rfl (fun _ _ hf => t_Mod_unitsOf hf) (fun x4 h3 => ?_)
    refine J_aload_n (pc' := 21) ok (dOf dX11_feesOf 14 rfl) rfl rfl rfl ?_
    refine J_getR (ci := 11) (kf := 5) (C := RX11) (T := TX11) (N := 29) (pc' := 24) ok (dOf dX11_feesOf 15 rfl) rfl (by decide) rfl (by decide) win_11 wfl_X11_22 (fun a5 => ?_)
    refine J_bipush (v := 11) (pc' := 26) ok (dOf dX11_feesOf 16 rfl) rfl (by decide) ?_
    refine J_iload_n (pc' := 27) ok (dOf dX11_feesOf 17 rfl) rfl rfl rfl ?_
    refine J_iadd (pc' := 28) ok (dOf dX11_feesOf 18 rfl) rfl ?_
    refine J_iald (pc' := 29) ok (dOf dX11_feesOf 19 rfl) rfl (fun x6 => ?_)
    refine J_imul (pc' := 30) ok (dOf dX11_feesOf 20 rfl) rfl ?_
    refine J_iadd (pc' := 31) ok (dOf dX11_feesOf 21 rfl) rfl ?_
    refine J_istore_n (ls' := [some (.ref v0), some (.int v1), some (.int (s.1 + (x4 * x6))), some (.int s.2.1)]) (pc' := 32) ok (dOf dX11_feesOf 22 rfl) rfl rfl (Nat.le_of_ble_eq_true rfl) rfl rfl ?_
    refine J_iinc (v := s.2.1 + 1) (ls' := [some (.ref v0), some (.int v1), some (.int (s.1 + (x4 * x6))), some (.int (s.2.1 + 1))]) (pc' := 35) ok (dOf dX11_feesOf 23 rfl) rfl rfl (by rfl) (Nat.le_of_ble_eq_true rfl) rfl rfl ?_
    refine J_goto (tgt := 4) ok (dOf dX11_feesOf 24 rfl) (by decide) ?_
    exact J_fin (k1 (s.1 + (x4 * x6), s.2.1 + 1, h3))
def Mod_feesOf_j38 (v0 : Nat) (v1 : Int32) (v2 : Int32) (v3 : Int32) (h : AHeap) : Option (Int32 × AHeap) :=
  some (v2, h)
theorem Mod_feesOf_j38_J {E : JE} {l : Launch} {G : GX} {v : Int32} {h' : AHeap} (ok : JOK E l G kMod_feesOf 0 0 (some (.int v)) h') (v0 : Nat) (v1 : Int32) (v2 : Int32) (v3 : Int32) (h : AHeap) : J E kMod_feesOf (Mod_feesOf_j38 v0 v1 v2 v3 h) (fun z => z = (v, h')) 38 [some (.ref v0), some (.int v1), some (.int v2), some (.int v3)] [] h 0 0 := by
  unfold Mod_feesOf_j38
  refine J_iload_n (pc' := 39) ok (dOf dX11_feesOf 25 rfl) rfl rfl rfl ?_
  exact J_ireturn ok (dOf dX11_feesOf 26 rfl) rfl (Eq.refl 0) (Nat.le_refl 0)
def Mod_feesOf (v0 : Nat) (v1 : Int32) (h : AHeap) : Option (Int32 × AHeap) :=
  (iter (Mod_feesOf_b4 v0 v1) Lmax (0, 0, h)).bind (fun (q4 : Int32 × Int32 × AHeap) => Mod_feesOf_j38 v0 v1 q4.1 q4.2.1 q4.2.2)
theorem t_Mod_feesOf {l : Launch} {G : GX} {v0 : Nat} {v1 : Int32} {h : AHeap} {v : Int32} {h1 : AHeap} (hf : Mod_feesOf v0 v1 h = some (v, h1)) : CT l G kMod_feesOf 0 0 [.ref v0, .int v1] h (some (.int v)) h1 := by
  refine CT_of (ls := [some (.ref v0), some (.int v1), none, none]) (Z := fun z => z = (v, h1)) (by decide +kernel) (Nat.le_of_ble_eq_true rfl) hf rfl ⟨rfl, rfl, trivial⟩ (fun E ok => ?_)
  unfold Mod_feesOf
  refine J_iconst (v := 0) (pc' := 1) ok (dOf dX11_feesOf 0 rfl) rfl (by decide) ?_
  refine J_istore_n (ls' := [some (.ref v0), some (.int v1), some (.int 0), none]) (pc' := 2) ok (dOf dX11_feesOf 1 rfl) rfl rfl (Nat.le_of_ble_eq_true rfl) rfl rfl ?_
  refine J_iconst (v := 0) (pc' := 3) ok (dOf dX11_feesOf 2 rfl) rfl (by decide) ?_
  refine J_istore_n (ls' := [some (.ref v0), some (.int v1), some (.int 0), some (.int 0)]) (pc' := 4) ok (dOf dX11_feesOf 3 rfl) rfl rfl (Nat.le_of_ble_eq_true rfl) rfl rfl ?_
  refine J_iter (lf := fun z4 => [some (.ref v0), some (.int v1), some (.int z4.1), some (.int z4.2.1)]) (sf := fun _ => []) (hf := fun z4 => z4.2.2) (px := (fun (q4 : Int32 × Int32 × AHeap) => 38)) (lx := (fun (q4 : Int32 × Int32 × AHeap) => [some (.ref v0), some (.int v1), some (.int q4.1), some (.int q4.2.1)])) (sx := (fun (q4 : Int32 × Int32 × AHeap) => [])) (hx := (fun (q4 : Int32 × Int32 × AHeap) => q4.2.2)) (fun Y2 z4 m1 m2 => Mod_feesOf_b4_J ok v0 v1 m1 m2 z4) (fun q4 => ?_) Lmax _
  exact Mod_feesOf_j38_J ok v0 v1 q4.1 q4.2.1 q4.2.2
-- X11_reachBy
abbrev kMod_reachBy : Cd := (yX11_reachBy, cX11_reachBy, 5, (some .int), 3, 67)
theorem dX11_reachBy : dcheck cX11_reachBy [(0, .iconst 0, 1), (1, .istore_n 3, 1), (2, .iconst 0, 1), (3, .istore 4, 2), (5, .iload 4, 2), (7, .aload_n 0, 1), (8, .getfield 22, 3), (11, .bipush 9, 2), (13, .iaload, 1), (14, .if_icmp .ge 49, 3), (17, .aload_n 0, 1), (18, .iload 4, 2), (20, .iconst 0, 1), (21, .invokevirtual 252, 3), (24, .iload_n 1, 1), (25, .if_icmp .ne 32, 3), (28, .aload_n 0, 1), (29, .iload 4, 2), (31, .iconst 1, 1), (32, .invokevirtual 252, 3), (35, .ifCond .ne 22, 3), (38, .aload_n 0, 1), (39, .iload 4, 2), (41, .iload_n 2, 1), (42, .invokevirtual 255, 3), (45, .iload_n 3, 1), (46, .if_icmp .le 11, 3), (49, .aload_n 0, 1), (50, .iload 4, 2), (52, .iload_n 2, 1), (53, .invokevirtual 255, 3), (56, .istore_n 3, 1), (57, .iinc 4 1, 3), (60, .goto (-55), 3), (63, .iload_n 3, 1), (64, .ireturn, 1)] = true := by decide +kernel
theorem cw_Mod_reachBy {k : Cd} (h1 : kMod_reachBy.2.2.2.2.1 + 1 ≤ k.2.2.2.2.1) (h2 : 8 + (kMod_reachBy.2.2.1 + 11) + kMod_reachBy.2.2.2.2.2 ≤ k.2.2.2.2.2) : Cw k kMod_reachBy 2 := ⟨wcode_X11_reachBy, wini_SplitProgramModel, ⟨by decide, by decide, by decide +kernel⟩, h1, h2⟩
def Mod_reachBy_j57 (v0 : Nat) (v1 : Int32) (v2 : Int32) (v3 : Int32) (v4 : Int32) (h : AHeap) : Option ((Int32 × Int32 × AHeap) ⊕ ((Int32 × Int32 × AHeap))) :=
  some (Sum.inl (v3, v4 + 1, h))
theorem Mod_reachBy_j57_J {E : JE} {l : Launch} {G : GX} {r : Option Value} {h' : AHeap} (ok : JOK E l G kMod_reachBy 0 0 r h') (v0 : Nat) (v1 : Int32) (v2 : Int32) (v3 : Int32) (v4 : Int32) (h : AHeap) {Y : (Int32 × Int32 × AHeap) ⊕ ((Int32 × Int32 × AHeap)) → Prop} (k1 : ∀ s' : Int32 × Int32 × AHeap, Y (.inl s') → JW E kMod_reachBy 5 [some (.ref v0), some (.int v1), some (.int v2), some (.int s'.1), some (.int s'.2.1)] [] s'.2.2 0 0) (kx63 : ∀ q : Int32 × Int32 × AHeap, Y (.inr q) → JW E kMod_reachBy 63 [some (.ref v0), some (.int v1), some (.int v2), some (.int q.1), some (.int q.2.1)] [] q.2.2 0 0) : J E kMod_reachBy (Mod_reachBy_j57 v0 v1 v2 v3 v4 h) Y 57 [some (.ref v0), some (.int v1), some (.int v2), some (.int v3), some (.int v4)] [] h 0 0 := by
  unfold Mod_reachBy_j57
  refine J_iinc (v := v4 + 1) (ls' := [some (.ref v0), some (.int v1), some (.int v2), some (.int v3), some (.int (v4 + 1))]) (pc' := 60) ok (dOf dX11_reachBy 32 rfl) rfl rfl (by rfl) (Nat.le_of_ble_eq_true rfl) rfl rfl ?_
  refine J_goto (tgt := 5) ok (dOf dX11_reachBy 33 rfl) (by decide) ?_
  exact J_fin (k1 (v3, v4 + 1, h))
def Mod_reachBy_b5 (v0 : Nat) (v1 : Int32) (v2 : Int32) (s : Int32 × Int32 × AHeap) : Option ((Int32 × Int32 × AHeap) ⊕ ((Int32 × Int32 × AHeap))) :=
  (gfR s.2.2 v0 11 5).bind fun a1 => (ald 0 s.2.2 a1 9).bind fun x2 => (if x2 ≤ s.2.1 then some (Sum.inr (s.1, s.2.1, s.2.2)) else (chk s.2.2 v0 11).bind fun _ => bnd2 (Mod_ofCut v0 s.2.1 0 s.2.2) fun x4 h3 => (if ¬ x4 = v1 then Mod_reachBy_j57 v0 v1 v2 s.1 s.2.1 h3 else (chk h3 v0 11).bind fun _ => bnd2 (Mod_ofCut v0 s.2.1 1 h3) fun x6 h5 => (if ¬ x6 = 0 then Mod_reachBy_j57 v0 v1 v2 s.1 s.2.1 h5 else (chk h5 v0 11).bind fun _ => bnd2 (Mod_toldBy v0 s.2.1 v2 h5) fun x8 h7 => (if x8 ≤ s.1 then Mod_reachBy_j57 v0 v1 v2 s.1 s.2.1 h7 else (chk h7 v0 11).bind fun _ => bnd2 (Mod_toldBy v0 s.2.1 v2 h7) fun x10 h9 => Mod_reachBy_j57 v0 v1 v2 x10 s.2.1 h9))))
theorem Mod_reachBy_b5_J {E : JE} {l : Launch} {G : GX} {r : Option Value} {h' : AHeap} (ok : JOK E l G kMod_reachBy 0 0 r h') (v0 : Nat) (v1 : Int32) (v2 : Int32) {Y : (Int32 × Int32 × AHeap) ⊕ ((Int32 × Int32 × AHeap)) → Prop} (k1 : ∀ s' : Int32 × Int32 × AHeap, Y (.inl s') → JW E kMod_reachBy 5 [some (.ref v0), some (.int v1), some (.int v2), some (.int s'.1), some (.int s'.2.1)] [] s'.2.2 0 0) (kx63 : ∀ q : Int32 × Int32 × AHeap, Y (.inr q) → JW E kMod_reachBy 63 [some (.ref v0), some (.int v1), some (.int v2), some (.int q.1), some (.int q.2.1)] [] q.2.2 0 0) (s : Int32 × Int32 × AHeap) : J E kMod_reachBy (Mod_reachBy_b5 v0 v1 v2 s) Y 5 [some (.ref v0), some (.int v1), some (.int v2), some (.int s.1), some (.int s.2.1)] [] s.2.2 0 0 := by
  unfold Mod_reachBy_b5
  refine J_iload (pc' := 7) ok (dOf dX11_reachBy 4 rfl) rfl rfl ?_
  refine J_aload_n (pc' := 8) ok (dOf dX11_reachBy 5 rfl) rfl rfl rfl ?_
  refine J_getR (ci := 11) (kf := 5) (C := RX11) (T := TX11) (N := 29) (pc' := 11) ok (dOf dX11_reachBy 6 rfl) rfl (by decide) rfl (by decide) win_11 wfl_X11_22 (fun a1 => ?_)
  refine J_bipush (v := 9) (pc' := 13) ok (dOf dX11_reachBy 7 rfl) rfl (by decide) ?_
  refine J_iald (pc' := 14) ok (dOf dX11_reachBy 8 rfl) rfl (fun x2 => ?_)
  refine J_icmp_ge (tgt := 63) (pc' := 17) ok (dOf dX11_reachBy 9 rfl) rfl (by decide) ?_ ?_
  · exact J_fin (kx63 (s.1, s.2.1, s.2.2))
  · refine J_aload_n (pc' := 18) ok (dOf dX11_reachBy 10 rfl) rfl rfl rfl ?_
    refine J_iload (pc' := 20) ok (dOf dX11_reachBy 11 rfl) rfl rfl ?_
    refine J_iconst (v := 0) (pc' := 21) ok (dOf dX11_reachBy 12 rfl) rfl (by decide) ?_
    refine J_callVi (k2 := kMod_ofCut) (ci := 11) (T := TX11) (N := 29) (as := [.int s.2.1, .int 0]) (pc' := 24) ok (dOf dX11_reachBy 13 rfl) rfl (cw_Mod_ofCut (by decide) (by decide)) wml_X11_252 winst_X11_ofCut wsel_X11_ofCut rfl ⟨Nat.le_refl 0, Nat.le_refl 0⟩ (Nat.le_of_ble_eq_true rfl) rfl (fun _ _ hf => t_Mod_ofCut hf) (fun x4 h3 => ?_)
    refine J_iload_n (pc' := 25) ok (dOf dX11_reachBy 14 rfl) rfl rfl rfl ?_
    refine J_icmp_ne (tgt := 57) (pc' := 28) ok (dOf dX11_reachBy 15 rfl) rfl (by decide) ?_ ?_
    · exact Mod_reachBy_j57_J ok v0 v1 v2 s.1 s.2.1 h3 k1 kx63
    · refine J_aload_n (pc' := 29) ok (dOf dX11_reachBy 16 rfl) rfl rfl rfl ?_
      refine J_iload (pc' := 31) ok (dOf dX11_reachBy 17 rfl) rfl rfl ?_
      refine J_iconst (v := 1) (pc' := 32) ok (dOf dX11_reachBy 18 rfl) rfl (by decide) ?_
      refine J_callVi (k2 := kMod_ofCut) (ci := 11) (T := TX11) (N := 29) (as := [.int s.2.1, .int 1]) (pc' := 35) ok (dOf dX11_reachBy 19 rfl) rfl (cw_Mod_ofCut (by decide) (by decide)) wml_X11_252 winst_X11_ofCut wsel_X11_ofCut rfl ⟨Nat.le_refl 0, Nat.le_refl 0⟩ (Nat.le_of_ble_eq_true rfl) rfl (fun _ _ hf => t_Mod_ofCut hf) (fun x6 h5 => ?_)
      refine J_if_ne (tgt := 57) (pc' := 38) ok (dOf dX11_reachBy 20 rfl) rfl (by decide) ?_ ?_
      · exact Mod_reachBy_j57_J ok v0 v1 v2 s.1 s.2.1 h5 k1 kx63
      · refine J_aload_n (pc' := 39) ok (dOf dX11_reachBy 21 rfl) rfl rfl rfl ?_
        refine J_iload (pc' := 41) ok (dOf dX11_reachBy 22 rfl) rfl rfl ?_
        refine J_iload_n (pc' := 42) ok (dOf dX11_reachBy 23 rfl) rfl rfl rfl ?_
        refine J_callVi (k2 := kMod_toldBy) (ci := 11) (T := TX11) (N := 29) (as := [.int s.2.1, .int v2]) (pc' := 45) ok (dOf dX11_reachBy 24 rfl) rfl (cw_Mod_toldBy (by decide) (by decide)) wml_X11_255 winst_X11_toldBy wsel_X11_toldBy rfl ⟨Nat.le_refl 0, Nat.le_refl 0⟩ (Nat.le_of_ble_eq_true rfl) rfl (fun _ _ hf => t_Mod_toldBy hf) (fun x8 h7 => ?_)
        refine J_iload_n (pc' := 46) ok (dOf dX11_reachBy 25 rfl) rfl rfl rfl ?_
        refine J_icmp_le (tgt := 57) (pc' := 49) ok (dOf dX11_reachBy 26 rfl) rfl (by decide) ?_ ?_
        · exact Mod_reachBy_j57_J ok v0 v1 v2 s.1 s.2.1 h7 k1 kx63
        · refine J_aload_n (pc' := 50) ok (dOf dX11_reachBy 27 rfl) rfl rfl rfl ?_
          refine J_iload (pc' := 52) ok (dOf dX11_reachBy 28 rfl) rfl rfl ?_
          refine J_iload_n (pc' := 53) ok (dOf dX11_reachBy 29 rfl) rfl rfl rfl ?_
          refine J_callVi (k2 := kMod_toldBy) (ci := 11) (T := TX11) (N := 29) (as := [.int s.2.1, .int v2]) (pc' := 56) ok (dOf dX11_reachBy 30 rfl) rfl (cw_Mod_toldBy (by decide) (by decide)) wml_X11_255 winst_X11_toldBy wsel_X11_toldBy rfl ⟨Nat.le_refl 0, Nat.le_refl 0⟩ (Nat.le_of_ble_eq_true rfl) rfl (fun _ _ hf => t_Mod_toldBy hf) (fun x10 h9 => ?_)
          refine J_istore_n (ls' := [some (.ref v0), some (.int v1), some (.int v2), some (.int x10), some (.int s.2.1)]) (pc' := 57) ok (dOf dX11_reachBy 31 rfl) rfl rfl (Nat.le_of_ble_eq_true rfl) rfl rfl ?_
          exact Mod_reachBy_j57_J ok v0 v1 v2 x10 s.2.1 h9 k1 kx63
def Mod_reachBy_j63 (v0 : Nat) (v1 : Int32) (v2 : Int32) (v3 : Int32) (v4 : Int32) (h : AHeap) : Option (Int32 × AHeap) :=
  some (v3, h)
theorem Mod_reachBy_j63_J {E : JE} {l : Launch} {G : GX} {v : Int32} {h' : AHeap} (ok : JOK E l G kMod_reachBy 0 0 (some (.int v)) h') (v0 : Nat) (v1 : Int32) (v2 : Int32) (v3 : Int32) (v4 : Int32) (h : AHeap) : J E kMod_reachBy (Mod_reachBy_j63 v0 v1 v2 v3 v4 h) (fun z => z = (v, h')) 63 [some (.ref v0), some (.int v1), some (.int v2), some (.int v3), some (.int v4)] [] h 0 0 := by
  unfold Mod_reachBy_j63
  refine J_iload_n (pc' := 64) ok (dOf dX11_reachBy 34 rfl) rfl rfl rfl ?_
  exact J_ireturn ok (dOf dX11_reachBy 35 rfl) rfl (Eq.refl 0) (Nat.le_refl 0)
def Mod_reachBy (v0 : Nat) (v1 : Int32) (v2 : Int32) (h : AHeap) : Option (Int32 × AHeap) :=
  (iter (Mod_reachBy_b5 v0 v1 v2) Lmax (0, 0, h)).bind (fun (q5 : Int32 × Int32 × AHeap) => Mod_reachBy_j63 v0 v1 v2 q5.1 q5.2.1 q5.2.2)
theorem t_Mod_reachBy {l : Launch} {G : GX} {v0 : Nat} {v1 : Int32} {v2 : Int32} {h : AHeap} {v : Int32} {h1 : AHeap} (hf : Mod_reachBy v0 v1 v2 h = some (v, h1)) : CT l G kMod_reachBy 0 0 [.ref v0, .int v1, .int v2] h (some (.int v)) h1 := by
  refine CT_of (ls := [some (.ref v0), some (.int v1), some (.int v2), none, none]) (Z := fun z => z = (v, h1)) (by decide +kernel) (Nat.le_of_ble_eq_true rfl) hf rfl ⟨rfl, rfl, rfl, trivial⟩ (fun E ok => ?_)
  unfold Mod_reachBy
  refine J_iconst (v := 0) (pc' := 1) ok (dOf dX11_reachBy 0 rfl) rfl (by decide) ?_
  refine J_istore_n (ls' := [some (.ref v0), some (.int v1), some (.int v2), some (.int 0), none]) (pc' := 2) ok (dOf dX11_reachBy 1 rfl) rfl rfl (Nat.le_of_ble_eq_true rfl) rfl rfl ?_
  refine J_iconst (v := 0) (pc' := 3) ok (dOf dX11_reachBy 2 rfl) rfl (by decide) ?_
  refine J_istore (ls' := [some (.ref v0), some (.int v1), some (.int v2), some (.int 0), some (.int 0)]) (pc' := 5) ok (dOf dX11_reachBy 3 rfl) rfl (Nat.le_of_ble_eq_true rfl) rfl rfl ?_
  refine J_iter (lf := fun z5 => [some (.ref v0), some (.int v1), some (.int v2), some (.int z5.1), some (.int z5.2.1)]) (sf := fun _ => []) (hf := fun z5 => z5.2.2) (px := (fun (q5 : Int32 × Int32 × AHeap) => 63)) (lx := (fun (q5 : Int32 × Int32 × AHeap) => [some (.ref v0), some (.int v1), some (.int v2), some (.int q5.1), some (.int q5.2.1)])) (sx := (fun (q5 : Int32 × Int32 × AHeap) => [])) (hx := (fun (q5 : Int32 × Int32 × AHeap) => q5.2.2)) (fun Y2 z5 m1 m2 => Mod_reachBy_b5_J ok v0 v1 v2 m1 m2 z5) (fun q5 => ?_) Lmax _
  exact Mod_reachBy_j63_J ok v0 v1 v2 q5.1 q5.2.1 q5.2.2
