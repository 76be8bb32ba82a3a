-- X11_image
abbrev kMod_image : Cd := (yX11_image, cX11_image, 4, (some .int), 1, 22)
theorem dX11_image : dcheck cX11_image [(0, .iload_n 1, 1), (1, .iconst 0, 1), (2, .iconst 1, 1), (3, .invokestatic 75, 3), (6, .ifCond .ne 9, 3), (9, .aload_n 0, 1), (10, .iconst (-1), 1), (11, .invokevirtual 85, 3), (14, .ireturn, 1), (15, .sipush 1431, 3), (18, .iload_n 1, 1), (19, .imul, 1), (20, .istore_n 2, 1), (21, .iconst 0, 1), (22, .istore_n 3, 1), (23, .iload_n 3, 1), (24, .sipush 1427, 3), (27, .if_icmp .ge 23, 3), (30, .aload_n 0, 1), (31, .getfield 44, 3), (34, .iload_n 2, 1), (35, .iload_n 3, 1), (36, .iadd, 1), (37, .aload_n 0, 1), (38, .getfield 22, 3), (41, .iload_n 3, 1), (42, .iaload, 1), (43, .iastore, 1), (44, .iinc 3 1, 3), (47, .goto (-24), 3), (50, .iconst 0, 1), (51, .istore_n 3, 1), (52, .iload_n 3, 1), (53, .iconst 4, 1), (54, .if_icmp .ge 27, 3), (57, .aload_n 0, 1), (58, .getfield 44, 3), (61, .iload_n 2, 1), (62, .sipush 1427, 3), (65, .iadd, 1), (66, .iload_n 3, 1), (67, .iadd, 1), (68, .aload_n 0, 1), (69, .getfield 13, 3), (72, .iload_n 3, 1), (73, .iaload, 1), (74, .iastore, 1), (75, .iinc 3 1, 3), (78, .goto (-26), 3), (81, .aload_n 0, 1), (82, .getfield 47, 3), (85, .iload_n 1, 1), (86, .iconst 1, 1), (87, .bastore, 1), (88, .aload_n 0, 1), (89, .iconst 0, 1), (90, .invokevirtual 89, 3), (93, .ireturn, 1)] = true := by decide +kernel
theorem cw_Mod_image {k : Cd} (h1 : kMod_image.2.2.2.2.1 + 1 ≤ k.2.2.2.2.1) (h2 : 8 + (kMod_image.2.2.1 + 11) + kMod_image.2.2.2.2.2 ≤ k.2.2.2.2.2) : Cw k kMod_image 1 := ⟨wcode_X11_image, wini_SplitProgramModel, ⟨by decide, by decide, by decide +kernel⟩, h1, h2⟩
def Mod_image_b23 (v0 : Nat) (v1 : Int32) (v2 : Int32) (s : Int32 × AHeap) : Option ((Int32 × AHeap) ⊕ ((Int32 × AHeap))) :=
  (if 1427 ≤ s.1 then some (Sum.inr (s.1, s.2)) else (gfR s.2 v0 11 15).bind fun a3 => (gfR s.2 v0 11 5).bind fun a4 => (ald 0 s.2 a4 s.1).bind fun x5 => (ast 0 s.2 a3 (v2 + s.1) x5).bind fun h6 => some (Sum.inl (s.1 + 1, h6)))
theorem Mod_image_b23_J {E : JE} {l : Launch} {G : GX} {r : Option Value} {h' : AHeap} (ok : JOK E l G kMod_image 0 0 r h') (v0 : Nat) (v1 : Int32) (v2 : Int32) {Y : (Int32 × AHeap) ⊕ ((Int32 × AHeap)) → Prop} (k1 : ∀ s' : Int32 × AHeap, Y (.inl s') → JW E kMod_image 23 [some (.ref v0), some (.int v1), some (.int v2), some (.int s'.1)] [] s'.2 0 0) (kx50 : ∀ q : Int32 × AHeap, Y (.inr q) → JW E kMod_image 50 [some (.ref v0), some (.int v1), some (.int v2), some (.int q.1)] [] q.2 0 0) (s : Int32 × AHeap) : J E kMod_image (Mod_image_b23 v0 v1 v2 s) Y 23 [some (.ref v0), some (.int v1), some (.int v2), some (.int s.1)] [] s.2 0 0 := by
  unfold Mod_image_b23
  refine J_iload_n (pc' := 24) ok (dOf dX11_image 15 rfl) rfl rfl rfl ?_
  refine J_sipush (v := 1427) (pc' := 27) ok (dOf dX11_image 16 rfl) rfl (by decide) ?_
  refine J_icmp_ge (tgt := 50) (pc' := 30) ok (dOf dX11_image 17 rfl) rfl (by decide) ?_ ?_
  · exact J_fin (kx50 (s.1, s.2))
  · refine J_aload_n (pc' := 31) ok (dOf dX11_image 18 rfl) rfl rfl rfl ?_
    refine J_getR (ci := 11) (kf := 15) (C := RX11) (T := TX11) (N := 29) (pc' := 34) ok (dOf dX11_image 19 rfl) rfl (by decide) rfl (by decide) win_11 wfl_X11_44 (fun a3 => ?_)
    refine J_iload_n (pc' := 35) ok (dOf dX11_image 20 rfl) rfl rfl rfl ?_
    refine J_iload_n (pc' := 36) ok (dOf dX11_image 21 rfl) rfl rfl rfl ?_
    refine J_iadd (pc' := 37) ok (dOf dX11_image 22 rfl) rfl ?_
    refine J_aload_n (pc' := 38) ok (dOf dX11_image 23 rfl) rfl rfl rfl ?_
    refine J_getR (ci := 11) (kf := 5) (C := RX11) (T := TX11) (N := 29) (pc' := 41) ok (dOf dX11_image 24 rfl) rfl (by decide) rfl (by decide) win_11 wfl_X11_22 (fun a4 => ?_)
    refine J_iload_n (pc' := 42) ok (dOf dX11_image 25 rfl) rfl rfl rfl ?_
    refine J_iald (pc' := 43) ok (dOf dX11_image 26 rfl) rfl (fun x5 => ?_)
    refine J_iast (pc' := 44) ok (dOf dX11_image 27 rfl) rfl (fun h6 _ => ?_)
    refine J_iinc (v := s.1 + 1) (ls' := [some (.ref v0), some (.int v1), some (.int v2), some (.int (s.1 + 1))]) (pc' := 47) ok (dOf dX11_image 28 rfl) rfl rfl (by rfl) (Nat.le_of_ble_eq_true rfl) rfl rfl ?_
    refine J_goto (tgt := 23) ok (dOf dX11_image 29 rfl) (by decide) ?_
    exact J_fin (k1 (s.1 + 1, h6))
def Mod_image_b52 (v0 : Nat) (v1 : Int32) (v2 : Int32) (s : Int32 × AHeap) : Option ((Int32 × AHeap) ⊕ ((Int32 × AHeap))) :=
  (if 4 ≤ s.1 then some (Sum.inr (s.1, s.2)) else (gfR s.2 v0 11 15).bind fun a7 => (gfR s.2 v0 11 2).bind fun a8 => (ald 0 s.2 a8 s.1).bind fun x9 => (ast 0 s.2 a7 ((v2 + 1427) + s.1) x9).bind fun h10 => some (Sum.inl (s.1 + 1, h10)))
theorem Mod_image_b52_J {E : JE} {l : Launch} {G : GX} {r : Option Value} {h' : AHeap} (ok : JOK E l G kMod_image 0 0 r h') (v0 : Nat) (v1 : Int32) (v2 : Int32) {Y : (Int32 × AHeap) ⊕ ((Int32 × AHeap)) → Prop} (k1 : ∀ s' : Int32 × AHeap, Y (.inl s') → JW E kMod_image 52 [some (.ref v0), some (.int v1), some (.int v2), some (.int s'.1)] [] s'.2 0 0) (kx81 : ∀ q : Int32 × AHeap, Y (.inr q) → JW E kMod_image 81 [some (.ref v0), some (.int v1), some (.int v2), some (.int q.1)] [] q.2 0 0) (s : Int32 × AHeap) : J E kMod_image (Mod_image_b52 v0 v1 v2 s) Y 52 [some (.ref v0), some (.int v1), some (.int v2), some (.int s.1)] [] s.2 0 0 := by
  unfold Mod_image_b52
  refine J_iload_n (pc' := 53) ok (dOf dX11_image 32 rfl) rfl rfl rfl ?_
  refine J_iconst (v := 4) (pc' := 54) ok (dOf dX11_image 33 rfl) rfl (by decide) ?_
  refine J_icmp_ge (tgt := 81) (pc' := 57) ok (dOf dX11_image 34 rfl) rfl (by decide) ?_ ?_
  · exact J_fin (kx81 (s.1, s.2))
  · refine J_aload_n (pc' := 58) ok (dOf dX11_image 35 rfl) rfl rfl rfl ?_
    refine J_getR (ci := 11) (kf := 15) (C := RX11) (T := TX11) (N := 29) (pc' := 61) ok (dOf dX11_image 36 rfl) rfl (by decide) rfl (by decide) win_11 wfl_X11_44 (fun a7 => ?_)
    refine J_iload_n (pc' := 62) ok (dOf dX11_image 37 rfl) rfl rfl rfl ?_
    refine J_sipush (v := 1427) (pc' := 65) ok (dOf dX11_image 38 rfl) rfl (by decide) ?_
    refine J_iadd (pc' := 66) ok (dOf dX11_image 39 rfl) rfl ?_
    refine J_iload_n (pc' := 67) ok (dOf dX11_image 40 rfl) rfl rfl rfl ?_
    refine J_iadd (pc' := 68) ok (dOf dX11_image 41 rfl) rfl ?_
    refine J_aload_n (pc' := 69) ok (dOf dX11_image 42 rfl) rfl rfl rfl ?_
    refine J_getR (ci := 11) (kf := 2) (C := RX11) (T := TX11) (N := 29) (pc' := 72) ok (dOf dX11_image 43 rfl) rfl (by decide) rfl (by decide) win_11 wfl_X11_13 (fun a8 => ?_)
    refine J_iload_n (pc' := 73) ok (dOf dX11_image 44 rfl) rfl rfl rfl ?_
    refine J_iald (pc' := 74) ok (dOf dX11_image 45 rfl) rfl (fun x9 => ?_)
    refine J_iast (pc' := 75) ok (dOf dX11_image 46 rfl) rfl (fun h10 _ => ?_)
    refine J_iinc (v := s.1 + 1) (ls' := [some (.ref v0), some (.int v1), some (.int v2), some (.int (s.1 + 1))]) (pc' := 78) ok (dOf dX11_image 47 rfl) rfl rfl (by rfl) (Nat.le_of_ble_eq_true rfl) rfl rfl ?_
    refine J_goto (tgt := 52) ok (dOf dX11_image 48 rfl) (by decide) ?_
    exact J_fin (k1 (s.1 + 1, h10))
def Mod_image_j81 (v0 : Nat) (v1 : Int32) (v2 : Int32) (v3 : Int32) (h : AHeap) : Option (Int32 × AHeap) :=
  (gfR h v0 11 16).bind fun a11 => (ast 1 h a11 v1 1).bind fun h12 => (chk h12 v0 11).bind fun _ => bnd2 (Mod_tells v0 0 h12) fun x14 h13 => some (x14, h13)
theorem Mod_image_j81_J {E : JE} {l : Launch} {G : GX} {v : Int32} {h' : AHeap} (ok : JOK E l G kMod_image 0 0 (some (.int v)) h') (v0 : Nat) (v1 : Int32) (v2 : Int32) (v3 : Int32) (h : AHeap) : J E kMod_image (Mod_image_j81 v0 v1 v2 v3 h) (fun z => z = (v, h')) 81 [some (.ref v0), some (.int v1), some (.int v2), some (.int v3)] [] h 0 0 := by
  unfold Mod_image_j81
  refine J_aload_n (pc' := 82) ok (dOf dX11_image 49 rfl) rfl rfl rfl ?_
  refine J_getR (ci := 11) (kf := 16) (C := RX11) (T := TX11) (N := 29) (pc' := 85) ok (dOf dX11_image 50 rfl) rfl (by decide) rfl (by decide) win_11 wfl_X11_47 (fun a11 => ?_)
  refine J_iload_n (pc' := 86) ok (dOf dX11_image 51 rfl) rfl rfl rfl ?_
  refine J_iconst (v := 1) (pc' := 87) ok (dOf dX11_image 52 rfl) rfl (by decide) ?_
  refine J_zast (pc' := 88) ok (dOf dX11_image 53 rfl) rfl (fun h12 _ => ?_)
  refine J_aload_n (pc' := 89) ok (dOf dX11_image 54 rfl) rfl rfl rfl ?_
  refine J_iconst (v := 0) (pc' := 90) ok (dOf dX11_image 55 rfl) rfl (by decide) ?_
  refine J_callVi (k2 := kMod_tells) (ci := 11) (T := TX11) (N := 29) (as := [.int 0]) (pc' := 93) ok (dOf dX11_image 56 rfl) rfl (cw_Mod_tells (by decide) (by decide)) wml_X11_89 winst_X11_tells wsel_X11_tells rfl ⟨Nat.le_refl 0, Nat.le_refl 0⟩ (Nat.le_of_ble_eq_true rfl) rfl (fun _ _ hf => t_Mod_tells hf) (fun x14 h13 => ?_)
  exact J_ireturn ok (dOf dX11_image 57 rfl) rfl (Eq.refl 0) (Nat.le_refl 0)
def Mod_image_j50 (v0 : Nat) (v1 : Int32) (v2 : Int32) (v3 : Int32) (h : AHeap) : Option (Int32 × AHeap) :=
  (iter (Mod_image_b52 v0 v1 v2) Lmax (0, h)).bind (fun (q52 : Int32 × AHeap) => Mod_image_j81 v0 v1 v2 q52.1 q52.2)
theorem Mod_image_j50_J {E : JE} {l : Launch} {G : GX} {v : Int32} {h' : AHeap} (ok : JOK E l G kMod_image 0 0 (some (.int v)) h') (v0 : Nat) (v1 : Int32) (v2 : Int32) (v3 : Int32) (h : AHeap) : J E kMod_image (Mod_image_j50 v0 v1 v2 v3 h) (fun z => z = (v, h')) 50 [some (.ref v0), some (.int v1), some (.int v2), some (.int v3)] [] h 0 0 := by
  unfold Mod_image_j50
  refine J_iconst (v := 0) (pc' := 51) ok (dOf dX11_image 30 rfl) rfl (by decide) ?_
  refine J_istore_n (ls' := [some (.ref v0), some (.int v1), some (.int v2), some (.int 0)]) (pc' := 52) ok (dOf dX11_image 31 rfl) rfl rfl (Nat.le_of_ble_eq_true rfl) rfl rfl ?_
  refine J_iter (lf := fun z52 => [some (.ref v0), some (.int v1), some (.int v2), some (.int z52.1)]) (sf := fun _ => []) (hf := fun z52 => z52.2) (px := (fun (q52 : Int32 × AHeap) => 81)) (lx := (fun (q52 : Int32 × AHeap) => [some (.ref v0), some (.int v1), some (.int v2), some (.int q52.1)])) (sx := (fun (q52 : Int32 × AHeap) => [])) (hx := (fun (q52 : Int32 × AHeap) => q52.2)) (fun Y2 z52 m1 m2 => Mod_image_b52_J ok v0 v1 v2 m1 m2 z52) (fun q52 => ?_) Lmax _
  exact Mod_image_j81_J ok v0 v1 v2 q52.1 q52.2
def Mod_image (v0 : Nat) (v1 : Int32) (h : AHeap) : Option (Int32 × AHeap) :=
  bnd2 (Mod_isIn v1 0 1 h) fun x2 h1 => (if ¬ x2 = 0 then (iter (Mod_image_b23 v0 v1 (1431 * v1)) Lmax (0, h1)).bind (fun (q23 : Int32 × AHeap) => Mod_image_j50 v0 v1 (1431 * v1) q23.1 q23.2) else (chk h1 v0 11).bind fun _ => bnd2 (Mod_refuses v0 (-1) h1) fun x16 h15 => some (x16, h15))
theorem t_Mod_image {l : Launch} {G : GX} {v0 : Nat} {v1 : Int32} {h : AHeap} {v : Int32} {h1 : AHeap} (hf : Mod_image v0 v1 h = some (v, h1)) : CT l G kMod_image 0 0 [.ref v0, .int v1] h (some (.int v)) h1 := by
  refine CT_of (ls := [some (.ref v0), some (.int v1), none, none]) (Z := fun z => z = (v, h1)) (by decide +kernel) (Nat.le_of_ble_eq_true rfl) hf rfl ⟨rfl, rfl, trivial⟩ (fun E ok => ?_)
  unfold Mod_image
  refine J_iload_n (pc' := 1) ok (dOf dX11_image 0 rfl) rfl rfl rfl ?_
  refine J_iconst (v := 0) (pc' := 2) ok (dOf dX11_image 1 rfl) rfl (by decide) ?_
  refine J_iconst (v := 1) (pc' := 3) ok (dOf dX11_image 2 rfl) rfl (by decide) ?_
  refine J_callSi (k2 := kMod_isIn) (as := [.int v1, .int 0, .int 1]) (pc' := 6) ok (dOf dX11_image 3 rfl) rfl (cw_Mod_isIn (by decide) (by decide)) wml_X11_75 wstat_X11_isIn ⟨Nat.le_refl 0, Nat.le_refl 0⟩ (Nat.le_of_ble_eq_true rfl) rfl (fun _ _ hf => t_Mod_isIn hf) (fun x2 h1 => ?_)
  refine J_if_ne (tgt := 15) (pc' := 9) ok (dOf dX11_image 4 rfl) rfl (by decide) ?_ ?_
  · refine J_sipush (v := 1431) (pc' := 18) ok (dOf dX11_image 9 rfl) rfl (by decide) ?_
    refine J_iload_n (pc' := 19) ok (dOf dX11_image 10 rfl) rfl rfl rfl ?_
    refine J_imul (pc' := 20) ok (dOf dX11_image 11 rfl) rfl ?_
    refine J_istore_n (ls' := [some (.ref v0), some (.int v1), some (.int (1431 * v1)), none]) (pc' := 21) ok (dOf dX11_image 12 rfl) rfl rfl (Nat.le_of_ble_eq_true rfl) rfl rfl ?_
    refine J_iconst (v := 0) (pc' := 22) ok (dOf dX11_image 13 rfl) rfl (by decide) ?_
    refine J_istore_n (ls' := [some (.ref v0), some (.int v1), some (.int (1431 * v1)), some (.int 0)]) (pc' := 23) ok (dOf dX11_image 14 rfl) rfl rfl (Nat.le_of_ble_eq_true rfl) rfl rfl ?_
    refine J_iter (lf := fun z23 => [some (.ref v0), some (.int v1), some (.int (1431 * v1)), some (.int z23.1)]) (sf := fun _ => []) (hf := fun z23 => z23.2) (px := (fun (q23 : Int32 × AHeap) => 50)) (lx := (fun (q23 : Int32 × AHeap) => [some (.ref v0), some (.int v1), some (.int (1431 * v1)), some (.int q23.1)])) (sx := (fun (q23 : Int32 × AHeap) => [])) (hx := (fun (q23 : Int32 × AHeap) => q23.2)) (fun Y2 z23 m1 m2 => Mod_image_b23_J ok v0 v1 (1431 * v1) m1 m2 z23) (fun q23 => ?_) Lmax _
    exact Mod_image_j50_J ok v0 v1 (1431 * v1) q23.1 q23.2
  · refine J_aload_n (pc' := 10) ok (dOf dX11_image 5 rfl) rfl rfl rfl ?_
    refine J_iconst (v := (-1)) (pc' := 11) ok (dOf dX11_image 6 rfl) rfl (by decide) ?_
    refine J_callVi (k2 := kMod_refuses) (ci := 11) (T := TX11) (N := 29) (as := [.int (-1)]) (pc' := 14) ok (dOf dX11_image 7 rfl) rfl (cw_Mod_refuses (by decide) (by decide)) wml_X11_85 winst_X11_refuses wsel_X11_refuses rfl ⟨Nat.le_refl 0, Nat.le_refl 0⟩ (Nat.le_of_ble_eq_true rfl) rfl (fun _ _ hf => t_Mod_refuses hf) (fun x16 h15 => ?_)
    exact J_ireturn ok (dOf dX11_image 8 rfl) rfl (Eq.refl 0) (Nat.le_refl 0)
-- X11_back
abbrev kMod_back : Cd := (yX11_back, cX11_back, 4, (some .int), 1, 22)
theorem dX11_back : dcheck cX11_back [(0, .iload_n 1, 1), (1, .iconst 0, 1), (2, .iconst 1, 1), (3, .invokestatic 75, 3), (6, .ifCond .ne 9, 3), (9, .aload_n 0, 1), (10, .iconst (-1), 1), (11, .invokevirtual 85, 3), (14, .ireturn, 1), (15, .aload_n 0, 1), (16, .getfield 47, 3), (19, .iload_n 1, 1), (20, .baload, 1), (21, .ifCond .ne 10, 3), (24, .aload_n 0, 1), (25, .bipush (-2), 2), (27, .invokevirtual 85, 3), (30, .ireturn, 1), (31, .sipush 1431, 3), (34, .iload_n 1, 1), (35, .imul, 1), (36, .istore_n 2, 1), (37, .iconst 0, 1), (38, .istore_n 3, 1), (39, .iload_n 3, 1), (40, .sipush 1427, 3), (43, .if_icmp .ge 23, 3), (46, .aload_n 0, 1), (47, .getfield 22, 3), (50, .iload_n 3, 1), (51, .aload_n 0, 1), (52, .getfield 44, 3), (55, .iload_n 2, 1), (56, .iload_n 3, 1), (57, .iadd, 1), (58, .iaload, 1), (59, .iastore, 1), (60, .iinc 3 1, 3), (63, .goto (-24), 3), (66, .iconst 0, 1), (67, .istore_n 3, 1), (68, .iload_n 3, 1), (69, .iconst 4, 1), (70, .if_icmp .ge 27, 3), (73, .aload_n 0, 1), (74, .getfield 13, 3), (77, .iload_n 3, 1), (78, .aload_n 0, 1), (79, .getfield 44, 3), (82, .iload_n 2, 1), (83, .sipush 1427, 3), (86, .iadd, 1), (87, .iload_n 3, 1), (88, .iadd, 1), (89, .iaload, 1), (90, .iastore, 1), (91, .iinc 3 1, 3), (94, .goto (-26), 3), (97, .aload_n 0, 1), (98, .iconst 0, 1), (99, .putfield 82, 3), (102, .aload_n 0, 1), (103, .iconst 0, 1), (104, .invokevirtual 89, 3), (107, .ireturn, 1)] = true := by decide +kernel
theorem cw_Mod_back {k : Cd} (h1 : kMod_back.2.2.2.2.1 + 1 ≤ k.2.2.2.2.1) (h2 : 8 + (kMod_back.2.2.1 + 11) + kMod_back.2.2.2.2.2 ≤ k.2.2.2.2.2) : Cw k kMod_back 1 := ⟨wcode_X11_back, wini_SplitProgramModel, ⟨by decide, by decide, by decide +kernel⟩, h1, h2⟩
def Mod_back_b39 (v0 : Nat) (v1 : Int32) (v2 : Int32) (s : Int32 × AHeap) : Option ((Int32 × AHeap) ⊕ ((Int32 × AHeap))) :=
  (if 1427 ≤ s.1 then some (Sum.inr (s.1, s.2)) else (gfR s.2 v0 11 5).bind fun a5 => (gfR s.2 v0 11 15).bind fun a6 => (ald 0 s.2 a6 (v2 + s.1)).bind fun x7 => (ast 0 s.2 a5 s.1 x7).bind fun h8 => some (Sum.inl (s.1 + 1, h8)))
theorem Mod_back_b39_J {E : JE} {l : Launch} {G : GX} {r : Option Value} {h' : AHeap} (ok : JOK E l G kMod_back 0 0 r h') (v0 : Nat) (v1 : Int32) (v2 : Int32) {Y : (Int32 × AHeap) ⊕ ((Int32 × AHeap)) → Prop} (k1 : ∀ s' : Int32 × AHeap, Y (.inl s') → JW E kMod_back 39 [some (.ref v0), some (.int v1), some (.int v2), some (.int s'.1)] [] s'.2 0 0) (kx66 : ∀ q : Int32 × AHeap, Y (.inr q) → JW E kMod_back 66 [some (.ref v0), some (.int v1), some (.int v2), some (.int q.1)] [] q.2 0 0) (s : Int32 × AHeap) : J E kMod_back (Mod_back_b39 v0 v1 v2 s) Y 39 [some (.ref v0), some (.int v1), some (.int v2), some (.int s.1)] [] s.2 0 0 := by
  unfold Mod_back_b39
  refine J_iload_n (pc' := 40) ok (dOf dX11_back 24 rfl) rfl rfl rfl ?_
  refine J_sipush (v := 1427) (pc' := 43) ok (dOf dX11_back 25 rfl) rfl (by decide) ?_
  refine J_icmp_ge (tgt := 66) (pc' := 46) ok (dOf dX11_back 26 rfl) rfl (by decide) ?_ ?_
  · exact J_fin (kx66 (s.1, s.2))
  · refine J_aload_n (pc' := 47) ok (dOf dX11_back 27 rfl) rfl rfl rfl ?_
    refine J_getR (ci := 11) (kf := 5) (C := RX11) (T := TX11) (N := 29) (pc' := 50) ok (dOf dX11_back 28 rfl) rfl (by decide) rfl (by decide) win_11 wfl_X11_22 (fun a5 => ?_)
    refine J_iload_n (pc' := 51) ok (dOf dX11_back 29 rfl) rfl rfl rfl ?_
    refine J_aload_n (pc' := 52) ok (dOf dX11_back 30 rfl) rfl rfl rfl ?_
    refine J_getR (ci := 11) (kf := 15) (C := RX11) (T := TX11) (N := 29) (pc' := 55) ok (dOf dX11_back 31 rfl) rfl (by decide) rfl (by decide) win_11 wfl_X11_44 (fun a6 => ?_)
    refine J_iload_n (pc' := 56) ok (dOf dX11_back 32 rfl) rfl rfl rfl ?_
    refine J_iload_n (pc' := 57) ok (dOf dX11_back 33 rfl) rfl rfl rfl ?_
    refine J_iadd (pc' := 58) ok (dOf dX11_back 34 rfl) rfl ?_
    refine J_iald (pc' := 59) ok (dOf dX11_back 35 rfl) rfl (fun x7 => ?_)
    refine J_iast (pc' := 60) ok (dOf dX11_back 36 rfl) rfl (fun h8 _ => ?_)
    refine J_iinc (v := s.1 + 1) (ls' := [some (.ref v0), some (.int v1), some (.int v2), some (.int (s.1 + 1))]) (pc' := 63) ok (dOf dX11_back 37 rfl) rfl rfl (by rfl) (Nat.le_of_ble_eq_true rfl) rfl rfl ?_
    refine J_goto (tgt := 39) ok (dOf dX11_back 38 rfl) (by decide) ?_
    exact J_fin (k1 (s.1 + 1, h8))
def Mod_back_b68 (v0 : Nat) (v1 : Int32) (v2 : Int32) (s : Int32 × AHeap) : Option ((Int32 × AHeap) ⊕ ((Int32 × AHeap))) :=
  (if 4 ≤ s.1 then some (Sum.inr (s.1, s.2)) else (gfR s.2 v0 11 2).bind fun a9 => (gfR s.2 v0 11 15).bind fun a10 => (ald 0 s.2 a10 ((v2 + 1427) + s.1)).bind fun x11 => (ast 0 s.2 a9 s.1 x11).bind fun h12 => some (Sum.inl (s.1 + 1, h12)))
theorem Mod_back_b68_J {E : JE} {l : Launch} {G : GX} {r : Option Value} {h' : AHeap} (ok : JOK E l G kMod_back 0 0 r h') (v0 : Nat) (v1 : Int32) (v2 : Int32) {Y : (Int32 × AHeap) ⊕ ((Int32 × AHeap)) → Prop} (k1 : ∀ s' : Int32 × AHeap, Y (.inl s') → JW E kMod_back 68 [some (.ref v0), some (.int v1), some (.int v2), some (.int s'.1)] [] s'.2 0 0) (kx97 : ∀ q : Int32 × AHeap, Y (.inr q) → JW E kMod_back 97 [some (.ref v0), some (.int v1), some (.int v2), some (.int q.1)] [] q.2 0 0) (s : Int32 × AHeap) : J E kMod_back (Mod_back_b68 v0 v1 v2 s) Y 68 [some (.ref v0), some (.int v1), some (.int v2), some (.int s.1)] [] s.2 0 0 := by
  unfold Mod_back_b68
  refine J_iload_n (pc' := 69) ok (dOf dX11_back 41 rfl) rfl rfl rfl ?_
  refine J_iconst (v := 4) (pc' := 70) ok (dOf dX11_back 42 rfl) rfl (by decide) ?_
  refine J_icmp_ge (tgt := 97) (pc' := 73) ok (dOf dX11_back 43 rfl) rfl (by decide) ?_ ?_
  · exact J_fin (kx97 (s.1, s.2))
  · refine J_aload_n (pc' := 74) ok (dOf dX11_back 44 rfl) rfl rfl rfl ?_
    refine J_getR (ci := 11) (kf := 2) (C := RX11) (T := TX11) (N := 29) (pc' := 77) ok (dOf dX11_back 45 rfl) rfl (by decide) rfl (by decide) win_11 wfl_X11_13 (fun a9 => ?_)
    refine J_iload_n (pc' := 78) ok (dOf dX11_back 46 rfl) rfl rfl rfl ?_
    refine J_aload_n (pc' := 79) ok (dOf dX11_back 47 rfl) rfl rfl rfl ?_
    refine J_getR (ci := 11) (kf := 15) (C := RX11) (T := TX11) (N := 29) (pc' := 82) ok (dOf dX11_back 48 rfl) rfl (by decide) rfl (by decide) win_11 wfl_X11_44 (fun a10 => ?_)
    refine J_iload_n (pc' := 83) ok (dOf dX11_back 49 rfl) rfl rfl rfl ?_
    refine J_sipush (v := 1427) (pc' := 86) ok (dOf dX11_back 50 rfl) rfl (by decide) ?_
    refine J_iadd (pc' := 87) ok (dOf dX11_back 51 rfl) rfl ?_
    refine J_iload_n (pc' := 88) ok (dOf dX11_back 52 rfl) rfl rfl rfl ?_
    refine J_iadd (pc' := 89) ok (dOf dX11_back 53 rfl) rfl ?_
    refine J_iald (pc' := 90) ok (dOf dX11_back 54 rfl) rfl (fun x11 => ?_)
    refine J_iast (pc' := 91) ok (dOf dX11_back 55 rfl) rfl (fun h12 _ => ?_)
    refine J_iinc (v := s.1 + 1) (ls' := [some (.ref v0), some (.int v1), some (.int v2), some (.int (s.1 + 1))]) (pc' := 94) ok (dOf dX11_back 56 rfl) rfl rfl (by rfl) (Nat.le_of_ble_eq_true rfl) rfl rfl ?_
    refine J_goto (tgt := 68) ok (dOf dX11_back 57 rfl) (by decide) ?_
    exact J_fin (k1 (s.1 + 1, h12))
def Mod_back_j97 (v0 : Nat) (v1 : Int32) (v2 : Int32) (v3 : Int32) (h : AHeap) : Option (Int32 × AHeap) :=
  (pfV h v0 11 13 (.int 0)).bind fun h13 => (chk h13 v0 11).bind fun _ => bnd2 (Mod_tells v0 0 h13) fun x15 h14 => some (x15, h14)
theorem Mod_back_j97_J {E : JE} {l : Launch} {G : GX} {v : Int32} {h' : AHeap} (ok : JOK E l G kMod_back 0 0 (some (.int v)) h') (v0 : Nat) (v1 : Int32) (v2 : Int32) (v3 : Int32) (h : AHeap) : J E kMod_back (Mod_back_j97 v0 v1 v2 v3 h) (fun z => z = (v, h')) 97 [some (.ref v0), some (.int v1), some (.int v2), some (.int v3)] [] h 0 0 := by
  unfold Mod_back_j97
  refine J_aload_n (pc' := 98) ok (dOf dX11_back 58 rfl) rfl rfl rfl ?_
  refine J_iconst (v := 0) (pc' := 99) ok (dOf dX11_back 59 rfl) rfl (by decide) ?_
  refine J_putI (ci := 11) (kf := 13) (C := RX11) (T := TX11) (N := 29) (pc' := 102) ok tyX11 (dOf dX11_back 60 rfl) rfl rfl (by decide) win_11 tyX11_ok nmX11 rfl rfl wfl_X11_82 (fun h13 _ => ?_)
  refine J_aload_n (pc' := 103) ok (dOf dX11_back 61 rfl) rfl rfl rfl ?_
  refine J_iconst (v := 0) (pc' := 104) ok (dOf dX11_back 62 rfl) rfl (by decide) ?_
  refine J_callVi (k2 := kMod_tells) (ci := 11) (T := TX11) (N := 29) (as := [.int 0]) (pc' := 107) ok (dOf dX11_back 63 rfl) rfl (cw_Mod_tells (by decide) (by decide)) wml_X11_89 winst_X11_tells wsel_X11_tells rfl ⟨Nat.le_refl 0, Nat.le_refl 0⟩ (Nat.le_of_ble_eq_true rfl) rfl (fun _ _ hf => t_Mod_tells hf) (fun x15 h14 => ?_)
  exact J_ireturn ok (dOf dX11_back 64 rfl) rfl (Eq.refl 0) (Nat.le_refl 0)
def Mod_back_j66 (v0 : Nat) (v1 : Int32) (v2 : Int32) (v3 : Int32) (h : AHeap) : Option (Int32 × AHeap) :=
  (iter (Mod_back_b68 v0 v1 v2) Lmax (0, h)).bind (fun (q68 : Int32 × AHeap) => Mod_back_j97 v0 v1 v2 q68.1 q68.2)
theorem Mod_back_j66_J {E : JE} {l : Launch} {G : GX} {v : Int32} {h' : AHeap} (ok : JOK E l G kMod_back 0 0 (some (.int v)) h') (v0 : Nat) (v1 : Int32) (v2 : Int32) (v3 : Int32) (h : AHeap) : J E kMod_back (Mod_back_j66 v0 v1 v2 v3 h) (fun z => z = (v, h')) 66 [some (.ref v0), some (.int v1), some (.int v2), some (.int v3)] [] h 0 0 := by
  unfold Mod_back_j66
  refine J_iconst (v := 0) (pc' := 67) ok (dOf dX11_back 39 rfl) rfl (by decide) ?_
  refine J_istore_n (ls' := [some (.ref v0), some (.int v1), some (.int v2), some (.int 0)]) (pc' := 68) ok (dOf dX11_back 40 rfl) rfl rfl (Nat.le_of_ble_eq_true rfl) rfl rfl ?_
  refine J_iter (lf := fun z68 => [some (.ref v0), some (.int v1), some (.int v2), some (.int z68.1)]) (sf := fun _ => []) (hf := fun z68 => z68.2) (px := (fun (q68 : Int32 × AHeap) => 97)) (lx := (fun (q68 : Int32 × AHeap) => [some (.ref v0), some (.int v1), some (.int v2), some (.int q68.1)])) (sx := (fun (q68 : Int32 × AHeap) => [])) (hx := (fun (q68 : Int32 × AHeap) => q68.2)) (fun Y2 z68 m1 m2 => Mod_back_b68_J ok v0 v1 v2 m1 m2 z68) (fun q68 => ?_) Lmax _
  exact Mod_back_j97_J ok v0 v1 v2 q68.1 q68.2
def Mod_back (v0 : Nat) (v1 : Int32) (h : AHeap) : Option (Int32 × AHeap) :=
  bnd2 (Mod_isIn v1 0 1 h) fun x2 h1 => (if ¬ x2 = 0 then (gfR h1 v0 11 16).bind fun a3 => (ald 1 h1 a3 v1).bind fun x4 => (if ¬ x4 = 0 then (iter (Mod_back_b39 v0 v1 (1431 * v1)) Lmax (0, h1)).bind (fun (q39 : Int32 × AHeap) => Mod_back_j66 v0 v1 (1431 * v1) q39.1 q39.2) else (chk h1 v0 11).bind fun _ => bnd2 (Mod_refuses v0 (-2) h1) fun x17 h16 => some (x17, h16)) else (chk h1 v0 11).bind fun _ => bnd2 (Mod_refuses v0 (-1) h1) fun x19 h18 => some (x19, h18))
theorem t_Mod_back {l : Launch} {G : GX} {v0 : Nat} {v1 : Int32} {h : AHeap} {v : Int32} {h1 : AHeap} (hf : Mod_back v0 v1 h = some (v, h1)) : CT l G kMod_back 0 0 [.ref v0, .int v1] h (some (.int v)) h1 := by
  refine CT_of (ls := [some (.ref v0), some (.int v1), none, none]) (Z := fun z => z = (v, h1)) (by decide +kernel) (Nat.le_of_ble_eq_true rfl) hf rfl ⟨rfl, rfl, trivial⟩ (fun E ok => ?_)
  unfold Mod_back
  refine J_iload_n (pc' := 1) ok (dOf dX11_back 0 rfl) rfl rfl rfl ?_
  refine J_iconst (v := 0) (pc' := 2) ok (dOf dX11_back 1 rfl) rfl (by decide) ?_
  refine J_iconst (v := 1) (pc' := 3) ok (dOf dX11_back 2 rfl) rfl (by decide) ?_
  refine J_callSi (k2 := kMod_isIn) (as := [.int v1, .int 0, .int 1]) (pc' := 6) ok (dOf dX11_back 3 rfl) rfl (cw_Mod_isIn (by decide) (by decide)) wml_X11_75 wstat_X11_isIn ⟨Nat.le_refl 0, Nat.le_refl 0⟩ (Nat.le_of_ble_eq_true rfl) rfl (fun _ _ hf => t_Mod_isIn hf) (fun x2 h1 => ?_)
  refine J_if_ne (tgt := 15) (pc' := 9) ok (dOf dX11_back 4 rfl) rfl (by decide) ?_ ?_
  · refine J_aload_n (pc' := 16) ok (dOf dX11_back 9 rfl) rfl rfl rfl ?_
    refine J_getR (ci := 11) (kf := 16) (C := RX11) (T := TX11) (N := 29) (pc' := 19) ok (dOf dX11_back 10 rfl) rfl (by decide) rfl (by decide) win_11 wfl_X11_47 (fun a3 => ?_)
    refine J_iload_n (pc' := 20) ok (dOf dX11_back 11 rfl) rfl rfl rfl ?_
    refine J_zald (pc' := 21) ok (dOf dX11_back 12 rfl) rfl (fun x4 => ?_)
    refine J_if_ne (tgt := 31) (pc' := 24) ok (dOf dX11_back 13 rfl) rfl (by decide) ?_ ?_
    · refine J_sipush (v := 1431) (pc' := 34) ok (dOf dX11_back 18 rfl) rfl (by decide) ?_
      refine J_iload_n (pc' := 35) ok (dOf dX11_back 19 rfl) rfl rfl rfl ?_
      refine J_imul (pc' := 36) ok (dOf dX11_back 20 rfl) rfl ?_
      refine J_istore_n (ls' := [some (.ref v0), some (.int v1), some (.int (1431 * v1)), none]) (pc' := 37) ok (dOf dX11_back 21 rfl) rfl rfl (Nat.le_of_ble_eq_true rfl) rfl rfl ?_
      refine J_iconst (v := 0) (pc' := 38) ok (dOf dX11_back 22 rfl) rfl (by decide) ?_
      refine J_istore_n (ls' := [some (.ref v0), some (.int v1), some (.int (1431 * v1)), some (.int 0)]) (pc' := 39) ok (dOf dX11_back 23 rfl) rfl rfl (Nat.le_of_ble_eq_true rfl) rfl rfl ?_
      refine J_iter (lf := fun z39 => [some (.ref v0), some (.int v1), some (.int (1431 * v1)), some (.int z39.1)]) (sf := fun _ => []) (hf := fun z39 => z39.2) (px := (fun (q39 : Int32 × AHeap) => 66)) (lx := (fun (q39 : Int32 × AHeap) => [some (.ref v0), some (.int v1), some (.int (1431 * v1)), some (.int q39.1)])) (sx := (fun (q39 : Int32 × AHeap) => [])) (hx := (fun (q39 : Int32 × AHeap) => q39.2)) (fun Y2 z39 m1 m2 => Mod_back_b39_J ok v0 v1 (1431 * v1) m1 m2 z39) (fun q39 => ?_) Lmax _
      exact Mod_back_j66_J ok v0 v1 (1431 * v1) q39.1 q39.2
    · refine J_aload_n (pc' := 25) ok (dOf dX11_back 14 rfl) rfl rfl rfl ?_
      refine J_bipush (v := (-2)) (pc' := 27) ok (dOf dX11_back 15 rfl) rfl (by decide) ?_
      refine J_callVi (k2 := kMod_refuses) (ci := 11) (T := TX11) (N := 29) (as := [.int (-2)]) (pc' := 30) ok (dOf dX11_back 16 rfl) rfl (cw_Mod_refuses (by decide) (by decide)) wml_X11_85 winst_X11_refuses wsel_X11_refuses rfl ⟨Nat.le_refl 0, Nat.le_refl 0⟩ (Nat.le_of_ble_eq_true rfl) rfl (fun _ _ hf => t_Mod_refuses hf) (fun x17 h16 => ?_)
      exact J_ireturn ok (dOf dX11_back 17 rfl) rfl (Eq.refl 0) (Nat.le_refl 0)
  · refine J_aload_n (pc' := 10) ok (dOf dX11_back 5 rfl) rfl rfl rfl ?_
    refine J_iconst (v := (-1)) (pc' := 11) ok (dOf dX11_back 6 rfl) rfl (by decide) ?_
    refine J_callVi (k2 := kMod_refuses) (ci := 11) (T := TX11) (N := 29) (as := [.int (-1)]) (pc' := 14) ok (dOf dX11_back 7 rfl) rfl (cw_Mod_refuses (by decide) (by decide)) wml_X11_85 winst_X11_refuses wsel_X11_refuses rfl ⟨Nat.le_refl 0, Nat.le_refl 0⟩ (Nat.le_of_ble_eq_true rfl) rfl (fun _ _ hf => t_Mod_refuses hf) (fun x19 h18 => ?_)
    exact J_ireturn ok (dOf dX11_back 8 rfl) rfl (Eq.refl 0) (Nat.le_refl 0)
-- X11_roads
abbrev kMod_roads : Cd := (yX11_roads, cX11_roads, 3, (some .int), 0, 0)
theorem dX11_roads : dcheck cX11_roads [(0, .iconst 0, 1), (1, .istore_n 1, 1), (2, .iconst 0, 1), (3, .istore_n 2, 1), (4, .iload_n 2, 1), (5, .bipush 24, 2), (7, .if_icmp .ge 30, 3), (10, .iload_n 1, 1), (11, .aload_n 0, 1), (12, .getfield 22, 3), (15, .bipush 23, 2), (17, .iload_n 2, 1), (18, .iadd, 1), (19, .iaload, 1), (20, .iconst (-1), 1), (21, .if_icmp .ne 7, 3), (24, .iconst 0, 1), (25, .goto 4, 3), (28, .iconst 1, 1), (29, .iadd, 1), (30, .istore_n 1, 1), (31, .iinc 2 1, 3), (34, .goto (-30), 3), (37, .iload_n 1, 1), (38, .ireturn, 1)] = true := by decide +kernel
theorem cw_Mod_roads {k : Cd} (h1 : kMod_roads.2.2.2.2.1 + 1 ≤ k.2.2.2.2.1) (h2 : 8 + (kMod_roads.2.2.1 + 11) + kMod_roads.2.2.2.2.2 ≤ k.2.2.2.2.2) : Cw k kMod_roads 0 := ⟨wcode_X11_roads, wini_SplitProgramModel, ⟨by decide, by decide, by decide +kernel⟩, h1, h2⟩
def Mod_roads_j29 (v0 : Nat) (v1 : Int32) (v2 : Int32) (t0 : Int32) (t1 : Int32) (h : AHeap) : Option ((Int32 × Int32) ⊕ ((Int32 × Int32))) :=
  some (Sum.inl (t0 + t1, v2 + 1))
theorem Mod_roads_j29_J {E : JE} {l : Launch} {G : GX} {r : Option Value} {h' : AHeap} (ok : JOK E l G kMod_roads 0 0 r h') (v0 : Nat) (v1 : Int32) (v2 : Int32) (t0 : Int32) (t1 : Int32) (h : AHeap) {Y : (Int32 × Int32) ⊕ ((Int32 × Int32)) → Prop} (k1 : ∀ s' : Int32 × Int32, Y (.inl s') → JW E kMod_roads 4 [some (.ref v0), some (.int s'.1), some (.int s'.2)] [] h 0 0) (kx37 : ∀ q : Int32 × Int32, Y (.inr q) → JW E kMod_roads 37 [some (.ref v0), some (.int q.1), some (.int q.2)] [] h 0 0) : J E kMod_roads (Mod_roads_j29 v0 v1 v2 t0 t1 h) Y 29 [some (.ref v0), some (.int v1), some (.int v2)] [.int t1, .int t0] h 0 0 := by
  unfold Mod_roads_j29
  refine J_iadd (pc' := 30) ok (dOf dX11_roads 19 rfl) rfl ?_
  refine J_istore_n (ls' := [some (.ref v0), some (.int (t0 + t1)), some (.int v2)]) (pc' := 31) ok (dOf dX11_roads 20 rfl) rfl rfl (Nat.le_of_ble_eq_true rfl) rfl rfl ?_
  refine J_iinc (v := v2 + 1) (ls' := [some (.ref v0), some (.int (t0 + t1)), some (.int (v2 + 1))]) (pc' := 34) ok (dOf dX11_roads 21 rfl) rfl rfl (by rfl) (Nat.le_of_ble_eq_true rfl) rfl rfl ?_
  refine J_goto (tgt := 4) ok (dOf dX11_roads 22 rfl) (by decide) ?_
  exact J_fin (k1 (t0 + t1, v2 + 1))
def Mod_roads_b4 (v0 : Nat) (h : AHeap) (s : Int32 × Int32) : Option ((Int32 × Int32) ⊕ ((Int32 × Int32))) :=
  (if 24 ≤ s.2 then some (Sum.inr (s.1, s.2)) else (gfR h v0 11 5).bind fun a1 => (ald 0 h a1 (23 + s.2)).bind fun x2 => (if ¬ x2 = (-1) then Mod_roads_j29 v0 s.1 s.2 s.1 1 h else Mod_roads_j29 v0 s.1 s.2 s.1 0 h))
theorem Mod_roads_b4_J {E : JE} {l : Launch} {G : GX} {r : Option Value} {h' : AHeap} (ok : JOK E l G kMod_roads 0 0 r h') (v0 : Nat) (h : AHeap) {Y : (Int32 × Int32) ⊕ ((Int32 × Int32)) → Prop} (k1 : ∀ s' : Int32 × Int32, Y (.inl s') → JW E kMod_roads 4 [some (.ref v0), some (.int s'.1), some (.int s'.2)] [] h 0 0) (kx37 : ∀ q : Int32 × Int32, Y (.inr q) → JW E kMod_roads 37 [some (.ref v0), some (.int q.1), some (.int q.2)] [] h 0 0) (s : Int32 × Int32) : J E kMod_roads (Mod_roads_b4 v0 h s) Y 4 [some (.ref v0), some (.int s.1), some (.int s.2)] [] h 0 0 := by
  unfold Mod_roads_b4
  refine J_iload_n (pc' := 5) ok (dOf dX11_roads 4 rfl) rfl rfl rfl ?_
  refine J_bipush (v := 24) (pc' := 7) ok (dOf dX11_roads 5 rfl) rfl (by decide) ?_
  refine J_icmp_ge (tgt := 37) (pc' := 10) ok (dOf dX11_roads 6 rfl) rfl (by decide) ?_ ?_
  · exact J_fin (kx37 (s.1, s.2))
  · refine J_iload_n (pc' := 11) ok (dOf dX11_roads 7 rfl) rfl rfl rfl ?_
    refine J_aload_n (pc' := 12) ok (dOf dX11_roads 8 rfl) rfl rfl rfl ?_
    refine J_getR (ci := 11) (kf := 5) (C := RX11) (T := TX11) (N := 29) (pc' := 15) ok (dOf dX11_roads 9 rfl) rfl (by decide) rfl (by decide) win_11 wfl_X11_22 (fun a1 => ?_)
    refine J_bipush (v := 23) (pc' := 17) ok (dOf dX11_roads 10 rfl) rfl (by decide) ?_
    refine J_iload_n (pc' := 18) ok (dOf dX11_roads 11 rfl) rfl rfl rfl ?_
    refine J_iadd (pc' := 19) ok (dOf dX11_roads 12 rfl) rfl ?_
    refine J_iald (pc' := 20) ok (dOf dX11_roads 13 rfl) rfl (fun x2 => ?_)
    refine J_iconst (v := (-1)) (pc' := 21) ok (dOf dX11_roads 14 rfl) rfl (by decide) ?_
    refine J_icmp_ne (tgt := 28) (pc' := 24) ok (dOf dX11_roads 15 rfl) rfl (by decide) ?_ ?_
    · refine J_iconst (v := 1) (pc' := 29) ok (dOf dX11_roads 18 rfl) rfl (by decide) ?_
      exact Mod_roads_j29_J ok v0 s.1 s.2 s.1 1 h k1 kx37
    · refine J_iconst (v := 0) (pc' := 25) ok (dOf dX11_roads 16 rfl) rfl (by decide) ?_
      refine J_goto (tgt := 29) ok (dOf dX11_roads 17 rfl) (by decide) ?_
      exact Mod_roads_j29_J ok v0 s.1 s.2 s.1 0 h k1 kx37
def Mod_roads_j37 (v0 : Nat) (v1 : Int32) (v2 : Int32) (h : AHeap) : Option (Int32 × AHeap) :=
  some (v1, h)
theorem Mod_roads_j37_J {E : JE} {l : Launch} {G : GX} {v : Int32} {h' : AHeap} (ok : JOK E l G kMod_roads 0 0 (some (.int v)) h') (v0 : Nat) (v1 : Int32) (v2 : Int32) (h : AHeap) : J E kMod_roads (Mod_roads_j37 v0 v1 v2 h) (fun z => z = (v, h')) 37 [some (.ref v0), some (.int v1), some (.int v2)] [] h 0 0 := by
  unfold Mod_roads_j37
  refine J_iload_n (pc' := 38) ok (dOf dX11_roads 23 rfl) rfl rfl rfl ?_
  exact J_ireturn ok (dOf dX11_roads 24 rfl) rfl (Eq.refl 0) (Nat.le_refl 0)
def Mod_roads (v0 : Nat) (h : AHeap) : Option (Int32 × AHeap) :=
  (iter (Mod_roads_b4 v0 h) Lmax (0, 0)).bind (fun (q4 : Int32 × Int32) => Mod_roads_j37 v0 q4.1 q4.2 h)
theorem t_Mod_roads {l : Launch} {G : GX} {v0 : Nat} {h : AHeap} {v : Int32} {h1 : AHeap} (hf : Mod_roads v0 h = some (v, h1)) : CT l G kMod_roads 0 0 [.ref v0] h (some (.int v)) h1 := by
  refine CT_of (ls := [some (.ref v0), none, none]) (Z := fun z => z = (v, h1)) (by decide +kernel) (Nat.le_of_ble_eq_true rfl) hf rfl ⟨rfl, trivial⟩ (fun E ok => ?_)
  unfold Mod_roads
  refine J_iconst (v := 0) (pc' := 1) ok (dOf dX11_roads 0 rfl) rfl (by decide) ?_
  refine J_istore_n (ls' := [some (.ref v0), some (.int 0), none]) (pc' := 2) ok (dOf dX11_roads 1 rfl) rfl rfl (Nat.le_of_ble_eq_true rfl) rfl rfl ?_
  refine J_iconst (v := 0) (pc' := 3) ok (dOf dX11_roads 2 rfl) rfl (by decide) ?_
  refine J_istore_n (ls' := [some (.ref v0), some (.int 0), some (.int 0)]) (pc' := 4) ok (dOf dX11_roads 3 rfl) rfl rfl (Nat.le_of_ble_eq_true rfl) rfl rfl ?_
  refine J_iter (lf := fun z4 => [some (.ref v0), some (.int z4.1), some (.int z4.2)]) (sf := fun _ => []) (hf := fun z4 => h) (px := (fun (q4 : Int32 × Int32) => 37)) (lx := (fun (q4 : Int32 × Int32) => [some (.ref v0), some (.int q4.1), some (.int q4.2)])) (sx := (fun (q4 : Int32 × Int32) => [])) (hx := (fun (q4 : Int32 × Int32) => h)) (fun Y2 z4 m1 m2 => Mod_roads_b4_J ok v0 h m1 m2 z4) (fun q4 => ?_) Lmax _
  exact Mod_roads_j37_J ok v0 q4.1 q4.2 h
-- X11_plans
abbrev kMod_plans : Cd := (yX11_plans, cX11_plans, 3, (some .int), 2, 44)
theorem dX11_plans : dcheck cX11_plans [(0, .iconst 0, 1), (1, .istore_n 1, 1), (2, .iconst 0, 1), (3, .istore_n 2, 1), (4, .iload_n 2, 1), (5, .sipush 256, 3), (8, .if_icmp .ge 25, 3), (11, .iload_n 1, 1), (12, .aload_n 0, 1), (13, .iload_n 2, 1), (14, .invokevirtual 274, 3), (17, .ifCond .eq 7, 3), (20, .iconst 1, 1), (21, .goto 4, 3), (24, .iconst 0, 1), (25, .iadd, 1), (26, .istore_n 1, 1), (27, .iinc 2 1, 3), (30, .goto (-26), 3), (33, .iload_n 1, 1), (34, .ireturn, 1)] = true := by decide +kernel
theorem cw_Mod_plans {k : Cd} (h1 : kMod_plans.2.2.2.2.1 + 1 ≤ k.2.2.2.2.1) (h2 : 8 + (kMod_plans.2.2.1 + 11) + kMod_plans.2.2.2.2.2 ≤ k.2.2.2.2.2) : Cw k kMod_plans 0 := ⟨wcode_X11_plans, wini_SplitProgramModel, ⟨by decide, by decide, by decide +kernel⟩, h1, h2⟩
def Mod_plans_j25 (v0 : Nat) (v1 : Int32) (v2 : Int32) (t0 : Int32) (t1 : Int32) (h : AHeap) : Option ((Int32 × Int32 × AHeap) ⊕ ((Int32 × Int32 × AHeap))) :=
  some (Sum.inl (t0 + t1, v2 + 1, h))
theorem Mod_plans_j25_J {E : JE} {l : Launch} {G : GX} {r : Option Value} {h' : AHeap} (ok : JOK E l G kMod_plans 0 0 r h') (v0 : Nat) (v1 : Int32) (v2 : Int32) (t0 : Int32) (t1 : Int32) (h : AHeap) {Y : (Int32 × Int32 × AHeap) ⊕ ((Int32 × Int32 × AHeap)) → Prop} (k1 : ∀ s' : Int32 × Int32 × AHeap, Y (.inl s') → JW E kMod_plans 4 [some (.ref v0), some (.int s'.1), some (.int s'.2.1)] [] s'.2.2 0 0) (kx33 : ∀ q : Int32 × Int32 × AHeap, Y (.inr q) → JW E kMod_plans 33 [some (.ref v0), some (.int q.1), some (.int q.2.1)] [] q.2.2 0 0) : J E kMod_plans (Mod_plans_j25 v0 v1 v2 t0 t1 h) Y 25 [some (.ref v0), some (.int v1), some (.int v2)] [.int t1, .int t0] h 0 0 := by
  unfold Mod_plans_j25
  refine J_iadd (pc' := 26) ok (dOf dX11_plans 15 rfl) rfl ?_
  refine J_istore_n (ls' := [some (.ref v0), some (.int (t0 + t1)), some (.int v2)]) (pc' := 27) ok (dOf dX11_plans 16 rfl) rfl rfl (Nat.le_of_ble_eq_true rfl) rfl rfl ?_
  refine J_iinc (v := v2 + 1) (ls' := [some (.ref v0), some (.int (t0 + t1)), some (.int (v2 + 1))]) (pc' := 30) ok (dOf dX11_plans 17 rfl) rfl rfl (by rfl) (Nat.le_of_ble_eq_true rfl) rfl rfl ?_
  refine J_goto (tgt := 4) ok (dOf dX11_plans 18 rfl) (by decide) ?_
  exact J_fin (k1 (t0 + t1, v2 + 1, h))
def Mod_plans_b4 (v0 : Nat) (s : Int32 × Int32 × AHeap) : Option ((Int32 × Int32 × AHeap) ⊕ ((Int32 × Int32 × AHeap))) :=
  (if 256 ≤ s.2.1 then some (Sum.inr (s.1, s.2.1, s.2.2)) else (chk s.2.2 v0 11).bind fun _ => bnd2 (Mod_isPlan v0 s.2.1 s.2.2) fun x2 h1 => (if x2 = 0 then Mod_plans_j25 v0 s.1 s.2.1 s.1 0 h1 else Mod_plans_j25 v0 s.1 s.2.1 s.1 1 h1))
theorem Mod_plans_b4_J {E : JE} {l : Launch} {G : GX} {r : Option Value} {h' : AHeap} (ok : JOK E l G kMod_plans 0 0 r h') (v0 : Nat) {Y : (Int32 × Int32 × AHeap) ⊕ ((Int32 × Int32 × AHeap)) → Prop} (k1 : ∀ s' : Int32 × Int32 × AHeap, Y (.inl s') → JW E kMod_plans 4 [some (.ref v0), some (.int s'.1), some (.int s'.2.1)] [] s'.2.2 0 0) (kx33 : ∀ q : Int32 × Int32 × AHeap, Y (.inr q) → JW E kMod_plans 33 [some (.ref v0), some (.int q.1), some (.int q.2.1)] [] q.2.2 0 0) (s : Int32 × Int32 × AHeap) : J E kMod_plans (Mod_plans_b4 v0 s) Y 4 [some (.ref v0), some (.int s.1), some (.int s.2.1)] [] s.2.2 0 0 := by
  unfold Mod_plans_b4
  refine J_iload_n (pc' := 5) ok (dOf dX11_plans 4 rfl) rfl rfl rfl ?_
  refine J_sipush (v := 256) (pc' := 8) ok (dOf dX11_plans 5 rfl) rfl (by decide) ?_
  refine J_icmp_ge (tgt := 33) (pc' := 11) ok (dOf dX11_plans 6 rfl) rfl (by decide) ?_ ?_
  · exact J_fin (kx33 (s.1, s.2.1, s.2.2))
  · refine J_iload_n (pc' := 12) ok (dOf dX11_plans 7 rfl) rfl rfl rfl ?_
    refine J_aload_n (pc' := 13) ok (dOf dX11_plans 8 rfl) rfl rfl rfl ?_
    refine J_iload_n (pc' := 14) ok (dOf dX11_plans 9 rfl) rfl rfl rfl ?_
    refine J_callVi (k2 := kMod_isPlan) (ci := 11) (T := TX11) (N := 29) (as := [.int s.2.1]) (pc' := 17) ok (dOf dX11_plans 10 rfl) rfl (cw_Mod_isPlan (by decide) (by decide)) wml_X11_274 winst_X11_isPlan wsel_X11_isPlan rfl ⟨Nat.le_refl 0, Nat.le_refl 0⟩ (Nat.le_of_ble_eq_true rfl) rfl (fun _ _ hf => t_Mod_isPlan hf) (fun x2 h1 => ?_)
    refine J_if_eq (tgt := 24) (pc' := 20) ok (dOf dX11_plans 11 rfl) rfl (by decide) ?_ ?_
    · refine J_iconst (v := 0) (pc' := 25) ok (dOf dX11_plans 14 rfl) rfl (by decide) ?_
      exact Mod_plans_j25_J ok v0 s.1 s.2.1 s.1 0 h1 k1 kx33
    · refine J_iconst (v := 1) (pc' := 21) ok (dOf dX11_plans 12 rfl) rfl (by decide) ?_
      refine J_goto (tgt := 25) ok (dOf dX11_plans 13 rfl) (by decide) ?_
      exact Mod_plans_j25_J ok v0 s.1 s.2.1 s.1 1 h1 k1 kx33
def Mod_plans_j33 (v0 : Nat) (v1 : Int32) (v2 : Int32) (h : AHeap) : Option (Int32 × AHeap) :=
  some (v1, h)
theorem Mod_plans_j33_J {E : JE} {l : Launch} {G : GX} {v : Int32} {h' : AHeap} (ok : JOK E l G kMod_plans 0 0 (some (.int v)) h') (v0 : Nat) (v1 : Int32) (v2 : Int32) (h : AHeap) : J E kMod_plans (Mod_plans_j33 v0 v1 v2 h) (fun z => z = (v, h')) 33 [some (.ref v0), some (.int v1), some (.int v2)] [] h 0 0 := by
  unfold Mod_plans_j33
  refine J_iload_n (pc' := 34) ok (dOf dX11_plans 19 rfl) rfl rfl rfl ?_
  exact J_ireturn ok (dOf dX11_plans 20 rfl) rfl (Eq.refl 0) (Nat.le_refl 0)
def Mod_plans (v0 : Nat) (h : AHeap) : Option (Int32 × AHeap) :=
  (iter (Mod_plans_b4 v0) Lmax (0, 0, h)).bind (fun (q4 : Int32 × Int32 × AHeap) => Mod_plans_j33 v0 q4.1 q4.2.1 q4.2.2)
theorem t_Mod_plans {l : Launch} {G : GX} {v0 : Nat} {h : AHeap} {v : Int32} {h1 : AHeap} (hf : Mod_plans v0 h = some (v, h1)) : CT l G kMod_plans 0 0 [.ref v0] h (some (.int v)) h1 := by
  refine CT_of (ls := [some (.ref v0), none, none]) (Z := fun z => z = (v, h1)) (by decide +kernel) (Nat.le_of_ble_eq_true rfl) hf rfl ⟨rfl, trivial⟩ (fun E ok => ?_)
  unfold Mod_plans
  refine J_iconst (v := 0) (pc' := 1) ok (dOf dX11_plans 0 rfl) rfl (by decide) ?_
  refine J_istore_n (ls' := [some (.ref v0), some (.int 0), none]) (pc' := 2) ok (dOf dX11_plans 1 rfl) rfl rfl (Nat.le_of_ble_eq_true rfl) rfl rfl ?_
  refine J_iconst (v := 0) (pc' := 3) ok (dOf dX11_plans 2 rfl) rfl (by decide) ?_
  refine J_istore_n (ls' := [some (.ref v0), some (.int 0), some (.int 0)]) (pc' := 4) ok (dOf dX11_plans 3 rfl) rfl rfl (Nat.le_of_ble_eq_true rfl) rfl rfl ?_
  refine J_iter (lf := fun z4 => [some (.ref v0), some (.int z4.1), some (.int z4.2.1)]) (sf := fun _ => []) (hf := fun z4 => z4.2.2) (px := (fun (q4 : Int32 × Int32 × AHeap) => 33)) (lx := (fun (q4 : Int32 × Int32 × AHeap) => [some (.ref v0), some (.int q4.1), some (.int q4.2.1)])) (sx := (fun (q4 : Int32 × Int32 × AHeap) => [])) (hx := (fun (q4 : Int32 × Int32 × AHeap) => q4.2.2)) (fun Y2 z4 m1 m2 => Mod_plans_b4_J ok v0 m1 m2 z4) (fun q4 => ?_) Lmax _
  exact Mod_plans_j33_J ok v0 q4.1 q4.2.1 q4.2.2
-- X11_count
abbrev kMod_count : Cd := (yX11_count, cX11_count, 2, (some .int), 3, 66)
theorem dX11_count : dcheck cX11_count [(0, .iload_n 1, 1), (1, .iconst 0, 1), (2, .iconst 2, 1), (3, .invokestatic 75, 3), (6, .ifCond .eq 10, 3), (9, .aload_n 0, 1), (10, .getfield 22, 3), (13, .iload_n 1, 1), (14, .iaload, 1), (15, .ireturn, 1), (16, .iload_n 1, 1), (17, .bipush 7, 2), (19, .bipush 12, 2), (21, .invokestatic 75, 3), (24, .ifCond .eq 13, 3), (27, .aload_n 0, 1), (28, .getfield 7, 3), (31, .iload_n 1, 1), (32, .bipush 6, 2), (34, .isub, 1), (35, .iaload, 1), (36, .ireturn, 1), (37, .iload_n 1, 1), (38, .bipush 13, 2), (40, .bipush 16, 2), (42, .invokestatic 75, 3), (45, .ifCond .eq 13, 3), (48, .aload_n 0, 1), (49, .getfield 13, 3), (52, .iload_n 1, 1), (53, .bipush 13, 2), (55, .isub, 1), (56, .iaload, 1), (57, .ireturn, 1), (58, .iload_n 1, 1), (59, .tableswitch 49 3 6 #[29, 34, 39, 44], 29), (88, .aload_n 0, 1), (89, .invokevirtual 337, 3), (92, .ireturn, 1), (93, .aload_n 0, 1), (94, .invokevirtual 340, 3), (97, .ireturn, 1), (98, .aload_n 0, 1), (99, .getfield 82, 3), (102, .ireturn, 1), (103, .aload_n 0, 1), (104, .getfield 92, 3), (107, .ireturn, 1), (108, .iconst (-1), 1), (109, .ireturn, 1)] = true := by decide +kernel
theorem cw_Mod_count {k : Cd} (h1 : kMod_count.2.2.2.2.1 + 1 ≤ k.2.2.2.2.1) (h2 : 8 + (kMod_count.2.2.1 + 11) + kMod_count.2.2.2.2.2 ≤ k.2.2.2.2.2) : Cw k kMod_count 1 := ⟨wcode_X11_count, wini_SplitProgramModel, ⟨by decide, by decide, by decide +kernel⟩, h1, h2⟩
def Mod_count (v0 : Nat) (v1 : Int32) (h : AHeap) : Option (Int32 × AHeap) :=
  bnd2 (Mod_isIn v1 0 2 h) fun x2 h1 => (if x2 = 0 then bnd2 (Mod_isIn v1 7 12 h1) fun x4 h3 => (if x4 = 0 then bnd2 (Mod_isIn v1 13 16 h3) fun x6 h5 => (if x6 = 0 then swi v1 3 [(chk h5 v0 11).bind fun _ => bnd2 (Mod_roads v0 h5) fun x8 h7 => some (x8, h7), (chk h5 v0 11).bind fun _ => bnd2 (Mod_plans v0 h5) fun x10 h9 => some (x10, h9), (gfI h5 v0 11 13).bind fun x11 => some (x11, h5), (gfI h5 v0 11 9).bind fun x12 => some (x12, h5)] (some ((-1), h5)) else (gfR h5 v0 11 2).bind fun a13 => (ald 0 h5 a13 (v1 - 13)).bind fun x14 => some (x14, h5)) else (gfR h3 v0 11 1).bind fun a15 => (ald 0 h3 a15 (v1 - 6)).bind fun x16 => some (x16, h3)) else (gfR h1 v0 11 5).bind fun a17 => (ald 0 h1 a17 v1).bind fun x18 => some (x18, h1))
theorem t_Mod_count {l : Launch} {G : GX} {v0 : Nat} {v1 : Int32} {h : AHeap} {v : Int32} {h1 : AHeap} (hf : Mod_count v0 v1 h = some (v, h1)) : CT l G kMod_count 0 0 [.ref v0, .int v1] h (some (.int v)) h1 := by
  refine CT_of (ls := [some (.ref v0), some (.int v1)]) (Z := fun z => z = (v, h1)) (by decide +kernel) (Nat.le_of_ble_eq_true rfl) hf rfl ⟨rfl, rfl, trivial⟩ (fun E ok => ?_)
  unfold Mod_count
  refine J_iload_n (pc' := 1) ok (dOf dX11_count 0 rfl) rfl rfl rfl ?_
  refine J_iconst (v := 0) (pc' := 2) ok (dOf dX11_count 1 rfl) rfl (by decide) ?_
  refine J_iconst (v := 2) (pc' := 3) ok (dOf dX11_count 2 rfl) rfl (by decide) ?_
  refine J_callSi (k2 := kMod_isIn) (as := [.int v1, .int 0, .int 2]) (pc' := 6) ok (dOf dX11_count 3 rfl) rfl (cw_Mod_isIn (by decide) (by decide)) wml_X11_75 wstat_X11_isIn ⟨Nat.le_refl 0, Nat.le_refl 0⟩ (Nat.le_of_ble_eq_true rfl) rfl (fun _ _ hf => t_Mod_isIn hf) (fun x2 h1 => ?_)
  refine J_if_eq (tgt := 16) (pc' := 9) ok (dOf dX11_count 4 rfl) rfl (by decide) ?_ ?_
  · refine J_iload_n (pc' := 17) ok (dOf dX11_count 10 rfl) rfl rfl rfl ?_
    refine J_bipush (v := 7) (pc' := 19) ok (dOf dX11_count 11 rfl) rfl (by decide) ?_
    refine J_bipush (v := 12) (pc' := 21) ok (dOf dX11_count 12 rfl) rfl (by decide) ?_
    refine J_callSi (k2 := kMod_isIn) (as := [.int v1, .int 7, .int 12]) (pc' := 24) ok (dOf dX11_count 13 rfl) rfl (cw_Mod_isIn (by decide) (by decide)) wml_X11_75 wstat_X11_isIn ⟨Nat.le_refl 0, Nat.le_refl 0⟩ (Nat.le_of_ble_eq_true rfl) rfl (fun _ _ hf => t_Mod_isIn hf) (fun x4 h3 => ?_)
    refine J_if_eq (tgt := 37) (pc' := 27) ok (dOf dX11_count 14 rfl) rfl (by decide) ?_ ?_
    · refine J_iload_n (pc' := 38) ok (dOf dX11_count 22 rfl) rfl rfl rfl ?_
      refine J_bipush (v := 13) (pc' := 40) ok (dOf dX11_count 23 rfl) rfl (by decide) ?_
      refine J_bipush (v := 16) (pc' := 42) ok (dOf dX11_count 24 rfl) rfl (by decide) ?_
      refine J_callSi (k2 := kMod_isIn) (as := [.int v1, .int 13, .int 16]) (pc' := 45) ok (dOf dX11_count 25 rfl) rfl (cw_Mod_isIn (by decide) (by decide)) wml_X11_75 wstat_X11_isIn ⟨Nat.le_refl 0, Nat.le_refl 0⟩ (Nat.le_of_ble_eq_true rfl) rfl (fun _ _ hf => t_Mod_isIn hf) (fun x6 h5 => ?_)
      refine J_if_eq (tgt := 58) (pc' := 48) ok (dOf dX11_count 26 rfl) rfl (by decide) ?_ ?_
      · refine J_iload_n (pc' := 59) ok (dOf dX11_count 34 rfl) rfl rfl rfl ?_
        refine J_tsw (tgd := 108) ok [88, 93, 98, 103] (dOf dX11_count 35 rfl) rfl rfl (by decide) rfl ?_ (allJ_at _ _ ⟨?_, ?_, ?_, ?_, trivial⟩)
        · refine J_iconst (v := (-1)) (pc' := 109) ok (dOf dX11_count 48 rfl) rfl (by decide) ?_
          exact J_ireturn ok (dOf dX11_count 49 rfl) rfl (Eq.refl 0) (Nat.le_refl 0)
        · refine J_aload_n (pc' := 89) ok (dOf dX11_count 36 rfl) rfl rfl rfl ?_
          refine J_callVi (k2 := kMod_roads) (ci := 11) (T := TX11) (N := 29) (as := []) (pc' := 92) ok (dOf dX11_count 37 rfl) rfl (cw_Mod_roads (by decide) (by decide)) wml_X11_337 winst_X11_roads wsel_X11_roads rfl ⟨Nat.le_refl 0, Nat.le_refl 0⟩ (Nat.le_of_ble_eq_true rfl) rfl (fun _ _ hf => t_Mod_roads hf) (fun x8 h7 => ?_)
          exact J_ireturn ok (dOf dX11_count 38 rfl) rfl (Eq.refl 0) (Nat.le_refl 0)
        · refine J_aload_n (pc' := 94) ok (dOf dX11_count 39 rfl) rfl rfl rfl ?_
          refine J_callVi (k2 := kMod_plans) (ci := 11) (T := TX11) (N := 29) (as := []) (pc' := 97) ok (dOf dX11_count 40 rfl) rfl (cw_Mod_plans (by decide) (by decide)) wml_X11_340 winst_X11_plans wsel_X11_plans rfl ⟨Nat.le_refl 0, Nat.le_refl 0⟩ (Nat.le_of_ble_eq_true rfl) rfl (fun _ _ hf => t_Mod_plans hf) (fun x10 h9 => ?_)
          exact J_ireturn ok (dOf dX11_count 41 rfl) rfl (Eq.refl 0) (Nat.le_refl 0)
        · refine J_aload_n (pc' := 99) ok (dOf dX11_count 42 rfl) rfl rfl rfl ?_
          refine J_getI (ci := 11) (kf := 13) (C := RX11) (T := TX11) (N := 29) (pc' := 102) ok (dOf dX11_count 43 rfl) rfl (by decide) rfl (by decide) win_11 wfl_X11_82 (fun x11 => ?_)
          exact J_ireturn ok (dOf dX11_count 44 rfl) rfl (Eq.refl 0) (Nat.le_refl 0)
        · refine J_aload_n (pc' := 104) ok (dOf dX11_count 45 rfl) rfl rfl rfl ?_
          refine J_getI (ci := 11) (kf := 9) (C := RX11) (T := TX11) (N := 29) (pc' := 107) ok (dOf dX11_count 46 rfl) rfl (by decide) rfl (by decide) win_11 wfl_X11_92 (fun x12 => ?_)
          exact J_ireturn ok (dOf dX11_count 47 rfl) rfl (Eq.refl 0) (Nat.le_refl 0)
      · refine J_aload_n (pc' := 49) ok (dOf dX11_count 27 rfl) rfl rfl rfl ?_
        refine J_getR (ci := 11) (kf := 2) (C := RX11) (T := TX11) (N := 29) (pc' := 52) ok (dOf dX11_count 28 rfl) rfl (by decide) rfl (by decide) win_11 wfl_X11_13 (fun a13 => ?_)
        refine J_iload_n (pc' := 53) ok (dOf dX11_count 29 rfl) rfl rfl rfl ?_
        refine J_bipush (v := 13) (pc' := 55) ok (dOf dX11_count 30 rfl) rfl (by decide) ?_
        refine J_isub (pc' := 56) ok (dOf dX11_count 31 rfl) rfl ?_
        refine J_iald (pc' := 57) ok (dOf dX11_count 32 rfl) rfl (fun x14 => ?_)
        exact J_ireturn ok (dOf dX11_count 33 rfl) rfl (Eq.refl 0) (Nat.le_refl 0)
    · refine J_aload_n (pc' := 28) ok (dOf dX11_count 15 rfl) rfl rfl rfl ?_
      refine J_getR (ci := 11) (kf := 1) (C := RX11) (T := TX11) (N := 29) (pc' := 31) ok (dOf dX11_count 16 rfl) rfl (by decide) rfl (by decide) win_11 wfl_X11_7 (fun a15 => ?_)
      refine J_iload_n (pc' := 32) ok (dOf dX11_count 17 rfl) rfl rfl rfl ?_
      refine J_bipush (v := 6) (pc' := 34) ok (dOf dX11_count 18 rfl) rfl (by decide) ?_
      refine J_isub (pc' := 35) ok (dOf dX11_count 19 rfl) rfl ?_
      refine J_iald (pc' := 36) ok (dOf dX11_count 20 rfl) rfl (fun x16 => ?_)
      exact J_ireturn ok (dOf dX11_count 21 rfl) rfl (Eq.refl 0) (Nat.le_refl 0)
  · refine J_aload_n (pc' := 10) ok (dOf dX11_count 5 rfl) rfl rfl rfl ?_
    refine J_getR (ci := 11) (kf := 5) (C := RX11) (T := TX11) (N := 29) (pc' := 13) ok (dOf dX11_count 6 rfl) rfl (by decide) rfl (by decide) win_11 wfl_X11_22 (fun a17 => ?_)
    refine J_iload_n (pc' := 14) ok (dOf dX11_count 7 rfl) rfl rfl rfl ?_
    refine J_iald (pc' := 15) ok (dOf dX11_count 8 rfl) rfl (fun x18 => ?_)
    exact J_ireturn ok (dOf dX11_count 9 rfl) rfl (Eq.refl 0) (Nat.le_refl 0)
-- X11_status
abbrev kMod_status : Cd := (yX11_status, cX11_status, 1, (some .int), 0, 0)
theorem dX11_status : dcheck cX11_status [(0, .aload_n 0, 1), (1, .getfield 72, 3), (4, .ireturn, 1)] = true := by decide +kernel
theorem cw_Mod_status {k : Cd} (h1 : kMod_status.2.2.2.2.1 + 1 ≤ k.2.2.2.2.1) (h2 : 8 + (kMod_status.2.2.1 + 11) + kMod_status.2.2.2.2.2 ≤ k.2.2.2.2.2) : Cw k kMod_status 0 := ⟨wcode_X11_status, wini_SplitProgramModel, ⟨by decide, by decide, by decide +kernel⟩, h1, h2⟩
def Mod_status (v0 : Nat) (h : AHeap) : Option (Int32 × AHeap) :=
  (gfI h v0 11 0).bind fun x1 => some (x1, h)
theorem t_Mod_status {l : Launch} {G : GX} {v0 : Nat} {h : AHeap} {v : Int32} {h1 : AHeap} (hf : Mod_status v0 h = some (v, h1)) : CT l G kMod_status 0 0 [.ref v0] h (some (.int v)) h1 := by
  refine CT_of (ls := [some (.ref v0)]) (Z := fun z => z = (v, h1)) (by decide +kernel) (Nat.le_of_ble_eq_true rfl) hf rfl ⟨rfl, trivial⟩ (fun E ok => ?_)
  unfold Mod_status
  refine J_aload_n (pc' := 1) ok (dOf dX11_status 0 rfl) rfl rfl rfl ?_
  refine J_getI (ci := 11) (kf := 0) (C := RX11) (T := TX11) (N := 29) (pc' := 4) ok (dOf dX11_status 1 rfl) rfl (by decide) rfl (by decide) win_11 wfl_X11_72 (fun x1 => ?_)
  exact J_ireturn ok (dOf dX11_status 2 rfl) rfl (Eq.refl 0) (Nat.le_refl 0)
