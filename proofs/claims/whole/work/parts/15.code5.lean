-- X10_told
abbrev kSp_told : Cd := (yX10_told, cX10_told, 4, (some .int), 1, 21)
theorem dX10_told : dcheck cX10_told [(0, .aload_n 0, 1), (1, .getfield 10, 3), (4, .getfield 113, 3), (7, .astore_n 3, 1), (8, .aload_n 3, 1), (9, .iload_n 1, 1), (10, .invokevirtual 171, 3), (13, .ifCond .ne 5, 3), (16, .iconst (-1), 1), (17, .ireturn, 1), (18, .iload_n 2, 1), (19, .ifCond .ne 10, 3), (22, .aload_n 3, 1), (23, .getfield 225, 3), (26, .iload_n 1, 1), (27, .iaload, 1), (28, .ireturn, 1), (29, .iload_n 2, 1), (30, .iconst 1, 1), (31, .if_icmp .lt 13, 3), (34, .aload_n 3, 1), (35, .iload_n 2, 1), (36, .iconst 1, 1), (37, .isub, 1), (38, .invokevirtual 159, 3), (41, .ifCond .ne 5, 3), (44, .iconst (-1), 1), (45, .ireturn, 1), (46, .aload_n 3, 1), (47, .getfield 174, 3), (50, .iload_n 1, 1), (51, .bipush 6, 2), (53, .imul, 1), (54, .iload_n 2, 1), (55, .iadd, 1), (56, .iconst 1, 1), (57, .isub, 1), (58, .iaload, 1), (59, .ireturn, 1)] = true := by decide +kernel
theorem cw_Sp_told {k : Cd} (h1 : kSp_told.2.2.2.2.1 + 1 ≤ k.2.2.2.2.1) (h2 : 8 + (kSp_told.2.2.1 + 11) + kSp_told.2.2.2.2.2 ≤ k.2.2.2.2.2) : Cw k kSp_told 2 := ⟨wcode_X10_told, wini_SplitProgram, ⟨by decide, by decide, by decide +kernel⟩, h1, h2⟩
def Sp_told_j44 (v0 : Nat) (v1 : Int32) (v2 : Int32) (v3 : Nat) (h : AHeap) : Option (Int32 × AHeap) :=
  some ((-1), h)
theorem Sp_told_j44_J {E : JE} {l : Launch} {G : GX} {v : Int32} {h' : AHeap} (ok : JOK E l G kSp_told 0 0 (some (.int v)) h') (v0 : Nat) (v1 : Int32) (v2 : Int32) (v3 : Nat) (h : AHeap) : J E kSp_told (Sp_told_j44 v0 v1 v2 v3 h) (fun z => z = (v, h')) 44 [some (.ref v0), some (.int v1), some (.int v2), some (.ref v3)] [] h 0 0 := by
  unfold Sp_told_j44
  refine J_iconst (v := (-1)) (pc' := 45) ok (dOf dX10_told 26 rfl) rfl (by decide) ?_
  exact J_ireturn ok (dOf dX10_told 27 rfl) rfl (Eq.refl 0) (Nat.le_refl 0)
def Sp_told (v0 : Nat) (v1 : Int32) (v2 : Int32) (h : AHeap) : Option (Int32 × AHeap) :=
  (gfR h v0 10 0).bind fun a1 => (gfR h a1 8 0).bind fun a2 => (chk h a2 6).bind fun _ => bnd2 (Prog_hasCase a2 v1 h) fun x4 h3 => (if ¬ x4 = 0 then (if ¬ v2 = 0 then (if v2 < 1 then Sp_told_j44 v0 v1 v2 a2 h3 else (chk h3 a2 6).bind fun _ => bnd2 (Prog_hasSite a2 (v2 - 1) h3) fun x6 h5 => (if ¬ x6 = 0 then (gfR h5 a2 6 8).bind fun a7 => (ald 0 h5 a7 (((v1 * 6) + v2) - 1)).bind fun x8 => some (x8, h5) else Sp_told_j44 v0 v1 v2 a2 h5)) else (gfR h3 a2 6 7).bind fun a9 => (ald 0 h3 a9 v1).bind fun x10 => some (x10, h3)) else some ((-1), h3))
theorem t_Sp_told {l : Launch} {G : GX} {v0 : Nat} {v1 : Int32} {v2 : Int32} {h : AHeap} {v : Int32} {h1 : AHeap} (hf : Sp_told v0 v1 v2 h = some (v, h1)) : CT l G kSp_told 0 0 [.ref v0, .int v1, .int v2] h (some (.int v)) h1 := by
  refine CT_of (ls := [some (.ref v0), some (.int v1), some (.int v2), none]) (Z := fun z => z = (v, h1)) (by decide +kernel) (Nat.le_of_ble_eq_true rfl) hf rfl ⟨rfl, rfl, rfl, trivial⟩ (fun E ok => ?_)
  unfold Sp_told
  refine J_aload_n (pc' := 1) ok (dOf dX10_told 0 rfl) rfl rfl rfl ?_
  refine J_getR (ci := 10) (kf := 0) (C := RX10) (T := TX10) (N := 14) (pc' := 4) ok (dOf dX10_told 1 rfl) rfl (by decide) rfl (by decide) win_10 wfl_X10_10 (fun a1 => ?_)
  refine J_getR (ci := 8) (kf := 0) (C := RX8) (T := TX8) (N := 3) (pc' := 7) ok (dOf dX10_told 2 rfl) rfl (by decide) rfl (by decide) win_8 wfl_X10_113 (fun a2 => ?_)
  refine J_astore_n (ls' := [some (.ref v0), some (.int v1), some (.int v2), some (.ref a2)]) (pc' := 8) ok (dOf dX10_told 3 rfl) rfl rfl (Nat.le_of_ble_eq_true rfl) rfl rfl ?_
  refine J_aload_n (pc' := 9) ok (dOf dX10_told 4 rfl) rfl rfl rfl ?_
  refine J_iload_n (pc' := 10) ok (dOf dX10_told 5 rfl) rfl rfl rfl ?_
  refine J_callVi (k2 := kProg_hasCase) (ci := 6) (T := TX6) (N := 9) (as := [.int v1]) (pc' := 13) ok (dOf dX10_told 6 rfl) rfl (cw_Prog_hasCase (by decide) (by decide)) wml_X10_171 winst_X6_hasCase wsel_X6_hasCase rfl ⟨Nat.le_refl 0, Nat.le_refl 0⟩ (Nat.le_of_ble_eq_true rfl) rfl (fun _ _ hf => t_Prog_hasCase hf) (fun x4 h3 => ?_)
  refine J_if_ne (tgt := 18) (pc' := 16) ok (dOf dX10_told 7 rfl) rfl (by decide) ?_ ?_
  · refine J_iload_n (pc' := 19) ok (dOf dX10_told 10 rfl) rfl rfl rfl ?_
    refine J_if_ne (tgt := 29) (pc' := 22) ok (dOf dX10_told 11 rfl) rfl (by decide) ?_ ?_
    · refine J_iload_n (pc' := 30) ok (dOf dX10_told 17 rfl) rfl rfl rfl ?_
      refine J_iconst (v := 1) (pc' := 31) ok (dOf dX10_told 18 rfl) rfl (by decide) ?_
      refine J_icmp_lt (tgt := 44) (pc' := 34) ok (dOf dX10_told 19 rfl) rfl (by decide) ?_ ?_
      · exact Sp_told_j44_J ok v0 v1 v2 a2 h3
      · refine J_aload_n (pc' := 35) ok (dOf dX10_told 20 rfl) rfl rfl rfl ?_
        refine J_iload_n (pc' := 36) ok (dOf dX10_told 21 rfl) rfl rfl rfl ?_
        refine J_iconst (v := 1) (pc' := 37) ok (dOf dX10_told 22 rfl) rfl (by decide) ?_
        refine J_isub (pc' := 38) ok (dOf dX10_told 23 rfl) rfl ?_
        refine J_callVi (k2 := kProg_hasSite) (ci := 6) (T := TX6) (N := 9) (as := [.int (v2 - 1)]) (pc' := 41) ok (dOf dX10_told 24 rfl) rfl (cw_Prog_hasSite (by decide) (by decide)) wml_X10_159 winst_X6_hasSite wsel_X6_hasSite rfl ⟨Nat.le_refl 0, Nat.le_refl 0⟩ (Nat.le_of_ble_eq_true rfl) rfl (fun _ _ hf => t_Prog_hasSite hf) (fun x6 h5 => ?_)
        refine J_if_ne (tgt := 46) (pc' := 44) ok (dOf dX10_told 25 rfl) rfl (by decide) ?_ ?_
        · refine J_aload_n (pc' := 47) ok (dOf dX10_told 28 rfl) rfl rfl rfl ?_
          refine J_getR (ci := 6) (kf := 8) (C := RX6) (T := TX6) (N := 9) (pc' := 50) ok (dOf dX10_told 29 rfl) rfl (by decide) rfl (by decide) win_6 wfl_X10_174 (fun a7 => ?_)
          refine J_iload_n (pc' := 51) ok (dOf dX10_told 30 rfl) rfl rfl rfl ?_
          refine J_bipush (v := 6) (pc' := 53) ok (dOf dX10_told 31 rfl) rfl (by decide) ?_
          refine J_imul (pc' := 54) ok (dOf dX10_told 32 rfl) rfl ?_
          refine J_iload_n (pc' := 55) ok (dOf dX10_told 33 rfl) rfl rfl rfl ?_
          refine J_iadd (pc' := 56) ok (dOf dX10_told 34 rfl) rfl ?_
          refine J_iconst (v := 1) (pc' := 57) ok (dOf dX10_told 35 rfl) rfl (by decide) ?_
          refine J_isub (pc' := 58) ok (dOf dX10_told 36 rfl) rfl ?_
          refine J_iald (pc' := 59) ok (dOf dX10_told 37 rfl) rfl (fun x8 => ?_)
          exact J_ireturn ok (dOf dX10_told 38 rfl) rfl (Eq.refl 0) (Nat.le_refl 0)
        · exact Sp_told_j44_J ok v0 v1 v2 a2 h5
    · refine J_aload_n (pc' := 23) ok (dOf dX10_told 12 rfl) rfl rfl rfl ?_
      refine J_getR (ci := 6) (kf := 7) (C := RX6) (T := TX6) (N := 9) (pc' := 26) ok (dOf dX10_told 13 rfl) rfl (by decide) rfl (by decide) win_6 wfl_X10_225 (fun a9 => ?_)
      refine J_iload_n (pc' := 27) ok (dOf dX10_told 14 rfl) rfl rfl rfl ?_
      refine J_iald (pc' := 28) ok (dOf dX10_told 15 rfl) rfl (fun x10 => ?_)
      exact J_ireturn ok (dOf dX10_told 16 rfl) rfl (Eq.refl 0) (Nat.le_refl 0)
  · refine J_iconst (v := (-1)) (pc' := 17) ok (dOf dX10_told 8 rfl) rfl (by decide) ?_
    exact J_ireturn ok (dOf dX10_told 9 rfl) rfl (Eq.refl 0) (Nat.le_refl 0)
-- X2_countRays
abbrev kCuts_countRays : Cd := (yX2_countRays, cX2_countRays, 3, (some .int), 0, 0)
theorem dX2_countRays : dcheck cX2_countRays [(0, .iconst 0, 1), (1, .istore_n 1, 1), (2, .iconst 0, 1), (3, .istore_n 2, 1), (4, .iload_n 2, 1), (5, .aload_n 0, 1), (6, .getfield 31, 3), (9, .if_icmp .ge 18, 3), (12, .iload_n 1, 1), (13, .aload_n 0, 1), (14, .getfield 19, 3), (17, .iload_n 2, 1), (18, .iaload, 1), (19, .iadd, 1), (20, .istore_n 1, 1), (21, .iinc 2 1, 3), (24, .goto (-20), 3), (27, .iload_n 1, 1), (28, .ireturn, 1)] = true := by decide +kernel
theorem cw_Cuts_countRays {k : Cd} (h1 : kCuts_countRays.2.2.2.2.1 + 1 ≤ k.2.2.2.2.1) (h2 : 8 + (kCuts_countRays.2.2.1 + 11) + kCuts_countRays.2.2.2.2.2 ≤ k.2.2.2.2.2) : Cw k kCuts_countRays 0 := ⟨wcode_X2_countRays, wini_SplitProgram_Cuts, ⟨by decide, by decide, by decide +kernel⟩, h1, h2⟩
def Cuts_countRays_b4 (v0 : Nat) (h : AHeap) (s : Int32 × Int32) : Option ((Int32 × Int32) ⊕ ((Int32 × Int32))) :=
  (gfI h v0 2 1).bind fun x1 => (if x1 ≤ s.2 then some (Sum.inr (s.1, s.2)) else (gfR h v0 2 3).bind fun a2 => (ald 0 h a2 s.2).bind fun x3 => some (Sum.inl (s.1 + x3, s.2 + 1)))
theorem Cuts_countRays_b4_J {E : JE} {l : Launch} {G : GX} {r : Option Value} {h' : AHeap} (ok : JOK E l G kCuts_countRays 0 0 r h') (v0 : Nat) (h : AHeap) {Y : (Int32 × Int32) ⊕ ((Int32 × Int32)) → Prop} (k1 : ∀ s' : Int32 × Int32, Y (.inl s') → JW E kCuts_countRays 4 [some (.ref v0), some (.int s'.1), some (.int s'.2)] [] h 0 0) (kx27 : ∀ q : Int32 × Int32, Y (.inr q) → JW E kCuts_countRays 27 [some (.ref v0), some (.int q.1), some (.int q.2)] [] h 0 0) (s : Int32 × Int32) : J E kCuts_countRays (Cuts_countRays_b4 v0 h s) Y 4 [some (.ref v0), some (.int s.1), some (.int s.2)] [] h 0 0 := by
  unfold Cuts_countRays_b4
  refine J_iload_n (pc' := 5) ok (dOf dX2_countRays 4 rfl) rfl rfl rfl ?_
  refine J_aload_n (pc' := 6) ok (dOf dX2_countRays 5 rfl) rfl rfl rfl ?_
  refine J_getI (ci := 2) (kf := 1) (C := RX2) (T := TX2) (N := 7) (pc' := 9) ok (dOf dX2_countRays 6 rfl) rfl (by decide) rfl (by decide) win_2 wfl_X2_31 (fun x1 => ?_)
  refine J_icmp_ge (tgt := 27) (pc' := 12) ok (dOf dX2_countRays 7 rfl) rfl (by decide) ?_ ?_
  · exact J_fin (kx27 (s.1, s.2))
  · refine J_iload_n (pc' := 13) ok (dOf dX2_countRays 8 rfl) rfl rfl rfl ?_
    refine J_aload_n (pc' := 14) ok (dOf dX2_countRays 9 rfl) rfl rfl rfl ?_
    refine J_getR (ci := 2) (kf := 3) (C := RX2) (T := TX2) (N := 7) (pc' := 17) ok (dOf dX2_countRays 10 rfl) rfl (by decide) rfl (by decide) win_2 wfl_X2_19 (fun a2 => ?_)
    refine J_iload_n (pc' := 18) ok (dOf dX2_countRays 11 rfl) rfl rfl rfl ?_
    refine J_iald (pc' := 19) ok (dOf dX2_countRays 12 rfl) rfl (fun x3 => ?_)
    refine J_iadd (pc' := 20) ok (dOf dX2_countRays 13 rfl) rfl ?_
    refine J_istore_n (ls' := [some (.ref v0), some (.int (s.1 + x3)), some (.int s.2)]) (pc' := 21) ok (dOf dX2_countRays 14 rfl) rfl rfl (Nat.le_of_ble_eq_true rfl) rfl rfl ?_
    refine J_iinc (v := s.2 + 1) (ls' := [some (.ref v0), some (.int (s.1 + x3)), some (.int (s.2 + 1))]) (pc' := 24) ok (dOf dX2_countRays 15 rfl) rfl rfl (by rfl) (Nat.le_of_ble_eq_true rfl) rfl rfl ?_
    refine J_goto (tgt := 4) ok (dOf dX2_countRays 16 rfl) (by decide) ?_
    exact J_fin (k1 (s.1 + x3, s.2 + 1))
def Cuts_countRays_j27 (v0 : Nat) (v1 : Int32) (v2 : Int32) (h : AHeap) : Option (Int32 × AHeap) :=
  some (v1, h)
theorem Cuts_countRays_j27_J {E : JE} {l : Launch} {G : GX} {v : Int32} {h' : AHeap} (ok : JOK E l G kCuts_countRays 0 0 (some (.int v)) h') (v0 : Nat) (v1 : Int32) (v2 : Int32) (h : AHeap) : J E kCuts_countRays (Cuts_countRays_j27 v0 v1 v2 h) (fun z => z = (v, h')) 27 [some (.ref v0), some (.int v1), some (.int v2)] [] h 0 0 := by
  unfold Cuts_countRays_j27
  refine J_iload_n (pc' := 28) ok (dOf dX2_countRays 17 rfl) rfl rfl rfl ?_
  exact J_ireturn ok (dOf dX2_countRays 18 rfl) rfl (Eq.refl 0) (Nat.le_refl 0)
def Cuts_countRays (v0 : Nat) (h : AHeap) : Option (Int32 × AHeap) :=
  (iter (Cuts_countRays_b4 v0 h) Lmax (0, 0)).bind (fun (q4 : Int32 × Int32) => Cuts_countRays_j27 v0 q4.1 q4.2 h)
theorem t_Cuts_countRays {l : Launch} {G : GX} {v0 : Nat} {h : AHeap} {v : Int32} {h1 : AHeap} (hf : Cuts_countRays v0 h = some (v, h1)) : CT l G kCuts_countRays 0 0 [.ref v0] h (some (.int v)) h1 := by
  refine CT_of (ls := [some (.ref v0), none, none]) (Z := fun z => z = (v, h1)) (by decide +kernel) (Nat.le_of_ble_eq_true rfl) hf rfl ⟨rfl, trivial⟩ (fun E ok => ?_)
  unfold Cuts_countRays
  refine J_iconst (v := 0) (pc' := 1) ok (dOf dX2_countRays 0 rfl) rfl (by decide) ?_
  refine J_istore_n (ls' := [some (.ref v0), some (.int 0), none]) (pc' := 2) ok (dOf dX2_countRays 1 rfl) rfl rfl (Nat.le_of_ble_eq_true rfl) rfl rfl ?_
  refine J_iconst (v := 0) (pc' := 3) ok (dOf dX2_countRays 2 rfl) rfl (by decide) ?_
  refine J_istore_n (ls' := [some (.ref v0), some (.int 0), some (.int 0)]) (pc' := 4) ok (dOf dX2_countRays 3 rfl) rfl rfl (Nat.le_of_ble_eq_true rfl) rfl rfl ?_
  refine J_iter (lf := fun z4 => [some (.ref v0), some (.int z4.1), some (.int z4.2)]) (sf := fun _ => []) (hf := fun z4 => h) (px := (fun (q4 : Int32 × Int32) => 27)) (lx := (fun (q4 : Int32 × Int32) => [some (.ref v0), some (.int q4.1), some (.int q4.2)])) (sx := (fun (q4 : Int32 × Int32) => [])) (hx := (fun (q4 : Int32 × Int32) => h)) (fun Y2 z4 m1 m2 => Cuts_countRays_b4_J ok v0 h m1 m2 z4) (fun q4 => ?_) Lmax _
  exact Cuts_countRays_j27_J ok v0 q4.1 q4.2 h
-- X10_now
abbrev kSp_now : Cd := (yX10_now, cX10_now, 3, (some .int), 1, 22)
theorem dX10_now : dcheck cX10_now [(0, .aload_n 0, 1), (1, .getfield 10, 3), (4, .getfield 187, 3), (7, .astore_n 2, 1), (8, .iload_n 1, 1), (9, .tableswitch 108 0 8 #[51, 56, 61, 66, 71, 76, 81, 92, 103], 51), (60, .aload_n 2, 1), (61, .getfield 190, 3), (64, .ireturn, 1), (65, .aload_n 2, 1), (66, .getfield 228, 3), (69, .ireturn, 1), (70, .aload_n 2, 1), (71, .getfield 231, 3), (74, .ireturn, 1), (75, .aload_n 2, 1), (76, .getfield 234, 3), (79, .ireturn, 1), (80, .aload_n 2, 1), (81, .getfield 237, 3), (84, .ireturn, 1), (85, .aload_n 2, 1), (86, .getfield 240, 3), (89, .ireturn, 1), (90, .aload_n 0, 1), (91, .getfield 10, 3), (94, .getfield 120, 3), (97, .getfield 123, 3), (100, .ireturn, 1), (101, .aload_n 0, 1), (102, .getfield 10, 3), (105, .getfield 120, 3), (108, .invokevirtual 243, 3), (111, .ireturn, 1), (112, .aload_n 2, 1), (113, .getfield 247, 3), (116, .ireturn, 1), (117, .iconst (-1), 1), (118, .ireturn, 1)] = true := by decide +kernel
theorem cw_Sp_now {k : Cd} (h1 : kSp_now.2.2.2.2.1 + 1 ≤ k.2.2.2.2.1) (h2 : 8 + (kSp_now.2.2.1 + 11) + kSp_now.2.2.2.2.2 ≤ k.2.2.2.2.2) : Cw k kSp_now 1 := ⟨wcode_X10_now, wini_SplitProgram, ⟨by decide, by decide, by decide +kernel⟩, h1, h2⟩
def Sp_now (v0 : Nat) (v1 : Int32) (h : AHeap) : Option (Int32 × AHeap) :=
  (gfR h v0 10 0).bind fun a1 => (gfR h a1 8 2).bind fun a2 => swi v1 0 [(gfI h a2 7 0).bind fun x3 => some (x3, h), (gfI h a2 7 1).bind fun x4 => some (x4, h), (gfI h a2 7 2).bind fun x5 => some (x5, h), (gfI h a2 7 3).bind fun x6 => some (x6, h), (gfI h a2 7 4).bind fun x7 => some (x7, h), (gfI h a2 7 5).bind fun x8 => some (x8, h), (gfR h v0 10 0).bind fun a9 => (gfR h a9 8 1).bind fun a10 => (gfI h a10 2 1).bind fun x11 => some (x11, h), (gfR h v0 10 0).bind fun a12 => (gfR h a12 8 1).bind fun a13 => (chk h a13 2).bind fun _ => bnd2 (Cuts_countRays a13 h) fun x15 h14 => some (x15, h14), (gfI h a2 7 6).bind fun x16 => some (x16, h)] (some ((-1), h))
theorem t_Sp_now {l : Launch} {G : GX} {v0 : Nat} {v1 : Int32} {h : AHeap} {v : Int32} {h1 : AHeap} (hf : Sp_now v0 v1 h = some (v, h1)) : CT l G kSp_now 0 0 [.ref v0, .int v1] h (some (.int v)) h1 := by
  refine CT_of (ls := [some (.ref v0), some (.int v1), none]) (Z := fun z => z = (v, h1)) (by decide +kernel) (Nat.le_of_ble_eq_true rfl) hf rfl ⟨rfl, rfl, trivial⟩ (fun E ok => ?_)
  unfold Sp_now
  refine J_aload_n (pc' := 1) ok (dOf dX10_now 0 rfl) rfl rfl rfl ?_
  refine J_getR (ci := 10) (kf := 0) (C := RX10) (T := TX10) (N := 14) (pc' := 4) ok (dOf dX10_now 1 rfl) rfl (by decide) rfl (by decide) win_10 wfl_X10_10 (fun a1 => ?_)
  refine J_getR (ci := 8) (kf := 2) (C := RX8) (T := TX8) (N := 3) (pc' := 7) ok (dOf dX10_now 2 rfl) rfl (by decide) rfl (by decide) win_8 wfl_X10_187 (fun a2 => ?_)
  refine J_astore_n (ls' := [some (.ref v0), some (.int v1), some (.ref a2)]) (pc' := 8) ok (dOf dX10_now 3 rfl) rfl rfl (Nat.le_of_ble_eq_true rfl) rfl rfl ?_
  refine J_iload_n (pc' := 9) ok (dOf dX10_now 4 rfl) rfl rfl rfl ?_
  refine J_tsw (tgd := 117) ok [60, 65, 70, 75, 80, 85, 90, 101, 112] (dOf dX10_now 5 rfl) rfl rfl (by decide) rfl ?_ (allJ_at _ _ ⟨?_, ?_, ?_, ?_, ?_, ?_, ?_, ?_, ?_, trivial⟩)
  · refine J_iconst (v := (-1)) (pc' := 118) ok (dOf dX10_now 37 rfl) rfl (by decide) ?_
    exact J_ireturn ok (dOf dX10_now 38 rfl) rfl (Eq.refl 0) (Nat.le_refl 0)
  · refine J_aload_n (pc' := 61) ok (dOf dX10_now 6 rfl) rfl rfl rfl ?_
    refine J_getI (ci := 7) (kf := 0) (C := RX7) (T := TX7) (N := 7) (pc' := 64) ok (dOf dX10_now 7 rfl) rfl (by decide) rfl (by decide) win_7 wfl_X10_190 (fun x3 => ?_)
    exact J_ireturn ok (dOf dX10_now 8 rfl) rfl (Eq.refl 0) (Nat.le_refl 0)
  · refine J_aload_n (pc' := 66) ok (dOf dX10_now 9 rfl) rfl rfl rfl ?_
    refine J_getI (ci := 7) (kf := 1) (C := RX7) (T := TX7) (N := 7) (pc' := 69) ok (dOf dX10_now 10 rfl) rfl (by decide) rfl (by decide) win_7 wfl_X10_228 (fun x4 => ?_)
    exact J_ireturn ok (dOf dX10_now 11 rfl) rfl (Eq.refl 0) (Nat.le_refl 0)
  · refine J_aload_n (pc' := 71) ok (dOf dX10_now 12 rfl) rfl rfl rfl ?_
    refine J_getI (ci := 7) (kf := 2) (C := RX7) (T := TX7) (N := 7) (pc' := 74) ok (dOf dX10_now 13 rfl) rfl (by decide) rfl (by decide) win_7 wfl_X10_231 (fun x5 => ?_)
    exact J_ireturn ok (dOf dX10_now 14 rfl) rfl (Eq.refl 0) (Nat.le_refl 0)
  · refine J_aload_n (pc' := 76) ok (dOf dX10_now 15 rfl) rfl rfl rfl ?_
    refine J_getI (ci := 7) (kf := 3) (C := RX7) (T := TX7) (N := 7) (pc' := 79) ok (dOf dX10_now 16 rfl) rfl (by decide) rfl (by decide) win_7 wfl_X10_234 (fun x6 => ?_)
    exact J_ireturn ok (dOf dX10_now 17 rfl) rfl (Eq.refl 0) (Nat.le_refl 0)
  · refine J_aload_n (pc' := 81) ok (dOf dX10_now 18 rfl) rfl rfl rfl ?_
    refine J_getI (ci := 7) (kf := 4) (C := RX7) (T := TX7) (N := 7) (pc' := 84) ok (dOf dX10_now 19 rfl) rfl (by decide) rfl (by decide) win_7 wfl_X10_237 (fun x7 => ?_)
    exact J_ireturn ok (dOf dX10_now 20 rfl) rfl (Eq.refl 0) (Nat.le_refl 0)
  · refine J_aload_n (pc' := 86) ok (dOf dX10_now 21 rfl) rfl rfl rfl ?_
    refine J_getI (ci := 7) (kf := 5) (C := RX7) (T := TX7) (N := 7) (pc' := 89) ok (dOf dX10_now 22 rfl) rfl (by decide) rfl (by decide) win_7 wfl_X10_240 (fun x8 => ?_)
    exact J_ireturn ok (dOf dX10_now 23 rfl) rfl (Eq.refl 0) (Nat.le_refl 0)
  · refine J_aload_n (pc' := 91) ok (dOf dX10_now 24 rfl) rfl rfl rfl ?_
    refine J_getR (ci := 10) (kf := 0) (C := RX10) (T := TX10) (N := 14) (pc' := 94) ok (dOf dX10_now 25 rfl) rfl (by decide) rfl (by decide) win_10 wfl_X10_10 (fun a9 => ?_)
    refine J_getR (ci := 8) (kf := 1) (C := RX8) (T := TX8) (N := 3) (pc' := 97) ok (dOf dX10_now 26 rfl) rfl (by decide) rfl (by decide) win_8 wfl_X10_120 (fun a10 => ?_)
    refine J_getI (ci := 2) (kf := 1) (C := RX2) (T := TX2) (N := 7) (pc' := 100) ok (dOf dX10_now 27 rfl) rfl (by decide) rfl (by decide) win_2 wfl_X10_123 (fun x11 => ?_)
    exact J_ireturn ok (dOf dX10_now 28 rfl) rfl (Eq.refl 0) (Nat.le_refl 0)
  · refine J_aload_n (pc' := 102) ok (dOf dX10_now 29 rfl) rfl rfl rfl ?_
    refine J_getR (ci := 10) (kf := 0) (C := RX10) (T := TX10) (N := 14) (pc' := 105) ok (dOf dX10_now 30 rfl) rfl (by decide) rfl (by decide) win_10 wfl_X10_10 (fun a12 => ?_)
    refine J_getR (ci := 8) (kf := 1) (C := RX8) (T := TX8) (N := 3) (pc' := 108) ok (dOf dX10_now 31 rfl) rfl (by decide) rfl (by decide) win_8 wfl_X10_120 (fun a13 => ?_)
    refine J_callVi (k2 := kCuts_countRays) (ci := 2) (T := TX2) (N := 7) (as := []) (pc' := 111) ok (dOf dX10_now 32 rfl) rfl (cw_Cuts_countRays (by decide) (by decide)) wml_X10_243 winst_X2_countRays wsel_X2_countRays rfl ⟨Nat.le_refl 0, Nat.le_refl 0⟩ (Nat.le_of_ble_eq_true rfl) rfl (fun _ _ hf => t_Cuts_countRays hf) (fun x15 h14 => ?_)
    exact J_ireturn ok (dOf dX10_now 33 rfl) rfl (Eq.refl 0) (Nat.le_refl 0)
  · refine J_aload_n (pc' := 113) ok (dOf dX10_now 34 rfl) rfl rfl rfl ?_
    refine J_getI (ci := 7) (kf := 6) (C := RX7) (T := TX7) (N := 7) (pc' := 116) ok (dOf dX10_now 35 rfl) rfl (by decide) rfl (by decide) win_7 wfl_X10_247 (fun x16 => ?_)
    exact J_ireturn ok (dOf dX10_now 36 rfl) rfl (Eq.refl 0) (Nat.le_refl 0)
-- X10_bitsOfFloat
abbrev kSp_bitsOfFloat : Cd := (yX10_bitsOfFloat, cX10_bitsOfFloat, 4, (some .int), 0, 0)
theorem dX10_bitsOfFloat : dcheck cX10_bitsOfFloat [(0, .fload_n 0, 1), (1, .fconst 0, 1), (2, .fcmp .l, 1), (3, .ifCond .gt 5, 3), (6, .iconst 0, 1), (7, .ireturn, 1), (8, .fload_n 0, 1), (9, .fstore_n 1, 1), (10, .bipush 127, 2), (12, .istore_n 2, 1), (13, .iconst 0, 1), (14, .istore_n 3, 1), (15, .iload_n 3, 1), (16, .bipush 126, 2), (18, .if_icmp .ge 22, 3), (21, .fload_n 1, 1), (22, .fconst 1, 1), (23, .fcmp .g, 1), (24, .ifCond .ge 16, 3), (27, .fload_n 1, 1), (28, .fconst 2, 1), (29, .fmul, 1), (30, .fstore_n 1, 1), (31, .iinc 2 (-1), 3), (34, .iinc 3 1, 3), (37, .goto (-22), 3), (40, .fload_n 1, 1), (41, .ldc_w 357, 3), (44, .fmul, 1), (45, .f2i, 1), (46, .istore_n 3, 1), (47, .iload_n 2, 1), (48, .bipush 23, 2), (50, .ishl, 1), (51, .iload_n 3, 1), (52, .ldc_w 358, 3), (55, .iand, 1), (56, .ior, 1), (57, .ireturn, 1)] = true := by decide +kernel
theorem cw_Sp_bitsOfFloat {k : Cd} (h1 : kSp_bitsOfFloat.2.2.2.2.1 + 1 ≤ k.2.2.2.2.1) (h2 : 8 + (kSp_bitsOfFloat.2.2.1 + 11) + kSp_bitsOfFloat.2.2.2.2.2 ≤ k.2.2.2.2.2) : Cw k kSp_bitsOfFloat 1 := ⟨wcode_X10_bitsOfFloat, wini_SplitProgram, ⟨by decide, by decide, by decide +kernel⟩, h1, h2⟩
def Sp_bitsOfFloat_b15 (v0 : UInt32) (h : AHeap) (s : UInt32 × Int32 × Int32) : Option ((UInt32 × Int32 × Int32) ⊕ ((UInt32 × Int32 × Int32))) :=
  (if 126 ≤ s.2.2 then some (Sum.inr (s.1, s.2.1, s.2.2)) else (if 0 ≤ (Op.cmpValue (FP.fcmp s.1 FP.fconst1) .g) then some (Sum.inr (s.1, s.2.1, s.2.2)) else (n32 (FP.fmul s.1 FP.fconst2)).bind fun x1 => some (Sum.inl (x1, s.2.1 + (-1), s.2.2 + 1))))
theorem Sp_bitsOfFloat_b15_J {E : JE} {l : Launch} {G : GX} {r : Option Value} {h' : AHeap} (ok : JOK E l G kSp_bitsOfFloat 0 0 r h') (v0 : UInt32) (h : AHeap) {Y : (UInt32 × Int32 × Int32) ⊕ ((UInt32 × Int32 × Int32)) → Prop} (k1 : ∀ s' : UInt32 × Int32 × Int32, Y (.inl s') → JW E kSp_bitsOfFloat 15 [some (.float v0), some (.float s'.1), some (.int s'.2.1), some (.int s'.2.2)] [] h 0 0) (kx40 : ∀ q : UInt32 × Int32 × Int32, Y (.inr q) → JW E kSp_bitsOfFloat 40 [some (.float v0), some (.float q.1), some (.int q.2.1), some (.int q.2.2)] [] h 0 0) (s : UInt32 × Int32 × Int32) : J E kSp_bitsOfFloat (Sp_bitsOfFloat_b15 v0 h s) Y 15 [some (.float v0), some (.float s.1), some (.int s.2.1), some (.int s.2.2)] [] h 0 0 := by
  unfold Sp_bitsOfFloat_b15
  refine J_iload_n (pc' := 16) ok (dOf dX10_bitsOfFloat 12 rfl) rfl rfl rfl ?_
  refine J_bipush (v := 126) (pc' := 18) ok (dOf dX10_bitsOfFloat 13 rfl) rfl (by decide) ?_
  refine J_icmp_ge (tgt := 40) (pc' := 21) ok (dOf dX10_bitsOfFloat 14 rfl) rfl (by decide) ?_ ?_
  · exact J_fin (kx40 (s.1, s.2.1, s.2.2))
  · refine J_fload_n (pc' := 22) ok (dOf dX10_bitsOfFloat 15 rfl) rfl rfl rfl ?_
    refine J_fconst1 (pc' := 23) ok (dOf dX10_bitsOfFloat 16 rfl) rfl ?_
    refine J_fcmp (pc' := 24) ok (dOf dX10_bitsOfFloat 17 rfl) rfl ?_
    refine J_if_ge (tgt := 40) (pc' := 27) ok (dOf dX10_bitsOfFloat 18 rfl) rfl (by decide) ?_ ?_
    · exact J_fin (kx40 (s.1, s.2.1, s.2.2))
    · refine J_fload_n (pc' := 28) ok (dOf dX10_bitsOfFloat 19 rfl) rfl rfl rfl ?_
      refine J_fconst2 (pc' := 29) ok (dOf dX10_bitsOfFloat 20 rfl) rfl ?_
      refine J_fmul (pc' := 30) ok (dOf dX10_bitsOfFloat 21 rfl) rfl ?_
      refine J_fstore_n (ls' := [some (.float v0), some (.float (FP.fmul s.1 FP.fconst2)), some (.int s.2.1), some (.int s.2.2)]) (pc' := 31) ok (dOf dX10_bitsOfFloat 22 rfl) rfl rfl (Nat.le_of_ble_eq_true rfl) rfl rfl ?_
      refine J_iinc (v := s.2.1 + (-1)) (ls' := [some (.float v0), some (.float (FP.fmul s.1 FP.fconst2)), some (.int (s.2.1 + (-1))), some (.int s.2.2)]) (pc' := 34) ok (dOf dX10_bitsOfFloat 23 rfl) rfl rfl (by rfl) (Nat.le_of_ble_eq_true rfl) rfl rfl ?_
      refine J_iinc (v := s.2.2 + 1) (ls' := [some (.float v0), some (.float (FP.fmul s.1 FP.fconst2)), some (.int (s.2.1 + (-1))), some (.int (s.2.2 + 1))]) (pc' := 37) ok (dOf dX10_bitsOfFloat 24 rfl) rfl rfl (by rfl) (Nat.le_of_ble_eq_true rfl) rfl rfl ?_
      refine J_goto (tgt := 15) ok (dOf dX10_bitsOfFloat 25 rfl) (by decide) ?_
      exact J_fin (k1 ((FP.fmul s.1 FP.fconst2), s.2.1 + (-1), s.2.2 + 1))
def Sp_bitsOfFloat_j40 (v0 : UInt32) (v1 : UInt32) (v2 : Int32) (v3 : Int32) (h : AHeap) : Option (Int32 × AHeap) :=
  (n32 (FP.fmul v1 1258291200)).bind fun x2 => some ((v2 <<< (23 &&& 31)) ||| ((FP.f2i x2) &&& 8388607), h)
theorem Sp_bitsOfFloat_j40_J {E : JE} {l : Launch} {G : GX} {v : Int32} {h' : AHeap} (ok : JOK E l G kSp_bitsOfFloat 0 0 (some (.int v)) h') (v0 : UInt32) (v1 : UInt32) (v2 : Int32) (v3 : Int32) (h : AHeap) : J E kSp_bitsOfFloat (Sp_bitsOfFloat_j40 v0 v1 v2 v3 h) (fun z => z = (v, h')) 40 [some (.float v0), some (.float v1), some (.int v2), some (.int v3)] [] h 0 0 := by
  unfold Sp_bitsOfFloat_j40
  refine J_fload_n (pc' := 41) ok (dOf dX10_bitsOfFloat 26 rfl) rfl rfl rfl ?_
  refine J_ldcwf (v := 1258291200) (pc' := 44) ok (dOf dX10_bitsOfFloat 27 rfl) rfl wconf_X10_357 ?_
  refine J_fmul (pc' := 45) ok (dOf dX10_bitsOfFloat 28 rfl) rfl ?_
  refine J_f2i (pc' := 46) ok (dOf dX10_bitsOfFloat 29 rfl) rfl ?_
  refine J_istore_n (ls' := [some (.float v0), some (.float v1), some (.int v2), some (.int (FP.f2i (FP.fmul v1 1258291200)))]) (pc' := 47) ok (dOf dX10_bitsOfFloat 30 rfl) rfl rfl (Nat.le_of_ble_eq_true rfl) rfl rfl ?_
  refine J_iload_n (pc' := 48) ok (dOf dX10_bitsOfFloat 31 rfl) rfl rfl rfl ?_
  refine J_bipush (v := 23) (pc' := 50) ok (dOf dX10_bitsOfFloat 32 rfl) rfl (by decide) ?_
  refine J_ishl (pc' := 51) ok (dOf dX10_bitsOfFloat 33 rfl) rfl ?_
  refine J_iload_n (pc' := 52) ok (dOf dX10_bitsOfFloat 34 rfl) rfl rfl rfl ?_
  refine J_ldcw (v := 8388607) (pc' := 55) ok (dOf dX10_bitsOfFloat 35 rfl) rfl wcon_X10_358 ?_
  refine J_iand (pc' := 56) ok (dOf dX10_bitsOfFloat 36 rfl) rfl ?_
  refine J_ior (pc' := 57) ok (dOf dX10_bitsOfFloat 37 rfl) rfl ?_
  exact J_ireturn ok (dOf dX10_bitsOfFloat 38 rfl) rfl (Eq.refl 0) (Nat.le_refl 0)
def Sp_bitsOfFloat (v0 : UInt32) (h : AHeap) : Option (Int32 × AHeap) :=
  (if 0 < (Op.cmpValue (FP.fcmp v0 FP.fconst0) .l) then (iter (Sp_bitsOfFloat_b15 v0 h) Lmax (v0, 127, 0)).bind (fun (q15 : UInt32 × Int32 × Int32) => Sp_bitsOfFloat_j40 v0 q15.1 q15.2.1 q15.2.2 h) else some (0, h))
theorem t_Sp_bitsOfFloat {l : Launch} {G : GX} {v0 : UInt32} {h : AHeap} {v : Int32} {h1 : AHeap} (hf : Sp_bitsOfFloat v0 h = some (v, h1)) : CT l G kSp_bitsOfFloat 0 0 [.float v0] h (some (.int v)) h1 := by
  refine CT_of (ls := [some (.float v0), none, none, none]) (Z := fun z => z = (v, h1)) (by decide +kernel) (Nat.le_of_ble_eq_true rfl) hf rfl ⟨rfl, trivial⟩ (fun E ok => ?_)
  unfold Sp_bitsOfFloat
  refine J_fload_n (pc' := 1) ok (dOf dX10_bitsOfFloat 0 rfl) rfl rfl rfl ?_
  refine J_fconst0 (pc' := 2) ok (dOf dX10_bitsOfFloat 1 rfl) rfl ?_
  refine J_fcmp (pc' := 3) ok (dOf dX10_bitsOfFloat 2 rfl) rfl ?_
  refine J_if_gt (tgt := 8) (pc' := 6) ok (dOf dX10_bitsOfFloat 3 rfl) rfl (by decide) ?_ ?_
  · refine J_fload_n (pc' := 9) ok (dOf dX10_bitsOfFloat 6 rfl) rfl rfl rfl ?_
    refine J_fstore_n (ls' := [some (.float v0), some (.float v0), none, none]) (pc' := 10) ok (dOf dX10_bitsOfFloat 7 rfl) rfl rfl (Nat.le_of_ble_eq_true rfl) rfl rfl ?_
    refine J_bipush (v := 127) (pc' := 12) ok (dOf dX10_bitsOfFloat 8 rfl) rfl (by decide) ?_
    refine J_istore_n (ls' := [some (.float v0), some (.float v0), some (.int 127), none]) (pc' := 13) ok (dOf dX10_bitsOfFloat 9 rfl) rfl rfl (Nat.le_of_ble_eq_true rfl) rfl rfl ?_
    refine J_iconst (v := 0) (pc' := 14) ok (dOf dX10_bitsOfFloat 10 rfl) rfl (by decide) ?_
    refine J_istore_n (ls' := [some (.float v0), some (.float v0), some (.int 127), some (.int 0)]) (pc' := 15) ok (dOf dX10_bitsOfFloat 11 rfl) rfl rfl (Nat.le_of_ble_eq_true rfl) rfl rfl ?_
    refine J_iter (lf := fun z15 => [some (.float v0), some (.float z15.1), some (.int z15.2.1), some (.int z15.2.2)]) (sf := fun _ => []) (hf := fun z15 => h) (px := (fun (q15 : UInt32 × Int32 × Int32) => 40)) (lx := (fun (q15 : UInt32 × Int32 × Int32) => [some (.float v0), some (.float q15.1), some (.int q15.2.1), some (.int q15.2.2)])) (sx := (fun (q15 : UInt32 × Int32 × Int32) => [])) (hx := (fun (q15 : UInt32 × Int32 × Int32) => h)) (fun Y2 z15 m1 m2 => Sp_bitsOfFloat_b15_J ok v0 h m1 m2 z15) (fun q15 => ?_) Lmax _
    exact Sp_bitsOfFloat_j40_J ok v0 q15.1 q15.2.1 q15.2.2 h
  · refine J_iconst (v := 0) (pc' := 7) ok (dOf dX10_bitsOfFloat 4 rfl) rfl (by decide) ?_
    exact J_ireturn ok (dOf dX10_bitsOfFloat 5 rfl) rfl (Eq.refl 0) (Nat.le_refl 0)
-- X10_gap
abbrev kSp_gap : Cd := (yX10_gap, cX10_gap, 2, (some .int), 1, 23)
theorem dX10_gap : dcheck cX10_gap [(0, .aload_n 0, 1), (1, .getfield 10, 3), (4, .getfield 187, 3), (7, .astore_n 1, 1), (8, .aload_n 1, 1), (9, .getfield 231, 3), (12, .iconst (-1), 1), (13, .if_icmp .ne 5, 3), (16, .iconst (-1), 1), (17, .ireturn, 1), (18, .aload_n 1, 1), (19, .getfield 228, 3), (22, .aload_n 1, 1), (23, .getfield 231, 3), (26, .invokestatic 250, 3), (29, .invokestatic 254, 3), (32, .ireturn, 1)] = true := by decide +kernel
theorem cw_Sp_gap {k : Cd} (h1 : kSp_gap.2.2.2.2.1 + 1 ≤ k.2.2.2.2.1) (h2 : 8 + (kSp_gap.2.2.1 + 11) + kSp_gap.2.2.2.2.2 ≤ k.2.2.2.2.2) : Cw k kSp_gap 0 := ⟨wcode_X10_gap, wini_SplitProgram, ⟨by decide, by decide, by decide +kernel⟩, h1, h2⟩
def Sp_gap (v0 : Nat) (h : AHeap) : Option (Int32 × AHeap) :=
  (gfR h v0 10 0).bind fun a1 => (gfR h a1 8 2).bind fun a2 => (gfI h a2 7 2).bind fun x3 => (if ¬ x3 = (-1) then (gfI h a2 7 1).bind fun x4 => (gfI h a2 7 2).bind fun x5 => bnd2 (Sp_gapBetween x4 x5 h) fun x7 h6 => bnd2 (Sp_bitsOfFloat x7 h6) fun x9 h8 => some (x9, h8) else some ((-1), h))
theorem t_Sp_gap {l : Launch} {G : GX} {v0 : Nat} {h : AHeap} {v : Int32} {h1 : AHeap} (hf : Sp_gap v0 h = some (v, h1)) : CT l G kSp_gap 0 0 [.ref v0] h (some (.int v)) h1 := by
  refine CT_of (ls := [some (.ref v0), none]) (Z := fun z => z = (v, h1)) (by decide +kernel) (Nat.le_of_ble_eq_true rfl) hf rfl ⟨rfl, trivial⟩ (fun E ok => ?_)
  unfold Sp_gap
  refine J_aload_n (pc' := 1) ok (dOf dX10_gap 0 rfl) rfl rfl rfl ?_
  refine J_getR (ci := 10) (kf := 0) (C := RX10) (T := TX10) (N := 14) (pc' := 4) ok (dOf dX10_gap 1 rfl) rfl (by decide) rfl (by decide) win_10 wfl_X10_10 (fun a1 => ?_)
  refine J_getR (ci := 8) (kf := 2) (C := RX8) (T := TX8) (N := 3) (pc' := 7) ok (dOf dX10_gap 2 rfl) rfl (by decide) rfl (by decide) win_8 wfl_X10_187 (fun a2 => ?_)
  refine J_astore_n (ls' := [some (.ref v0), some (.ref a2)]) (pc' := 8) ok (dOf dX10_gap 3 rfl) rfl rfl (Nat.le_of_ble_eq_true rfl) rfl rfl ?_
  refine J_aload_n (pc' := 9) ok (dOf dX10_gap 4 rfl) rfl rfl rfl ?_
  refine J_getI (ci := 7) (kf := 2) (C := RX7) (T := TX7) (N := 7) (pc' := 12) ok (dOf dX10_gap 5 rfl) rfl (by decide) rfl (by decide) win_7 wfl_X10_231 (fun x3 => ?_)
  refine J_iconst (v := (-1)) (pc' := 13) ok (dOf dX10_gap 6 rfl) rfl (by decide) ?_
  refine J_icmp_ne (tgt := 18) (pc' := 16) ok (dOf dX10_gap 7 rfl) rfl (by decide) ?_ ?_
  · refine J_aload_n (pc' := 19) ok (dOf dX10_gap 10 rfl) rfl rfl rfl ?_
    refine J_getI (ci := 7) (kf := 1) (C := RX7) (T := TX7) (N := 7) (pc' := 22) ok (dOf dX10_gap 11 rfl) rfl (by decide) rfl (by decide) win_7 wfl_X10_228 (fun x4 => ?_)
    refine J_aload_n (pc' := 23) ok (dOf dX10_gap 12 rfl) rfl rfl rfl ?_
    refine J_getI (ci := 7) (kf := 2) (C := RX7) (T := TX7) (N := 7) (pc' := 26) ok (dOf dX10_gap 13 rfl) rfl (by decide) rfl (by decide) win_7 wfl_X10_231 (fun x5 => ?_)
    refine J_callSf (k2 := kSp_gapBetween) (as := [.int x4, .int x5]) (pc' := 29) ok (dOf dX10_gap 14 rfl) rfl (cw_Sp_gapBetween (by decide) (by decide)) wml_X10_250 wstat_X10_gapBetween ⟨Nat.le_refl 0, Nat.le_refl 0⟩ (Nat.le_of_ble_eq_true rfl) rfl (fun _ _ hf => t_Sp_gapBetween hf) (fun x7 h6 => ?_)
    refine J_callSi (k2 := kSp_bitsOfFloat) (as := [.float x7]) (pc' := 32) ok (dOf dX10_gap 15 rfl) rfl (cw_Sp_bitsOfFloat (by decide) (by decide)) wml_X10_254 wstat_X10_bitsOfFloat ⟨Nat.le_refl 0, Nat.le_refl 0⟩ (Nat.le_of_ble_eq_true rfl) rfl (fun _ _ hf => t_Sp_bitsOfFloat hf) (fun x9 h8 => ?_)
    exact J_ireturn ok (dOf dX10_gap 16 rfl) rfl (Eq.refl 0) (Nat.le_refl 0)
  · refine J_iconst (v := (-1)) (pc' := 17) ok (dOf dX10_gap 8 rfl) rfl (by decide) ?_
    exact J_ireturn ok (dOf dX10_gap 9 rfl) rfl (Eq.refl 0) (Nat.le_refl 0)
-- X10_cut
abbrev kSp_cut : Cd := (yX10_cut, cX10_cut, 4, (some .int), 1, 21)
theorem dX10_cut : dcheck cX10_cut [(0, .aload_n 0, 1), (1, .getfield 10, 3), (4, .getfield 120, 3), (7, .astore_n 3, 1), (8, .iload_n 1, 1), (9, .ifCond .lt 11, 3), (12, .iload_n 1, 1), (13, .aload_n 3, 1), (14, .getfield 123, 3), (17, .if_icmp .lt 5, 3), (20, .iconst (-1), 1), (21, .ireturn, 1), (22, .iload_n 2, 1), (23, .ifCond .ne 10, 3), (26, .aload_n 3, 1), (27, .getfield 258, 3), (30, .iload_n 1, 1), (31, .iaload, 1), (32, .ireturn, 1), (33, .iload_n 2, 1), (34, .iconst 1, 1), (35, .if_icmp .ne 10, 3), (38, .aload_n 3, 1), (39, .getfield 260, 3), (42, .iload_n 1, 1), (43, .iaload, 1), (44, .ireturn, 1), (45, .iload_n 2, 1), (46, .iconst 2, 1), (47, .if_icmp .ne 10, 3), (50, .aload_n 3, 1), (51, .getfield 263, 3), (54, .iload_n 1, 1), (55, .iaload, 1), (56, .ireturn, 1), (57, .iload_n 2, 1), (58, .iconst 3, 1), (59, .if_icmp .lt 42, 3), (62, .iload_n 2, 1), (63, .bipush 7, 2), (65, .if_icmp .ge 36, 3), (68, .aload_n 0, 1), (69, .getfield 10, 3), (72, .getfield 113, 3), (75, .iload_n 2, 1), (76, .iconst 3, 1), (77, .isub, 1), (78, .invokevirtual 155, 3), (81, .ifCond .eq 18, 3), (84, .aload_n 3, 1), (85, .getfield 266, 3), (88, .iload_n 1, 1), (89, .iconst 4, 1), (90, .imul, 1), (91, .iload_n 2, 1), (92, .iadd, 1), (93, .iconst 3, 1), (94, .isub, 1), (95, .iaload, 1), (96, .goto 4, 3), (99, .iconst (-1), 1), (100, .ireturn, 1), (101, .iload_n 2, 1), (102, .bipush 7, 2), (104, .if_icmp .lt 45, 3), (107, .iload_n 2, 1), (108, .bipush 13, 2), (110, .if_icmp .ge 39, 3), (113, .aload_n 0, 1), (114, .getfield 10, 3), (117, .getfield 113, 3), (120, .iload_n 2, 1), (121, .bipush 7, 2), (123, .isub, 1), (124, .invokevirtual 159, 3), (127, .ifCond .eq 20, 3), (130, .aload_n 3, 1), (131, .getfield 269, 3), (134, .iload_n 1, 1), (135, .bipush 6, 2), (137, .imul, 1), (138, .iload_n 2, 1), (139, .iadd, 1), (140, .bipush 7, 2), (142, .isub, 1), (143, .iaload, 1), (144, .goto 4, 3), (147, .iconst (-1), 1), (148, .ireturn, 1), (149, .iconst (-1), 1), (150, .ireturn, 1)] = true := by decide +kernel
theorem cw_Sp_cut {k : Cd} (h1 : kSp_cut.2.2.2.2.1 + 1 ≤ k.2.2.2.2.1) (h2 : 8 + (kSp_cut.2.2.1 + 11) + kSp_cut.2.2.2.2.2 ≤ k.2.2.2.2.2) : Cw k kSp_cut 2 := ⟨wcode_X10_cut, wini_SplitProgram, ⟨by decide, by decide, by decide +kernel⟩, h1, h2⟩
def Sp_cut_j20 (v0 : Nat) (v1 : Int32) (v2 : Int32) (v3 : Nat) (h : AHeap) : Option (Int32 × AHeap) :=
  some ((-1), h)
theorem Sp_cut_j20_J {E : JE} {l : Launch} {G : GX} {v : Int32} {h' : AHeap} (ok : JOK E l G kSp_cut 0 0 (some (.int v)) h') (v0 : Nat) (v1 : Int32) (v2 : Int32) (v3 : Nat) (h : AHeap) : J E kSp_cut (Sp_cut_j20 v0 v1 v2 v3 h) (fun z => z = (v, h')) 20 [some (.ref v0), some (.int v1), some (.int v2), some (.ref v3)] [] h 0 0 := by
  unfold Sp_cut_j20
  refine J_iconst (v := (-1)) (pc' := 21) ok (dOf dX10_cut 10 rfl) rfl (by decide) ?_
  exact J_ireturn ok (dOf dX10_cut 11 rfl) rfl (Eq.refl 0) (Nat.le_refl 0)
def Sp_cut_j149 (v0 : Nat) (v1 : Int32) (v2 : Int32) (v3 : Nat) (h : AHeap) : Option (Int32 × AHeap) :=
  some ((-1), h)
theorem Sp_cut_j149_J {E : JE} {l : Launch} {G : GX} {v : Int32} {h' : AHeap} (ok : JOK E l G kSp_cut 0 0 (some (.int v)) h') (v0 : Nat) (v1 : Int32) (v2 : Int32) (v3 : Nat) (h : AHeap) : J E kSp_cut (Sp_cut_j149 v0 v1 v2 v3 h) (fun z => z = (v, h')) 149 [some (.ref v0), some (.int v1), some (.int v2), some (.ref v3)] [] h 0 0 := by
  unfold Sp_cut_j149
  refine J_iconst (v := (-1)) (pc' := 150) ok (dOf dX10_cut 89 rfl) rfl (by decide) ?_
  exact J_ireturn ok (dOf dX10_cut 90 rfl) rfl (Eq.refl 0) (Nat.le_refl 0)
def Sp_cut_j148 (v0 : Nat) (v1 : Int32) (v2 : Int32) (v3 : Nat) (t0 : Int32) (h : AHeap) : Option (Int32 × AHeap) :=
  some (t0, h)
theorem Sp_cut_j148_J {E : JE} {l : Launch} {G : GX} {v : Int32} {h' : AHeap} (ok : JOK E l G kSp_cut 0 0 (some (.int v)) h') (v0 : Nat) (v1 : Int32) (v2 : Int32) (v3 : Nat) (t0 : Int32) (h : AHeap) : J E kSp_cut (Sp_cut_j148 v0 v1 v2 v3 t0 h) (fun z => z = (v, h')) 148 [some (.ref v0), some (.int v1), some (.int v2), some (.ref v3)] [.int t0] h 0 0 := by
  unfold Sp_cut_j148
  exact J_ireturn ok (dOf dX10_cut 88 rfl) rfl (Eq.refl 0) (Nat.le_refl 0)
def Sp_cut_j101 (v0 : Nat) (v1 : Int32) (v2 : Int32) (v3 : Nat) (h : AHeap) : Option (Int32 × AHeap) :=
  (if v2 < 7 then Sp_cut_j149 v0 v1 v2 v3 h else (if 13 ≤ v2 then Sp_cut_j149 v0 v1 v2 v3 h else (gfR h v0 10 0).bind fun a4 => (gfR h a4 8 0).bind fun a5 => (chk h a5 6).bind fun _ => bnd2 (Prog_hasSite a5 (v2 - 7) h) fun x7 h6 => (if x7 = 0 then Sp_cut_j148 v0 v1 v2 v3 (-1) h6 else (gfR h6 v3 2 6).bind fun a8 => (ald 0 h6 a8 (((v1 * 6) + v2) - 7)).bind fun x9 => Sp_cut_j148 v0 v1 v2 v3 x9 h6)))
theorem Sp_cut_j101_J {E : JE} {l : Launch} {G : GX} {v : Int32} {h' : AHeap} (ok : JOK E l G kSp_cut 0 0 (some (.int v)) h') (v0 : Nat) (v1 : Int32) (v2 : Int32) (v3 : Nat) (h : AHeap) : J E kSp_cut (Sp_cut_j101 v0 v1 v2 v3 h) (fun z => z = (v, h')) 101 [some (.ref v0), some (.int v1), some (.int v2), some (.ref v3)] [] h 0 0 := by
  unfold Sp_cut_j101
  refine J_iload_n (pc' := 102) ok (dOf dX10_cut 62 rfl) rfl rfl rfl ?_
  refine J_bipush (v := 7) (pc' := 104) ok (dOf dX10_cut 63 rfl) rfl (by decide) ?_
  refine J_icmp_lt (tgt := 149) (pc' := 107) ok (dOf dX10_cut 64 rfl) rfl (by decide) ?_ ?_
  · exact Sp_cut_j149_J ok v0 v1 v2 v3 h
  · refine J_iload_n (pc' := 108) ok (dOf dX10_cut 65 rfl) rfl rfl rfl ?_
    refine J_bipush (v := 13) (pc' := 110) ok (dOf dX10_cut 66 rfl) rfl (by decide) ?_
    refine J_icmp_ge (tgt := 149) (pc' := 113) ok (dOf dX10_cut 67 rfl) rfl (by decide) ?_ ?_
    · exact Sp_cut_j149_J ok v0 v1 v2 v3 h
    · refine J_aload_n (pc' := 114) ok (dOf dX10_cut 68 rfl) rfl rfl rfl ?_
      refine J_getR (ci := 10) (kf := 0) (C := RX10) (T := TX10) (N := 14) (pc' := 117) ok (dOf dX10_cut 69 rfl) rfl (by decide) rfl (by decide) win_10 wfl_X10_10 (fun a4 => ?_)
      refine J_getR (ci := 8) (kf := 0) (C := RX8) (T := TX8) (N := 3) (pc' := 120) ok (dOf dX10_cut 70 rfl) rfl (by decide) rfl (by decide) win_8 wfl_X10_113 (fun a5 => ?_)
      refine J_iload_n (pc' := 121) ok (dOf dX10_cut 71 rfl) rfl rfl rfl ?_
      refine J_bipush (v := 7) (pc' := 123) ok (dOf dX10_cut 72 rfl) rfl (by decide) ?_
      refine J_isub (pc' := 124) ok (dOf dX10_cut 73 rfl) rfl ?_
      refine J_callVi (k2 := kProg_hasSite) (ci := 6) (T := TX6) (N := 9) (as := [.int (v2 - 7)]) (pc' := 127) ok (dOf dX10_cut 74 rfl) rfl (cw_Prog_hasSite (by decide) (by decide)) wml_X10_159 winst_X6_hasSite wsel_X6_hasSite rfl ⟨Nat.le_refl 0, Nat.le_refl 0⟩ (Nat.le_of_ble_eq_true rfl) rfl (fun _ _ hf => t_Prog_hasSite hf) (fun x7 h6 => ?_)
      refine J_if_eq (tgt := 147) (pc' := 130) ok (dOf dX10_cut 75 rfl) rfl (by decide) ?_ ?_
      · refine J_iconst (v := (-1)) (pc' := 148) ok (dOf dX10_cut 87 rfl) rfl (by decide) ?_
        exact Sp_cut_j148_J ok v0 v1 v2 v3 (-1) h6
      · refine J_aload_n (pc' := 131) ok (dOf dX10_cut 76 rfl) rfl rfl rfl ?_
        refine J_getR (ci := 2) (kf := 6) (C := RX2) (T := TX2) (N := 7) (pc' := 134) ok (dOf dX10_cut 77 rfl) rfl (by decide) rfl (by decide) win_2 wfl_X10_269 (fun a8 => ?_)
        refine J_iload_n (pc' := 135) ok (dOf dX10_cut 78 rfl) rfl rfl rfl ?_
        refine J_bipush (v := 6) (pc' := 137) ok (dOf dX10_cut 79 rfl) rfl (by decide) ?_
        refine J_imul (pc' := 138) ok (dOf dX10_cut 80 rfl) rfl ?_
        refine J_iload_n (pc' := 139) ok (dOf dX10_cut 81 rfl) rfl rfl rfl ?_
        refine J_iadd (pc' := 140) ok (dOf dX10_cut 82 rfl) rfl ?_
        refine J_bipush (v := 7) (pc' := 142) ok (dOf dX10_cut 83 rfl) rfl (by decide) ?_
        refine J_isub (pc' := 143) ok (dOf dX10_cut 84 rfl) rfl ?_
        refine J_iald (pc' := 144) ok (dOf dX10_cut 85 rfl) rfl (fun x9 => ?_)
        refine J_goto (tgt := 148) ok (dOf dX10_cut 86 rfl) (by decide) ?_
        exact Sp_cut_j148_J ok v0 v1 v2 v3 x9 h6
def Sp_cut_j100 (v0 : Nat) (v1 : Int32) (v2 : Int32) (v3 : Nat) (t0 : Int32) (h : AHeap) : Option (Int32 × AHeap) :=
  some (t0, h)
theorem Sp_cut_j100_J {E : JE} {l : Launch} {G : GX} {v : Int32} {h' : AHeap} (ok : JOK E l G kSp_cut 0 0 (some (.int v)) h') (v0 : Nat) (v1 : Int32) (v2 : Int32) (v3 : Nat) (t0 : Int32) (h : AHeap) : J E kSp_cut (Sp_cut_j100 v0 v1 v2 v3 t0 h) (fun z => z = (v, h')) 100 [some (.ref v0), some (.int v1), some (.int v2), some (.ref v3)] [.int t0] h 0 0 := by
  unfold Sp_cut_j100
  exact J_ireturn ok (dOf dX10_cut 61 rfl) rfl (Eq.refl 0) (Nat.le_refl 0)
def Sp_cut (v0 : Nat) (v1 : Int32) (v2 : Int32) (h : AHeap) : Option (Int32 × AHeap) :=
  (gfR h v0 10 0).bind fun a1 => (gfR h a1 8 1).bind fun a2 => (if v1 < 0 then Sp_cut_j20 v0 v1 v2 a2 h else (gfI h a2 2 1).bind fun x3 => (if v1 < x3 then (if ¬ v2 = 0 then (if ¬ v2 = 1 then (if ¬ v2 = 2 then (if v2 < 3 then Sp_cut_j101 v0 v1 v2 a2 h else (if 7 ≤ v2 then Sp_cut_j101 v0 v1 v2 a2 h else (gfR h v0 10 0).bind fun a10 => (gfR h a10 8 0).bind fun a11 => (chk h a11 6).bind fun _ => bnd2 (Prog_hasPlant a11 (v2 - 3) h) fun x13 h12 => (if x13 = 0 then Sp_cut_j100 v0 v1 v2 a2 (-1) h12 else (gfR h12 a2 2 5).bind fun a14 => (ald 0 h12 a14 (((v1 * 4) + v2) - 3)).bind fun x15 => Sp_cut_j100 v0 v1 v2 a2 x15 h12))) else (gfR h a2 2 4).bind fun a16 => (ald 0 h a16 v1).bind fun x17 => some (x17, h)) else (gfR h a2 2 3).bind fun a18 => (ald 0 h a18 v1).bind fun x19 => some (x19, h)) else (gfR h a2 2 2).bind fun a20 => (ald 0 h a20 v1).bind fun x21 => some (x21, h)) else Sp_cut_j20 v0 v1 v2 a2 h))
theorem t_Sp_cut {l : Launch} {G : GX} {v0 : Nat} {v1 : Int32} {v2 : Int32} {h : AHeap} {v : Int32} {h1 : AHeap} (hf : Sp_cut v0 v1 v2 h = some (v, h1)) : CT l G kSp_cut 0 0 [.ref v0, .int v1, .int v2] h (some (.int v)) h1 := by
  refine CT_of (ls := [some (.ref v0), some (.int v1), some (.int v2), none]) (Z := fun z => z = (v, h1)) (by decide +kernel) (Nat.le_of_ble_eq_true rfl) hf rfl ⟨rfl, rfl, rfl, trivial⟩ (fun E ok => ?_)
  unfold Sp_cut
  refine J_aload_n (pc' := 1) ok (dOf dX10_cut 0 rfl) rfl rfl rfl ?_
  refine J_getR (ci := 10) (kf := 0) (C := RX10) (T := TX10) (N := 14) (pc' := 4) ok (dOf dX10_cut 1 rfl) rfl (by decide) rfl (by decide) win_10 wfl_X10_10 (fun a1 => ?_)
  refine J_getR (ci := 8) (kf := 1) (C := RX8) (T := TX8) (N := 3) (pc' := 7) ok (dOf dX10_cut 2 rfl) rfl (by decide) rfl (by decide) win_8 wfl_X10_120 (fun a2 => ?_)
  refine J_astore_n (ls' := [some (.ref v0), some (.int v1), some (.int v2), some (.ref a2)]) (pc' := 8) ok (dOf dX10_cut 3 rfl) rfl rfl (Nat.le_of_ble_eq_true rfl) rfl rfl ?_
  refine J_iload_n (pc' := 9) ok (dOf dX10_cut 4 rfl) rfl rfl rfl ?_
  refine J_if_lt (tgt := 20) (pc' := 12) ok (dOf dX10_cut 5 rfl) rfl (by decide) ?_ ?_
  · exact Sp_cut_j20_J ok v0 v1 v2 a2 h
  · refine J_iload_n (pc' := 13) ok (dOf dX10_cut 6 rfl) rfl rfl rfl ?_
    refine J_aload_n (pc' := 14) ok (dOf dX10_cut 7 rfl) rfl rfl rfl ?_
    refine J_getI (ci := 2) (kf := 1) (C := RX2) (T := TX2) (N := 7) (pc' := 17) ok (dOf dX10_cut 8 rfl) rfl (by decide) rfl (by decide) win_2 wfl_X10_123 (fun x3 => ?_)
    refine J_icmp_lt (tgt := 22) (pc' := 20) ok (dOf dX10_cut 9 rfl) rfl (by decide) ?_ ?_
    · refine J_iload_n (pc' := 23) ok (dOf dX10_cut 12 rfl) rfl rfl rfl ?_
      refine J_if_ne (tgt := 33) (pc' := 26) ok (dOf dX10_cut 13 rfl) rfl (by decide) ?_ ?_
      · refine J_iload_n (pc' := 34) ok (dOf dX10_cut 19 rfl) rfl rfl rfl ?_
        refine J_iconst (v := 1) (pc' := 35) ok (dOf dX10_cut 20 rfl) rfl (by decide) ?_
        refine J_icmp_ne (tgt := 45) (pc' := 38) ok (dOf dX10_cut 21 rfl) rfl (by decide) ?_ ?_
        · refine J_iload_n (pc' := 46) ok (dOf dX10_cut 27 rfl) rfl rfl rfl ?_
          refine J_iconst (v := 2) (pc' := 47) ok (dOf dX10_cut 28 rfl) rfl (by decide) ?_
          refine J_icmp_ne (tgt := 57) (pc' := 50) ok (dOf dX10_cut 29 rfl) rfl (by decide) ?_ ?_
          · refine J_iload_n (pc' := 58) ok (dOf dX10_cut 35 rfl) rfl rfl rfl ?_
            refine J_iconst (v := 3) (pc' := 59) ok (dOf dX10_cut 36 rfl) rfl (by decide) ?_
            refine J_icmp_lt (tgt := 101) (pc' := 62) ok (dOf dX10_cut 37 rfl) rfl (by decide) ?_ ?_
            · exact Sp_cut_j101_J ok v0 v1 v2 a2 h
            · refine J_iload_n (pc' := 63) ok (dOf dX10_cut 38 rfl) rfl rfl rfl ?_
              refine J_bipush (v := 7) (pc' := 65) ok (dOf dX10_cut 39 rfl) rfl (by decide) ?_
              refine J_icmp_ge (tgt := 101) (pc' := 68) ok (dOf dX10_cut 40 rfl) rfl (by decide) ?_ ?_
              · exact Sp_cut_j101_J ok v0 v1 v2 a2 h
              · refine J_aload_n (pc' := 69) ok (dOf dX10_cut 41 rfl) rfl rfl rfl ?_
                refine J_getR (ci := 10) (kf := 0) (C := RX10) (T := TX10) (N := 14) (pc' := 72) ok (dOf dX10_cut 42 rfl) rfl (by decide) rfl (by decide) win_10 wfl_X10_10 (fun a10 => ?_)
                refine J_getR (ci := 8) (kf := 0) (C := RX8) (T := TX8) (N := 3) (pc' := 75) ok (dOf dX10_cut 43 rfl) rfl (by decide) rfl (by decide) win_8 wfl_X10_113 (fun a11 => ?_)
                refine J_iload_n (pc' := 76) ok (dOf dX10_cut 44 rfl) rfl rfl rfl ?_
                refine J_iconst (v := 3) (pc' := 77) ok (dOf dX10_cut 45 rfl) rfl (by decide) ?_
                refine J_isub (pc' := 78) ok (dOf dX10_cut 46 rfl) rfl ?_
                refine J_callVi (k2 := kProg_hasPlant) (ci := 6) (T := TX6) (N := 9) (as := [.int (v2 - 3)]) (pc' := 81) ok (dOf dX10_cut 47 rfl) rfl (cw_Prog_hasPlant (by decide) (by decide)) wml_X10_155 winst_X6_hasPlant wsel_X6_hasPlant rfl ⟨Nat.le_refl 0, Nat.le_refl 0⟩ (Nat.le_of_ble_eq_true rfl) rfl (fun _ _ hf => t_Prog_hasPlant hf) (fun x13 h12 => ?_)
                refine J_if_eq (tgt := 99) (pc' := 84) ok (dOf dX10_cut 48 rfl) rfl (by decide) ?_ ?_
                · refine J_iconst (v := (-1)) (pc' := 100) ok (dOf dX10_cut 60 rfl) rfl (by decide) ?_
                  exact Sp_cut_j100_J ok v0 v1 v2 a2 (-1) h12
                · refine J_aload_n (pc' := 85) ok (dOf dX10_cut 49 rfl) rfl rfl rfl ?_
                  refine J_getR (ci := 2) (kf := 5) (C := RX2) (T := TX2) (N := 7) (pc' := 88) ok (dOf dX10_cut 50 rfl) rfl (by decide) rfl (by decide) win_2 wfl_X10_266 (fun a14 => ?_)
                  refine J_iload_n (pc' := 89) ok (dOf dX10_cut 51 rfl) rfl rfl rfl ?_
                  refine J_iconst (v := 4) (pc' := 90) ok (dOf dX10_cut 52 rfl) rfl (by decide) ?_
                  refine J_imul (pc' := 91) ok (dOf dX10_cut 53 rfl) rfl ?_
                  refine J_iload_n (pc' := 92) ok (dOf dX10_cut 54 rfl) rfl rfl rfl ?_
                  refine J_iadd (pc' := 93) ok (dOf dX10_cut 55 rfl) rfl ?_
                  refine J_iconst (v := 3) (pc' := 94) ok (dOf dX10_cut 56 rfl) rfl (by decide) ?_
                  refine J_isub (pc' := 95) ok (dOf dX10_cut 57 rfl) rfl ?_
                  refine J_iald (pc' := 96) ok (dOf dX10_cut 58 rfl) rfl (fun x15 => ?_)
                  refine J_goto (tgt := 100) ok (dOf dX10_cut 59 rfl) (by decide) ?_
                  exact Sp_cut_j100_J ok v0 v1 v2 a2 x15 h12
          · refine J_aload_n (pc' := 51) ok (dOf dX10_cut 30 rfl) rfl rfl rfl ?_
            refine J_getR (ci := 2) (kf := 4) (C := RX2) (T := TX2) (N := 7) (pc' := 54) ok (dOf dX10_cut 31 rfl) rfl (by decide) rfl (by decide) win_2 wfl_X10_263 (fun a16 => ?_)
            refine J_iload_n (pc' := 55) ok (dOf dX10_cut 32 rfl) rfl rfl rfl ?_
            refine J_iald (pc' := 56) ok (dOf dX10_cut 33 rfl) rfl (fun x17 => ?_)
            exact J_ireturn ok (dOf dX10_cut 34 rfl) rfl (Eq.refl 0) (Nat.le_refl 0)
        · refine J_aload_n (pc' := 39) ok (dOf dX10_cut 22 rfl) rfl rfl rfl ?_
          refine J_getR (ci := 2) (kf := 3) (C := RX2) (T := TX2) (N := 7) (pc' := 42) ok (dOf dX10_cut 23 rfl) rfl (by decide) rfl (by decide) win_2 wfl_X10_260 (fun a18 => ?_)
          refine J_iload_n (pc' := 43) ok (dOf dX10_cut 24 rfl) rfl rfl rfl ?_
          refine J_iald (pc' := 44) ok (dOf dX10_cut 25 rfl) rfl (fun x19 => ?_)
          exact J_ireturn ok (dOf dX10_cut 26 rfl) rfl (Eq.refl 0) (Nat.le_refl 0)
      · refine J_aload_n (pc' := 27) ok (dOf dX10_cut 14 rfl) rfl rfl rfl ?_
        refine J_getR (ci := 2) (kf := 2) (C := RX2) (T := TX2) (N := 7) (pc' := 30) ok (dOf dX10_cut 15 rfl) rfl (by decide) rfl (by decide) win_2 wfl_X10_258 (fun a20 => ?_)
        refine J_iload_n (pc' := 31) ok (dOf dX10_cut 16 rfl) rfl rfl rfl ?_
        refine J_iald (pc' := 32) ok (dOf dX10_cut 17 rfl) rfl (fun x21 => ?_)
        exact J_ireturn ok (dOf dX10_cut 18 rfl) rfl (Eq.refl 0) (Nat.le_refl 0)
    · exact Sp_cut_j20_J ok v0 v1 v2 a2 h
-- X10_tells
abbrev kSp_tells : Cd := (yX10_tells, cX10_tells, 3, (some .int), 2, 49)
theorem dX10_tells : dcheck cX10_tells [(0, .iload_n 1, 1), (1, .ifCond .lt 31, 3), (4, .iload_n 1, 1), (5, .aload_n 0, 1), (6, .getfield 10, 3), (9, .getfield 120, 3), (12, .getfield 123, 3), (15, .if_icmp .ge 17, 3), (18, .aload_n 0, 1), (19, .getfield 10, 3), (22, .getfield 113, 3), (25, .iload_n 2, 1), (26, .invokevirtual 272, 3), (29, .ifCond .ne 7, 3), (32, .ldc_w 275, 3), (35, .ireturn, 1), (36, .aload_n 0, 1), (37, .getfield 10, 3), (40, .getfield 120, 3), (43, .aload_n 0, 1), (44, .getfield 10, 3), (47, .getfield 113, 3), (50, .iload_n 1, 1), (51, .iload_n 2, 1), (52, .invokevirtual 276, 3), (55, .ireturn, 1)] = true := by decide +kernel
theorem cw_Sp_tells {k : Cd} (h1 : kSp_tells.2.2.2.2.1 + 1 ≤ k.2.2.2.2.1) (h2 : 8 + (kSp_tells.2.2.1 + 11) + kSp_tells.2.2.2.2.2 ≤ k.2.2.2.2.2) : Cw k kSp_tells 2 := ⟨wcode_X10_tells, wini_SplitProgram, ⟨by decide, by decide, by decide +kernel⟩, h1, h2⟩
def Sp_tells_j32 (v0 : Nat) (v1 : Int32) (v2 : Int32) (h : AHeap) : Option (Int32 × AHeap) :=
  some ((-2147483648), h)
theorem Sp_tells_j32_J {E : JE} {l : Launch} {G : GX} {v : Int32} {h' : AHeap} (ok : JOK E l G kSp_tells 0 0 (some (.int v)) h') (v0 : Nat) (v1 : Int32) (v2 : Int32) (h : AHeap) : J E kSp_tells (Sp_tells_j32 v0 v1 v2 h) (fun z => z = (v, h')) 32 [some (.ref v0), some (.int v1), some (.int v2)] [] h 0 0 := by
  unfold Sp_tells_j32
  refine J_ldcw (v := (-2147483648)) (pc' := 35) ok (dOf dX10_tells 14 rfl) rfl wcon_X10_275 ?_
  exact J_ireturn ok (dOf dX10_tells 15 rfl) rfl (Eq.refl 0) (Nat.le_refl 0)
def Sp_tells (v0 : Nat) (v1 : Int32) (v2 : Int32) (h : AHeap) : Option (Int32 × AHeap) :=
  (if v1 < 0 then Sp_tells_j32 v0 v1 v2 h else (gfR h v0 10 0).bind fun a1 => (gfR h a1 8 1).bind fun a2 => (gfI h a2 2 1).bind fun x3 => (if x3 ≤ v1 then Sp_tells_j32 v0 v1 v2 h else (gfR h v0 10 0).bind fun a4 => (gfR h a4 8 0).bind fun a5 => (chk h a5 6).bind fun _ => bnd2 (Prog_isPlan a5 v2 h) fun x7 h6 => (if ¬ x7 = 0 then (gfR h6 v0 10 0).bind fun a8 => (gfR h6 a8 8 1).bind fun a9 => (gfR h6 v0 10 0).bind fun a10 => (gfR h6 a10 8 0).bind fun a11 => (chk h6 a9 2).bind fun _ => bnd2 (Cuts_valueAt a9 a11 v1 v2 h6) fun x13 h12 => some (x13, h12) else Sp_tells_j32 v0 v1 v2 h6)))
theorem t_Sp_tells {l : Launch} {G : GX} {v0 : Nat} {v1 : Int32} {v2 : Int32} {h : AHeap} {v : Int32} {h1 : AHeap} (hf : Sp_tells v0 v1 v2 h = some (v, h1)) : CT l G kSp_tells 0 0 [.ref v0, .int v1, .int v2] h (some (.int v)) h1 := by
  refine CT_of (ls := [some (.ref v0), some (.int v1), some (.int v2)]) (Z := fun z => z = (v, h1)) (by decide +kernel) (Nat.le_of_ble_eq_true rfl) hf rfl ⟨rfl, rfl, rfl, trivial⟩ (fun E ok => ?_)
  unfold Sp_tells
  refine J_iload_n (pc' := 1) ok (dOf dX10_tells 0 rfl) rfl rfl rfl ?_
  refine J_if_lt (tgt := 32) (pc' := 4) ok (dOf dX10_tells 1 rfl) rfl (by decide) ?_ ?_
  · exact Sp_tells_j32_J ok v0 v1 v2 h
  · refine J_iload_n (pc' := 5) ok (dOf dX10_tells 2 rfl) rfl rfl rfl ?_
    refine J_aload_n (pc' := 6) ok (dOf dX10_tells 3 rfl) rfl rfl rfl ?_
    refine J_getR (ci := 10) (kf := 0) (C := RX10) (T := TX10) (N := 14) (pc' := 9) ok (dOf dX10_tells 4 rfl) rfl (by decide) rfl (by decide) win_10 wfl_X10_10 (fun a1 => ?_)
    refine J_getR (ci := 8) (kf := 1) (C := RX8) (T := TX8) (N := 3) (pc' := 12) ok (dOf dX10_tells 5 rfl) rfl (by decide) rfl (by decide) win_8 wfl_X10_120 (fun a2 => ?_)
    refine J_getI (ci := 2) (kf := 1) (C := RX2) (T := TX2) (N := 7) (pc' := 15) ok (dOf dX10_tells 6 rfl) rfl (by decide) rfl (by decide) win_2 wfl_X10_123 (fun x3 => ?_)
    refine J_icmp_ge (tgt := 32) (pc' := 18) ok (dOf dX10_tells 7 rfl) rfl (by decide) ?_ ?_
    · exact Sp_tells_j32_J ok v0 v1 v2 h
    · refine J_aload_n (pc' := 19) ok (dOf dX10_tells 8 rfl) rfl rfl rfl ?_
      refine J_getR (ci := 10) (kf := 0) (C := RX10) (T := TX10) (N := 14) (pc' := 22) ok (dOf dX10_tells 9 rfl) rfl (by decide) rfl (by decide) win_10 wfl_X10_10 (fun a4 => ?_)
      refine J_getR (ci := 8) (kf := 0) (C := RX8) (T := TX8) (N := 3) (pc' := 25) ok (dOf dX10_tells 10 rfl) rfl (by decide) rfl (by decide) win_8 wfl_X10_113 (fun a5 => ?_)
      refine J_iload_n (pc' := 26) ok (dOf dX10_tells 11 rfl) rfl rfl rfl ?_
      refine J_callVi (k2 := kProg_isPlan) (ci := 6) (T := TX6) (N := 9) (as := [.int v2]) (pc' := 29) ok (dOf dX10_tells 12 rfl) rfl (cw_Prog_isPlan (by decide) (by decide)) wml_X10_272 winst_X6_isPlan wsel_X6_isPlan rfl ⟨Nat.le_refl 0, Nat.le_refl 0⟩ (Nat.le_of_ble_eq_true rfl) rfl (fun _ _ hf => t_Prog_isPlan hf) (fun x7 h6 => ?_)
      refine J_if_ne (tgt := 36) (pc' := 32) ok (dOf dX10_tells 13 rfl) rfl (by decide) ?_ ?_
      · refine J_aload_n (pc' := 37) ok (dOf dX10_tells 16 rfl) rfl rfl rfl ?_
        refine J_getR (ci := 10) (kf := 0) (C := RX10) (T := TX10) (N := 14) (pc' := 40) ok (dOf dX10_tells 17 rfl) rfl (by decide) rfl (by decide) win_10 wfl_X10_10 (fun a8 => ?_)
        refine J_getR (ci := 8) (kf := 1) (C := RX8) (T := TX8) (N := 3) (pc' := 43) ok (dOf dX10_tells 18 rfl) rfl (by decide) rfl (by decide) win_8 wfl_X10_120 (fun a9 => ?_)
        refine J_aload_n (pc' := 44) ok (dOf dX10_tells 19 rfl) rfl rfl rfl ?_
        refine J_getR (ci := 10) (kf := 0) (C := RX10) (T := TX10) (N := 14) (pc' := 47) ok (dOf dX10_tells 20 rfl) rfl (by decide) rfl (by decide) win_10 wfl_X10_10 (fun a10 => ?_)
        refine J_getR (ci := 8) (kf := 0) (C := RX8) (T := TX8) (N := 3) (pc' := 50) ok (dOf dX10_tells 21 rfl) rfl (by decide) rfl (by decide) win_8 wfl_X10_113 (fun a11 => ?_)
        refine J_iload_n (pc' := 51) ok (dOf dX10_tells 22 rfl) rfl rfl rfl ?_
        refine J_iload_n (pc' := 52) ok (dOf dX10_tells 23 rfl) rfl rfl rfl ?_
        refine J_callVi (k2 := kCuts_valueAt) (ci := 2) (T := TX2) (N := 7) (as := [.ref a11, .int v1, .int v2]) (pc' := 55) ok (dOf dX10_tells 24 rfl) rfl (cw_Cuts_valueAt (by decide) (by decide)) wml_X10_276 winst_X2_valueAt wsel_X2_valueAt rfl ⟨Nat.le_refl 0, Nat.le_refl 0⟩ (Nat.le_of_ble_eq_true rfl) rfl (fun _ _ hf => t_Cuts_valueAt hf) (fun x13 h12 => ?_)
        exact J_ireturn ok (dOf dX10_tells 25 rfl) rfl (Eq.refl 0) (Nat.le_refl 0)
      · exact Sp_tells_j32_J ok v0 v1 v2 h6
-- X10_fitsAt
abbrev kSp_fitsAt : Cd := (yX10_fitsAt, cX10_fitsAt, 7, (some .boolean), 5, 124)
theorem dX10_fitsAt : dcheck cX10_fitsAt [(0, .aload_n 0, 1), (1, .getfield 10, 3), (4, .getfield 113, 3), (7, .astore_n 3, 1), (8, .aload_n 0, 1), (9, .getfield 10, 3), (12, .getfield 120, 3), (15, .getfield 258, 3), (18, .iload_n 1, 1), (19, .iaload, 1), (20, .istore 4, 2), (22, .aload_n 0, 1), (23, .getfield 10, 3), (26, .getfield 120, 3), (29, .aload_n 3, 1), (30, .iload_n 1, 1), (31, .iload_n 2, 1), (32, .invokevirtual 276, 3), (35, .istore 5, 2), (37, .aload_n 0, 1), (38, .getfield 10, 3), (41, .getfield 120, 3), (44, .getfield 260, 3), (47, .iload_n 1, 1), (48, .iaload, 1), (49, .iconst 1, 1), (50, .if_icmp .ne 36, 3), (53, .iload 5, 2), (55, .ifCond .le 29, 3), (58, .iload 5, 2), (60, .aload_n 0, 1), (61, .getfield 23, 3), (64, .getfield 126, 3), (67, .getfield 286, 3), (70, .aload_n 3, 1), (71, .iload 4, 2), (73, .iload_n 2, 1), (74, .invokevirtual 290, 3), (77, .if_icmp .ne 7, 3), (80, .iconst 1, 1), (81, .goto 4, 3), (84, .iconst 0, 1), (85, .ireturn, 1), (86, .aload_n 0, 1), (87, .getfield 23, 3), (90, .getfield 126, 3), (93, .aload_n 3, 1), (94, .iload 4, 2), (96, .iload_n 2, 1), (97, .invokevirtual 283, 3), (100, .istore 6, 2), (102, .iload 6, 2), (104, .iconst (-1), 1), (105, .if_icmp .eq 14, 3), (108, .iload 5, 2), (110, .iload 6, 2), (112, .if_icmp .ne 7, 3), (115, .iconst 1, 1), (116, .goto 4, 3), (119, .iconst 0, 1), (120, .ireturn, 1)] = true := by decide +kernel
theorem cw_Sp_fitsAt {k : Cd} (h1 : kSp_fitsAt.2.2.2.2.1 + 1 ≤ k.2.2.2.2.1) (h2 : 8 + (kSp_fitsAt.2.2.1 + 11) + kSp_fitsAt.2.2.2.2.2 ≤ k.2.2.2.2.2) : Cw k kSp_fitsAt 2 := ⟨wcode_X10_fitsAt, wini_SplitProgram, ⟨by decide, by decide, by decide +kernel⟩, h1, h2⟩
def Sp_fitsAt_j120 (v0 : Nat) (v1 : Int32) (v2 : Int32) (v3 : Nat) (v4 : Int32) (v5 : Int32) (v6 : Int32) (t0 : Int32) (h : AHeap) : Option (Int32 × AHeap) :=
  (bz t0).bind fun z => some (z, h)
theorem Sp_fitsAt_j120_J {E : JE} {l : Launch} {G : GX} {v : Int32} {h' : AHeap} (ok : JOK E l G kSp_fitsAt 0 0 (some (.int v)) h') (v0 : Nat) (v1 : Int32) (v2 : Int32) (v3 : Nat) (v4 : Int32) (v5 : Int32) (v6 : Int32) (t0 : Int32) (h : AHeap) : J E kSp_fitsAt (Sp_fitsAt_j120 v0 v1 v2 v3 v4 v5 v6 t0 h) (fun z => z = (v, h')) 120 [some (.ref v0), some (.int v1), some (.int v2), some (.ref v3), some (.int v4), some (.int v5), some (.int v6)] [.int t0] h 0 0 := by
  unfold Sp_fitsAt_j120
  exact J_zreturn ok (dOf dX10_fitsAt 60 rfl) rfl (Eq.refl 0) (Nat.le_refl 0)
def Sp_fitsAt_j119 (v0 : Nat) (v1 : Int32) (v2 : Int32) (v3 : Nat) (v4 : Int32) (v5 : Int32) (v6 : Int32) (h : AHeap) : Option (Int32 × AHeap) :=
  Sp_fitsAt_j120 v0 v1 v2 v3 v4 v5 v6 0 h
theorem Sp_fitsAt_j119_J {E : JE} {l : Launch} {G : GX} {v : Int32} {h' : AHeap} (ok : JOK E l G kSp_fitsAt 0 0 (some (.int v)) h') (v0 : Nat) (v1 : Int32) (v2 : Int32) (v3 : Nat) (v4 : Int32) (v5 : Int32) (v6 : Int32) (h : AHeap) : J E kSp_fitsAt (Sp_fitsAt_j119 v0 v1 v2 v3 v4 v5 v6 h) (fun z => z = (v, h')) 119 [some (.ref v0), some (.int v1), some (.int v2), some (.ref v3), some (.int v4), some (.int v5), some (.int v6)] [] h 0 0 := by
  unfold Sp_fitsAt_j119
  refine J_iconst (v := 0) (pc' := 120) ok (dOf dX10_fitsAt 59 rfl) rfl (by decide) ?_
  exact Sp_fitsAt_j120_J ok v0 v1 v2 v3 v4 v5 v6 0 h
def Sp_fitsAt_j85 (v0 : Nat) (v1 : Int32) (v2 : Int32) (v3 : Nat) (v4 : Int32) (v5 : Int32) (t0 : Int32) (h : AHeap) : Option (Int32 × AHeap) :=
  (bz t0).bind fun z => some (z, h)
theorem Sp_fitsAt_j85_J {E : JE} {l : Launch} {G : GX} {v : Int32} {h' : AHeap} (ok : JOK E l G kSp_fitsAt 0 0 (some (.int v)) h') (v0 : Nat) (v1 : Int32) (v2 : Int32) (v3 : Nat) (v4 : Int32) (v5 : Int32) (t0 : Int32) (h : AHeap) : J E kSp_fitsAt (Sp_fitsAt_j85 v0 v1 v2 v3 v4 v5 t0 h) (fun z => z = (v, h')) 85 [some (.ref v0), some (.int v1), some (.int v2), some (.ref v3), some (.int v4), some (.int v5), none] [.int t0] h 0 0 := by
  unfold Sp_fitsAt_j85
  exact J_zreturn ok (dOf dX10_fitsAt 42 rfl) rfl (Eq.refl 0) (Nat.le_refl 0)
def Sp_fitsAt_j84 (v0 : Nat) (v1 : Int32) (v2 : Int32) (v3 : Nat) (v4 : Int32) (v5 : Int32) (h : AHeap) : Option (Int32 × AHeap) :=
  Sp_fitsAt_j85 v0 v1 v2 v3 v4 v5 0 h
theorem Sp_fitsAt_j84_J {E : JE} {l : Launch} {G : GX} {v : Int32} {h' : AHeap} (ok : JOK E l G kSp_fitsAt 0 0 (some (.int v)) h') (v0 : Nat) (v1 : Int32) (v2 : Int32) (v3 : Nat) (v4 : Int32) (v5 : Int32) (h : AHeap) : J E kSp_fitsAt (Sp_fitsAt_j84 v0 v1 v2 v3 v4 v5 h) (fun z => z = (v, h')) 84 [some (.ref v0), some (.int v1), some (.int v2), some (.ref v3), some (.int v4), some (.int v5), none] [] h 0 0 := by
  unfold Sp_fitsAt_j84
  refine J_iconst (v := 0) (pc' := 85) ok (dOf dX10_fitsAt 41 rfl) rfl (by decide) ?_
  exact Sp_fitsAt_j85_J ok v0 v1 v2 v3 v4 v5 0 h
def Sp_fitsAt (v0 : Nat) (v1 : Int32) (v2 : Int32) (h : AHeap) : Option (Int32 × AHeap) :=
  (gfR h v0 10 0).bind fun a1 => (gfR h a1 8 0).bind fun a2 => (gfR h v0 10 0).bind fun a3 => (gfR h a3 8 1).bind fun a4 => (gfR h a4 2 2).bind fun a5 => (ald 0 h a5 v1).bind fun x6 => (gfR h v0 10 0).bind fun a7 => (gfR h a7 8 1).bind fun a8 => (chk h a8 2).bind fun _ => bnd2 (Cuts_valueAt a8 a2 v1 v2 h) fun x10 h9 => (gfR h9 v0 10 0).bind fun a11 => (gfR h9 a11 8 1).bind fun a12 => (gfR h9 a12 2 3).bind fun a13 => (ald 0 h9 a13 v1).bind fun x14 => (if ¬ x14 = 1 then (gfR h9 v0 10 2).bind fun a15 => (gfR h9 a15 3 0).bind fun a16 => (chk h9 a16 0).bind fun _ => bnd2 (Book_priceAt a16 a2 x6 v2 h9) fun x18 h17 => (if x18 = (-1) then Sp_fitsAt_j119 v0 v1 v2 a2 x6 x10 x18 h17 else (if ¬ x10 = x18 then Sp_fitsAt_j119 v0 v1 v2 a2 x6 x10 x18 h17 else Sp_fitsAt_j120 v0 v1 v2 a2 x6 x10 x18 1 h17)) else (if x10 ≤ 0 then Sp_fitsAt_j84 v0 v1 v2 a2 x6 x10 h9 else (gfR h9 v0 10 2).bind fun a19 => (gfR h9 a19 3 0).bind fun a20 => (gfR h9 a20 0 0).bind fun a21 => (chk h9 a21 4).bind fun _ => bnd2 (Frt_lackAt a21 a2 x6 v2 h9) fun x23 h22 => (if ¬ x10 = x23 then Sp_fitsAt_j84 v0 v1 v2 a2 x6 x10 h22 else Sp_fitsAt_j85 v0 v1 v2 a2 x6 x10 1 h22)))
theorem t_Sp_fitsAt {l : Launch} {G : GX} {v0 : Nat} {v1 : Int32} {v2 : Int32} {h : AHeap} {v : Int32} {h1 : AHeap} (hf : Sp_fitsAt v0 v1 v2 h = some (v, h1)) : CT l G kSp_fitsAt 0 0 [.ref v0, .int v1, .int v2] h (some (.int v)) h1 := by
  refine CT_of (ls := [some (.ref v0), some (.int v1), some (.int v2), none, none, none, none]) (Z := fun z => z = (v, h1)) (by decide +kernel) (Nat.le_of_ble_eq_true rfl) hf rfl ⟨rfl, rfl, rfl, trivial⟩ (fun E ok => ?_)
  unfold Sp_fitsAt
  refine J_aload_n (pc' := 1) ok (dOf dX10_fitsAt 0 rfl) rfl rfl rfl ?_
  refine J_getR (ci := 10) (kf := 0) (C := RX10) (T := TX10) (N := 14) (pc' := 4) ok (dOf dX10_fitsAt 1 rfl) rfl (by decide) rfl (by decide) win_10 wfl_X10_10 (fun a1 => ?_)
  refine J_getR (ci := 8) (kf := 0) (C := RX8) (T := TX8) (N := 3) (pc' := 7) ok (dOf dX10_fitsAt 2 rfl) rfl (by decide) rfl (by decide) win_8 wfl_X10_113 (fun a2 => ?_)
  refine J_astore_n (ls' := [some (.ref v0), some (.int v1), some (.int v2), some (.ref a2), none, none, none]) (pc' := 8) ok (dOf dX10_fitsAt 3 rfl) rfl rfl (Nat.le_of_ble_eq_true rfl) rfl rfl ?_
  refine J_aload_n (pc' := 9) ok (dOf dX10_fitsAt 4 rfl) rfl rfl rfl ?_
  refine J_getR (ci := 10) (kf := 0) (C := RX10) (T := TX10) (N := 14) (pc' := 12) ok (dOf dX10_fitsAt 5 rfl) rfl (by decide) rfl (by decide) win_10 wfl_X10_10 (fun a3 => ?_)
  refine J_getR (ci := 8) (kf := 1) (C := RX8) (T := TX8) (N := 3) (pc' := 15) ok (dOf dX10_fitsAt 6 rfl) rfl (by decide) rfl (by decide) win_8 wfl_X10_120 (fun a4 => ?_)
  refine J_getR (ci := 2) (kf := 2) (C := RX2) (T := TX2) (N := 7) (pc' := 18) ok (dOf dX10_fitsAt 7 rfl) rfl (by decide) rfl (by decide) win_2 wfl_X10_258 (fun a5 => ?_)
  refine J_iload_n (pc' := 19) ok (dOf dX10_fitsAt 8 rfl) rfl rfl rfl ?_
  refine J_iald (pc' := 20) ok (dOf dX10_fitsAt 9 rfl) rfl (fun x6 => ?_)
  refine J_istore (ls' := [some (.ref v0), some (.int v1), some (.int v2), some (.ref a2), some (.int x6), none, none]) (pc' := 22) ok (dOf dX10_fitsAt 10 rfl) rfl (Nat.le_of_ble_eq_true rfl) rfl rfl ?_
  refine J_aload_n (pc' := 23) ok (dOf dX10_fitsAt 11 rfl) rfl rfl rfl ?_
  refine J_getR (ci := 10) (kf := 0) (C := RX10) (T := TX10) (N := 14) (pc' := 26) ok (dOf dX10_fitsAt 12 rfl) rfl (by decide) rfl (by decide) win_10 wfl_X10_10 (fun a7 => ?_)
  refine J_getR (ci := 8) (kf := 1) (C := RX8) (T := TX8) (N := 3) (pc' := 29) ok (dOf dX10_fitsAt 13 rfl) rfl (by decide) rfl (by decide) win_8 wfl_X10_120 (fun a8 => ?_)
  refine J_aload_n (pc' := 30) ok (dOf dX10_fitsAt 14 rfl) rfl rfl rfl ?_
  refine J_iload_n (pc' := 31) ok (dOf dX10_fitsAt 15 rfl) rfl rfl rfl ?_
  refine J_iload_n (pc' := 32) ok (dOf dX10_fitsAt 16 rfl) rfl rfl rfl ?_
  refine J_callVi (k2 := kCuts_valueAt) (ci := 2) (T := TX2) (N := 7) (as := [.ref a2, .int v1, .int v2]) (pc' := 35) ok (dOf dX10_fitsAt 17 rfl) rfl (cw_Cuts_valueAt (by decide) (by decide)) wml_X10_276 winst_X2_valueAt wsel_X2_valueAt rfl ⟨Nat.le_refl 0, Nat.le_refl 0⟩ (Nat.le_of_ble_eq_true rfl) rfl (fun _ _ hf => t_Cuts_valueAt hf) (fun x10 h9 => ?_)
  refine J_istore (ls' := [some (.ref v0), some (.int v1), some (.int v2), some (.ref a2), some (.int x6), some (.int x10), none]) (pc' := 37) ok (dOf dX10_fitsAt 18 rfl) rfl (Nat.le_of_ble_eq_true rfl) rfl rfl ?_
  refine J_aload_n (pc' := 38) ok (dOf dX10_fitsAt 19 rfl) rfl rfl rfl ?_
  refine J_getR (ci := 10) (kf := 0) (C := RX10) (T := TX10) (N := 14) (pc' := 41) ok (dOf dX10_fitsAt 20 rfl) rfl (by decide) rfl (by decide) win_10 wfl_X10_10 (fun a11 => ?_)
  refine J_getR (ci := 8) (kf := 1) (C := RX8) (T := TX8) (N := 3) (pc' := 44) ok (dOf dX10_fitsAt 21 rfl) rfl (by decide) rfl (by decide) win_8 wfl_X10_120 (fun a12 => ?_)
  refine J_getR (ci := 2) (kf := 3) (C := RX2) (T := TX2) (N := 7) (pc' := 47) ok (dOf dX10_fitsAt 22 rfl) rfl (by decide) rfl (by decide) win_2 wfl_X10_260 (fun a13 => ?_)
  refine J_iload_n (pc' := 48) ok (dOf dX10_fitsAt 23 rfl) rfl rfl rfl ?_
  refine J_iald (pc' := 49) ok (dOf dX10_fitsAt 24 rfl) rfl (fun x14 => ?_)
  refine J_iconst (v := 1) (pc' := 50) ok (dOf dX10_fitsAt 25 rfl) rfl (by decide) ?_
  refine J_icmp_ne (tgt := 86) (pc' := 53) ok (dOf dX10_fitsAt 26 rfl) rfl (by decide) ?_ ?_
  · refine J_aload_n (pc' := 87) ok (dOf dX10_fitsAt 43 rfl) rfl rfl rfl ?_
    refine J_getR (ci := 10) (kf := 2) (C := RX10) (T := TX10) (N := 14) (pc' := 90) ok (dOf dX10_fitsAt 44 rfl) rfl (by decide) rfl (by decide) win_10 wfl_X10_23 (fun a15 => ?_)
    refine J_getR (ci := 3) (kf := 0) (C := RX3) (T := TX3) (N := 12) (pc' := 93) ok (dOf dX10_fitsAt 45 rfl) rfl (by decide) rfl (by decide) win_3 wfl_X10_126 (fun a16 => ?_)
    refine J_aload_n (pc' := 94) ok (dOf dX10_fitsAt 46 rfl) rfl rfl rfl ?_
    refine J_iload (pc' := 96) ok (dOf dX10_fitsAt 47 rfl) rfl rfl ?_
    refine J_iload_n (pc' := 97) ok (dOf dX10_fitsAt 48 rfl) rfl rfl rfl ?_
    refine J_callVi (k2 := kBook_priceAt) (ci := 0) (T := TX0) (N := 2) (as := [.ref a2, .int x6, .int v2]) (pc' := 100) ok (dOf dX10_fitsAt 49 rfl) rfl (cw_Book_priceAt (by decide) (by decide)) wml_X10_283 winst_X0_priceAt wsel_X0_priceAt rfl ⟨Nat.le_refl 0, Nat.le_refl 0⟩ (Nat.le_of_ble_eq_true rfl) rfl (fun _ _ hf => t_Book_priceAt hf) (fun x18 h17 => ?_)
    refine J_istore (ls' := [some (.ref v0), some (.int v1), some (.int v2), some (.ref a2), some (.int x6), some (.int x10), some (.int x18)]) (pc' := 102) ok (dOf dX10_fitsAt 50 rfl) rfl (Nat.le_of_ble_eq_true rfl) rfl rfl ?_
    refine J_iload (pc' := 104) ok (dOf dX10_fitsAt 51 rfl) rfl rfl ?_
    refine J_iconst (v := (-1)) (pc' := 105) ok (dOf dX10_fitsAt 52 rfl) rfl (by decide) ?_
    refine J_icmp_eq (tgt := 119) (pc' := 108) ok (dOf dX10_fitsAt 53 rfl) rfl (by decide) ?_ ?_
    · exact Sp_fitsAt_j119_J ok v0 v1 v2 a2 x6 x10 x18 h17
    · refine J_iload (pc' := 110) ok (dOf dX10_fitsAt 54 rfl) rfl rfl ?_
      refine J_iload (pc' := 112) ok (dOf dX10_fitsAt 55 rfl) rfl rfl ?_
      refine J_icmp_ne (tgt := 119) (pc' := 115) ok (dOf dX10_fitsAt 56 rfl) rfl (by decide) ?_ ?_
      · exact Sp_fitsAt_j119_J ok v0 v1 v2 a2 x6 x10 x18 h17
      · refine J_iconst (v := 1) (pc' := 116) ok (dOf dX10_fitsAt 57 rfl) rfl (by decide) ?_
        refine J_goto (tgt := 120) ok (dOf dX10_fitsAt 58 rfl) (by decide) ?_
        exact Sp_fitsAt_j120_J ok v0 v1 v2 a2 x6 x10 x18 1 h17
  · refine J_iload (pc' := 55) ok (dOf dX10_fitsAt 27 rfl) rfl rfl ?_
    refine J_if_le (tgt := 84) (pc' := 58) ok (dOf dX10_fitsAt 28 rfl) rfl (by decide) ?_ ?_
    · exact Sp_fitsAt_j84_J ok v0 v1 v2 a2 x6 x10 h9
    · refine J_iload (pc' := 60) ok (dOf dX10_fitsAt 29 rfl) rfl rfl ?_
      refine J_aload_n (pc' := 61) ok (dOf dX10_fitsAt 30 rfl) rfl rfl rfl ?_
      refine J_getR (ci := 10) (kf := 2) (C := RX10) (T := TX10) (N := 14) (pc' := 64) ok (dOf dX10_fitsAt 31 rfl) rfl (by decide) rfl (by decide) win_10 wfl_X10_23 (fun a19 => ?_)
      refine J_getR (ci := 3) (kf := 0) (C := RX3) (T := TX3) (N := 12) (pc' := 67) ok (dOf dX10_fitsAt 32 rfl) rfl (by decide) rfl (by decide) win_3 wfl_X10_126 (fun a20 => ?_)
      refine J_getR (ci := 0) (kf := 0) (C := RX0) (T := TX0) (N := 2) (pc' := 70) ok (dOf dX10_fitsAt 33 rfl) rfl (by decide) rfl (by decide) win_0 wfl_X10_286 (fun a21 => ?_)
      refine J_aload_n (pc' := 71) ok (dOf dX10_fitsAt 34 rfl) rfl rfl rfl ?_
      refine J_iload (pc' := 73) ok (dOf dX10_fitsAt 35 rfl) rfl rfl ?_
      refine J_iload_n (pc' := 74) ok (dOf dX10_fitsAt 36 rfl) rfl rfl rfl ?_
      refine J_callVi (k2 := kFrt_lackAt) (ci := 4) (T := TX4) (N := 12) (as := [.ref a2, .int x6, .int v2]) (pc' := 77) ok (dOf dX10_fitsAt 37 rfl) rfl (cw_Frt_lackAt (by decide) (by decide)) wml_X10_290 winst_X4_lackAt wsel_X4_lackAt rfl ⟨Nat.le_refl 0, Nat.le_refl 0⟩ (Nat.le_of_ble_eq_true rfl) rfl (fun _ _ hf => t_Frt_lackAt hf) (fun x23 h22 => ?_)
      refine J_icmp_ne (tgt := 84) (pc' := 80) ok (dOf dX10_fitsAt 38 rfl) rfl (by decide) ?_ ?_
      · exact Sp_fitsAt_j84_J ok v0 v1 v2 a2 x6 x10 h22
      · refine J_iconst (v := 1) (pc' := 81) ok (dOf dX10_fitsAt 39 rfl) rfl (by decide) ?_
        refine J_goto (tgt := 85) ok (dOf dX10_fitsAt 40 rfl) (by decide) ?_
        exact Sp_fitsAt_j85_J ok v0 v1 v2 a2 x6 x10 1 h22
-- X10_exact
abbrev kSp_exact : Cd := (yX10_exact, cX10_exact, 4, (some .int), 6, 150)
theorem dX10_exact : dcheck cX10_exact [(0, .iload_n 1, 1), (1, .ifCond .lt 17, 3), (4, .iload_n 1, 1), (5, .aload_n 0, 1), (6, .getfield 10, 3), (9, .getfield 120, 3), (12, .getfield 123, 3), (15, .if_icmp .lt 5, 3), (18, .iconst (-1), 1), (19, .ireturn, 1), (20, .iconst 0, 1), (21, .istore_n 2, 1), (22, .iconst 0, 1), (23, .istore_n 3, 1), (24, .iload_n 3, 1), (25, .sipush 256, 3), (28, .if_icmp .ge 35, 3), (31, .aload_n 0, 1), (32, .getfield 10, 3), (35, .getfield 113, 3), (38, .iload_n 3, 1), (39, .invokevirtual 272, 3), (42, .ifCond .eq 15, 3), (45, .aload_n 0, 1), (46, .iload_n 1, 1), (47, .iload_n 3, 1), (48, .invokevirtual 280, 3), (51, .ifCond .eq 6, 3), (54, .iinc 2 1, 3), (57, .iinc 3 1, 3), (60, .goto (-36), 3), (63, .iload_n 2, 1), (64, .ireturn, 1)] = true := by decide +kernel
theorem cw_Sp_exact {k : Cd} (h1 : kSp_exact.2.2.2.2.1 + 1 ≤ k.2.2.2.2.1) (h2 : 8 + (kSp_exact.2.2.1 + 11) + kSp_exact.2.2.2.2.2 ≤ k.2.2.2.2.2) : Cw k kSp_exact 1 := ⟨wcode_X10_exact, wini_SplitProgram, ⟨by decide, by decide, by decide +kernel⟩, h1, h2⟩
def Sp_exact_j18 (v0 : Nat) (v1 : Int32) (h : AHeap) : Option (Int32 × AHeap) :=
  some ((-1), h)
theorem Sp_exact_j18_J {E : JE} {l : Launch} {G : GX} {v : Int32} {h' : AHeap} (ok : JOK E l G kSp_exact 0 0 (some (.int v)) h') (v0 : Nat) (v1 : Int32) (h : AHeap) : J E kSp_exact (Sp_exact_j18 v0 v1 h) (fun z => z = (v, h')) 18 [some (.ref v0), some (.int v1), none, none] [] h 0 0 := by
  unfold Sp_exact_j18
  refine J_iconst (v := (-1)) (pc' := 19) ok (dOf dX10_exact 8 rfl) rfl (by decide) ?_
  exact J_ireturn ok (dOf dX10_exact 9 rfl) rfl (Eq.refl 0) (Nat.le_refl 0)
def Sp_exact_j57 (v0 : Nat) (v1 : Int32) (v2 : Int32) (v3 : Int32) (h : AHeap) : Option ((Int32 × Int32 × AHeap) ⊕ ((Int32 × Int32 × AHeap))) :=
  some (Sum.inl (v2, v3 + 1, h))
theorem Sp_exact_j57_J {E : JE} {l : Launch} {G : GX} {r : Option Value} {h' : AHeap} (ok : JOK E l G kSp_exact 0 0 r h') (v0 : Nat) (v1 : Int32) (v2 : Int32) (v3 : Int32) (h : AHeap) {Y : (Int32 × Int32 × AHeap) ⊕ ((Int32 × Int32 × AHeap)) → Prop} (k1 : ∀ s' : Int32 × Int32 × AHeap, Y (.inl s') → JW E kSp_exact 24 [some (.ref v0), some (.int v1), some (.int s'.1), some (.int s'.2.1)] [] s'.2.2 0 0) (kx63 : ∀ q : Int32 × Int32 × AHeap, Y (.inr q) → JW E kSp_exact 63 [some (.ref v0), some (.int v1), some (.int q.1), some (.int q.2.1)] [] q.2.2 0 0) : J E kSp_exact (Sp_exact_j57 v0 v1 v2 v3 h) Y 57 [some (.ref v0), some (.int v1), some (.int v2), some (.int v3)] [] h 0 0 := by
  unfold Sp_exact_j57
  refine J_iinc (v := v3 + 1) (ls' := [some (.ref v0), some (.int v1), some (.int v2), some (.int (v3 + 1))]) (pc' := 60) ok (dOf dX10_exact 29 rfl) rfl rfl (by rfl) (Nat.le_of_ble_eq_true rfl) rfl rfl ?_
  refine J_goto (tgt := 24) ok (dOf dX10_exact 30 rfl) (by decide) ?_
  exact J_fin (k1 (v2, v3 + 1, h))
def Sp_exact_b24 (v0 : Nat) (v1 : Int32) (s : Int32 × Int32 × AHeap) : Option ((Int32 × Int32 × AHeap) ⊕ ((Int32 × Int32 × AHeap))) :=
  (if 256 ≤ s.2.1 then some (Sum.inr (s.1, s.2.1, s.2.2)) else (gfR s.2.2 v0 10 0).bind fun a4 => (gfR s.2.2 a4 8 0).bind fun a5 => (chk s.2.2 a5 6).bind fun _ => bnd2 (Prog_isPlan a5 s.2.1 s.2.2) fun x7 h6 => (if x7 = 0 then Sp_exact_j57 v0 v1 s.1 s.2.1 h6 else (chk h6 v0 10).bind fun _ => bnd2 (Sp_fitsAt v0 v1 s.2.1 h6) fun x9 h8 => (if x9 = 0 then Sp_exact_j57 v0 v1 s.1 s.2.1 h8 else Sp_exact_j57 v0 v1 (s.1 + 1) s.2.1 h8)))
theorem Sp_exact_b24_J {E : JE} {l : Launch} {G : GX} {r : Option Value} {h' : AHeap} (ok : JOK E l G kSp_exact 0 0 r h') (v0 : Nat) (v1 : Int32) {Y : (Int32 × Int32 × AHeap) ⊕ ((Int32 × Int32 × AHeap)) → Prop} (k1 : ∀ s' : Int32 × Int32 × AHeap, Y (.inl s') → JW E kSp_exact 24 [some (.ref v0), some (.int v1), some (.int s'.1), some (.int s'.2.1)] [] s'.2.2 0 0) (kx63 : ∀ q : Int32 × Int32 × AHeap, Y (.inr q) → JW E kSp_exact 63 [some (.ref v0), some (.int v1), some (.int q.1), some (.int q.2.1)] [] q.2.2 0 0) (s : Int32 × Int32 × AHeap) : J E kSp_exact (Sp_exact_b24 v0 v1 s) Y 24 [some (.ref v0), some (.int v1), some (.int s.1), some (.int s.2.1)] [] s.2.2 0 0 := by
  unfold Sp_exact_b24
  refine J_iload_n (pc' := 25) ok (dOf dX10_exact 14 rfl) rfl rfl rfl ?_
  refine J_sipush (v := 256) (pc' := 28) ok (dOf dX10_exact 15 rfl) rfl (by decide) ?_
  refine J_icmp_ge (tgt := 63) (pc' := 31) ok (dOf dX10_exact 16 rfl) rfl (by decide) ?_ ?_
  · exact J_fin (kx63 (s.1, s.2.1, s.2.2))
  · refine J_aload_n (pc' := 32) ok (dOf dX10_exact 17 rfl) rfl rfl rfl ?_
    refine J_getR (ci := 10) (kf := 0) (C := RX10) (T := TX10) (N := 14) (pc' := 35) ok (dOf dX10_exact 18 rfl) rfl (by decide) rfl (by decide) win_10 wfl_X10_10 (fun a4 => ?_)
    refine J_getR (ci := 8) (kf := 0) (C := RX8) (T := TX8) (N := 3) (pc' := 38) ok (dOf dX10_exact 19 rfl) rfl (by decide) rfl (by decide) win_8 wfl_X10_113 (fun a5 => ?_)
    refine J_iload_n (pc' := 39) ok (dOf dX10_exact 20 rfl) rfl rfl rfl ?_
    refine J_callVi (k2 := kProg_isPlan) (ci := 6) (T := TX6) (N := 9) (as := [.int s.2.1]) (pc' := 42) ok (dOf dX10_exact 21 rfl) rfl (cw_Prog_isPlan (by decide) (by decide)) wml_X10_272 winst_X6_isPlan wsel_X6_isPlan rfl ⟨Nat.le_refl 0, Nat.le_refl 0⟩ (Nat.le_of_ble_eq_true rfl) rfl (fun _ _ hf => t_Prog_isPlan hf) (fun x7 h6 => ?_)
    refine J_if_eq (tgt := 57) (pc' := 45) ok (dOf dX10_exact 22 rfl) rfl (by decide) ?_ ?_
    · exact Sp_exact_j57_J ok v0 v1 s.1 s.2.1 h6 k1 kx63
    · refine J_aload_n (pc' := 46) ok (dOf dX10_exact 23 rfl) rfl rfl rfl ?_
      refine J_iload_n (pc' := 47) ok (dOf dX10_exact 24 rfl) rfl rfl rfl ?_
      refine J_iload_n (pc' := 48) ok (dOf dX10_exact 25 rfl) rfl rfl rfl ?_
      refine J_callVi (k2 := kSp_fitsAt) (ci := 10) (T := TX10) (N := 14) (as := [.int v1, .int s.2.1]) (pc' := 51) ok (dOf dX10_exact 26 rfl) rfl (cw_Sp_fitsAt (by decide) (by decide)) wml_X10_280 winst_X10_fitsAt wsel_X10_fitsAt rfl ⟨Nat.le_refl 0, Nat.le_refl 0⟩ (Nat.le_of_ble_eq_true rfl) rfl (fun _ _ hf => t_Sp_fitsAt hf) (fun x9 h8 => ?_)
      refine J_if_eq (tgt := 57) (pc' := 54) ok (dOf dX10_exact 27 rfl) rfl (by decide) ?_ ?_
      · exact Sp_exact_j57_J ok v0 v1 s.1 s.2.1 h8 k1 kx63
      · refine J_iinc (v := s.1 + 1) (ls' := [some (.ref v0), some (.int v1), some (.int (s.1 + 1)), some (.int s.2.1)]) (pc' := 57) ok (dOf dX10_exact 28 rfl) rfl rfl (by rfl) (Nat.le_of_ble_eq_true rfl) rfl rfl ?_
        exact Sp_exact_j57_J ok v0 v1 (s.1 + 1) s.2.1 h8 k1 kx63
def Sp_exact_j63 (v0 : Nat) (v1 : Int32) (v2 : Int32) (v3 : Int32) (h : AHeap) : Option (Int32 × AHeap) :=
  some (v2, h)
theorem Sp_exact_j63_J {E : JE} {l : Launch} {G : GX} {v : Int32} {h' : AHeap} (ok : JOK E l G kSp_exact 0 0 (some (.int v)) h') (v0 : Nat) (v1 : Int32) (v2 : Int32) (v3 : Int32) (h : AHeap) : J E kSp_exact (Sp_exact_j63 v0 v1 v2 v3 h) (fun z => z = (v, h')) 63 [some (.ref v0), some (.int v1), some (.int v2), some (.int v3)] [] h 0 0 := by
  unfold Sp_exact_j63
  refine J_iload_n (pc' := 64) ok (dOf dX10_exact 31 rfl) rfl rfl rfl ?_
  exact J_ireturn ok (dOf dX10_exact 32 rfl) rfl (Eq.refl 0) (Nat.le_refl 0)
def Sp_exact (v0 : Nat) (v1 : Int32) (h : AHeap) : Option (Int32 × AHeap) :=
  (if v1 < 0 then Sp_exact_j18 v0 v1 h else (gfR h v0 10 0).bind fun a1 => (gfR h a1 8 1).bind fun a2 => (gfI h a2 2 1).bind fun x3 => (if v1 < x3 then (iter (Sp_exact_b24 v0 v1) Lmax (0, 0, h)).bind (fun (q24 : Int32 × Int32 × AHeap) => Sp_exact_j63 v0 v1 q24.1 q24.2.1 q24.2.2) else Sp_exact_j18 v0 v1 h))
theorem t_Sp_exact {l : Launch} {G : GX} {v0 : Nat} {v1 : Int32} {h : AHeap} {v : Int32} {h1 : AHeap} (hf : Sp_exact v0 v1 h = some (v, h1)) : CT l G kSp_exact 0 0 [.ref v0, .int v1] h (some (.int v)) h1 := by
  refine CT_of (ls := [some (.ref v0), some (.int v1), none, none]) (Z := fun z => z = (v, h1)) (by decide +kernel) (Nat.le_of_ble_eq_true rfl) hf rfl ⟨rfl, rfl, trivial⟩ (fun E ok => ?_)
  unfold Sp_exact
  refine J_iload_n (pc' := 1) ok (dOf dX10_exact 0 rfl) rfl rfl rfl ?_
  refine J_if_lt (tgt := 18) (pc' := 4) ok (dOf dX10_exact 1 rfl) rfl (by decide) ?_ ?_
  · exact Sp_exact_j18_J ok v0 v1 h
  · refine J_iload_n (pc' := 5) ok (dOf dX10_exact 2 rfl) rfl rfl rfl ?_
    refine J_aload_n (pc' := 6) ok (dOf dX10_exact 3 rfl) rfl rfl rfl ?_
    refine J_getR (ci := 10) (kf := 0) (C := RX10) (T := TX10) (N := 14) (pc' := 9) ok (dOf dX10_exact 4 rfl) rfl (by decide) rfl (by decide) win_10 wfl_X10_10 (fun a1 => ?_)
    refine J_getR (ci := 8) (kf := 1) (C := RX8) (T := TX8) (N := 3) (pc' := 12) ok (dOf dX10_exact 5 rfl) rfl (by decide) rfl (by decide) win_8 wfl_X10_120 (fun a2 => ?_)
    refine J_getI (ci := 2) (kf := 1) (C := RX2) (T := TX2) (N := 7) (pc' := 15) ok (dOf dX10_exact 6 rfl) rfl (by decide) rfl (by decide) win_2 wfl_X10_123 (fun x3 => ?_)
    refine J_icmp_lt (tgt := 20) (pc' := 18) ok (dOf dX10_exact 7 rfl) rfl (by decide) ?_ ?_
    · refine J_iconst (v := 0) (pc' := 21) ok (dOf dX10_exact 10 rfl) rfl (by decide) ?_
      refine J_istore_n (ls' := [some (.ref v0), some (.int v1), some (.int 0), none]) (pc' := 22) ok (dOf dX10_exact 11 rfl) rfl rfl (Nat.le_of_ble_eq_true rfl) rfl rfl ?_
      refine J_iconst (v := 0) (pc' := 23) ok (dOf dX10_exact 12 rfl) rfl (by decide) ?_
      refine J_istore_n (ls' := [some (.ref v0), some (.int v1), some (.int 0), some (.int 0)]) (pc' := 24) ok (dOf dX10_exact 13 rfl) rfl rfl (Nat.le_of_ble_eq_true rfl) rfl rfl ?_
      refine J_iter (lf := fun z24 => [some (.ref v0), some (.int v1), some (.int z24.1), some (.int z24.2.1)]) (sf := fun _ => []) (hf := fun z24 => z24.2.2) (px := (fun (q24 : Int32 × Int32 × AHeap) => 63)) (lx := (fun (q24 : Int32 × Int32 × AHeap) => [some (.ref v0), some (.int v1), some (.int q24.1), some (.int q24.2.1)])) (sx := (fun (q24 : Int32 × Int32 × AHeap) => [])) (hx := (fun (q24 : Int32 × Int32 × AHeap) => q24.2.2)) (fun Y2 z24 m1 m2 => Sp_exact_b24_J ok v0 v1 m1 m2 z24) (fun q24 => ?_) Lmax _
      exact Sp_exact_j63_J ok v0 v1 q24.1 q24.2.1 q24.2.2
    · exact Sp_exact_j18_J ok v0 v1 h
-- X10_price
abbrev kSp_price : Cd := (yX10_price, cX10_price, 3, (some .int), 5, 124)
theorem dX10_price : dcheck cX10_price [(0, .aload_n 0, 1), (1, .getfield 10, 3), (4, .getfield 113, 3), (7, .iload_n 1, 1), (8, .invokevirtual 171, 3), (11, .ifCond .eq 17, 3), (14, .aload_n 0, 1), (15, .getfield 10, 3), (18, .getfield 113, 3), (21, .iload_n 2, 1), (22, .invokevirtual 272, 3), (25, .ifCond .ne 5, 3), (28, .iconst (-1), 1), (29, .ireturn, 1), (30, .aload_n 0, 1), (31, .getfield 23, 3), (34, .getfield 126, 3), (37, .aload_n 0, 1), (38, .getfield 10, 3), (41, .getfield 113, 3), (44, .iload_n 1, 1), (45, .iload_n 2, 1), (46, .invokevirtual 283, 3), (49, .ireturn, 1)] = true := by decide +kernel
theorem cw_Sp_price {k : Cd} (h1 : kSp_price.2.2.2.2.1 + 1 ≤ k.2.2.2.2.1) (h2 : 8 + (kSp_price.2.2.1 + 11) + kSp_price.2.2.2.2.2 ≤ k.2.2.2.2.2) : Cw k kSp_price 2 := ⟨wcode_X10_price, wini_SplitProgram, ⟨by decide, by decide, by decide +kernel⟩, h1, h2⟩
def Sp_price_j28 (v0 : Nat) (v1 : Int32) (v2 : Int32) (h : AHeap) : Option (Int32 × AHeap) :=
  some ((-1), h)
theorem Sp_price_j28_J {E : JE} {l : Launch} {G : GX} {v : Int32} {h' : AHeap} (ok : JOK E l G kSp_price 0 0 (some (.int v)) h') (v0 : Nat) (v1 : Int32) (v2 : Int32) (h : AHeap) : J E kSp_price (Sp_price_j28 v0 v1 v2 h) (fun z => z = (v, h')) 28 [some (.ref v0), some (.int v1), some (.int v2)] [] h 0 0 := by
  unfold Sp_price_j28
  refine J_iconst (v := (-1)) (pc' := 29) ok (dOf dX10_price 12 rfl) rfl (by decide) ?_
  exact J_ireturn ok (dOf dX10_price 13 rfl) rfl (Eq.refl 0) (Nat.le_refl 0)
def Sp_price (v0 : Nat) (v1 : Int32) (v2 : Int32) (h : AHeap) : Option (Int32 × AHeap) :=
  (gfR h v0 10 0).bind fun a1 => (gfR h a1 8 0).bind fun a2 => (chk h a2 6).bind fun _ => bnd2 (Prog_hasCase a2 v1 h) fun x4 h3 => (if x4 = 0 then Sp_price_j28 v0 v1 v2 h3 else (gfR h3 v0 10 0).bind fun a5 => (gfR h3 a5 8 0).bind fun a6 => (chk h3 a6 6).bind fun _ => bnd2 (Prog_isPlan a6 v2 h3) fun x8 h7 => (if ¬ x8 = 0 then (gfR h7 v0 10 2).bind fun a9 => (gfR h7 a9 3 0).bind fun a10 => (gfR h7 v0 10 0).bind fun a11 => (gfR h7 a11 8 0).bind fun a12 => (chk h7 a10 0).bind fun _ => bnd2 (Book_priceAt a10 a12 v1 v2 h7) fun x14 h13 => some (x14, h13) else Sp_price_j28 v0 v1 v2 h7))
theorem t_Sp_price {l : Launch} {G : GX} {v0 : Nat} {v1 : Int32} {v2 : Int32} {h : AHeap} {v : Int32} {h1 : AHeap} (hf : Sp_price v0 v1 v2 h = some (v, h1)) : CT l G kSp_price 0 0 [.ref v0, .int v1, .int v2] h (some (.int v)) h1 := by
  refine CT_of (ls := [some (.ref v0), some (.int v1), some (.int v2)]) (Z := fun z => z = (v, h1)) (by decide +kernel) (Nat.le_of_ble_eq_true rfl) hf rfl ⟨rfl, rfl, rfl, trivial⟩ (fun E ok => ?_)
  unfold Sp_price
  refine J_aload_n (pc' := 1) ok (dOf dX10_price 0 rfl) rfl rfl rfl ?_
  refine J_getR (ci := 10) (kf := 0) (C := RX10) (T := TX10) (N := 14) (pc' := 4) ok (dOf dX10_price 1 rfl) rfl (by decide) rfl (by decide) win_10 wfl_X10_10 (fun a1 => ?_)
  refine J_getR (ci := 8) (kf := 0) (C := RX8) (T := TX8) (N := 3) (pc' := 7) ok (dOf dX10_price 2 rfl) rfl (by decide) rfl (by decide) win_8 wfl_X10_113 (fun a2 => ?_)
  refine J_iload_n (pc' := 8) ok (dOf dX10_price 3 rfl) rfl rfl rfl ?_
  refine J_callVi (k2 := kProg_hasCase) (ci := 6) (T := TX6) (N := 9) (as := [.int v1]) (pc' := 11) ok (dOf dX10_price 4 rfl) rfl (cw_Prog_hasCase (by decide) (by decide)) wml_X10_171 winst_X6_hasCase wsel_X6_hasCase rfl ⟨Nat.le_refl 0, Nat.le_refl 0⟩ (Nat.le_of_ble_eq_true rfl) rfl (fun _ _ hf => t_Prog_hasCase hf) (fun x4 h3 => ?_)
  refine J_if_eq (tgt := 28) (pc' := 14) ok (dOf dX10_price 5 rfl) rfl (by decide) ?_ ?_
  · exact Sp_price_j28_J ok v0 v1 v2 h3
  · refine J_aload_n (pc' := 15) ok (dOf dX10_price 6 rfl) rfl rfl rfl ?_
    refine J_getR (ci := 10) (kf := 0) (C := RX10) (T := TX10) (N := 14) (pc' := 18) ok (dOf dX10_price 7 rfl) rfl (by decide) rfl (by decide) win_10 wfl_X10_10 (fun a5 => ?_)
    refine J_getR (ci := 8) (kf := 0) (C := RX8) (T := TX8) (N := 3) (pc' := 21) ok (dOf dX10_price 8 rfl) rfl (by decide) rfl (by decide) win_8 wfl_X10_113 (fun a6 => ?_)
    refine J_iload_n (pc' := 22) ok (dOf dX10_price 9 rfl) rfl rfl rfl ?_
    refine J_callVi (k2 := kProg_isPlan) (ci := 6) (T := TX6) (N := 9) (as := [.int v2]) (pc' := 25) ok (dOf dX10_price 10 rfl) rfl (cw_Prog_isPlan (by decide) (by decide)) wml_X10_272 winst_X6_isPlan wsel_X6_isPlan rfl ⟨Nat.le_refl 0, Nat.le_refl 0⟩ (Nat.le_of_ble_eq_true rfl) rfl (fun _ _ hf => t_Prog_isPlan hf) (fun x8 h7 => ?_)
    refine J_if_ne (tgt := 30) (pc' := 28) ok (dOf dX10_price 11 rfl) rfl (by decide) ?_ ?_
    · refine J_aload_n (pc' := 31) ok (dOf dX10_price 14 rfl) rfl rfl rfl ?_
      refine J_getR (ci := 10) (kf := 2) (C := RX10) (T := TX10) (N := 14) (pc' := 34) ok (dOf dX10_price 15 rfl) rfl (by decide) rfl (by decide) win_10 wfl_X10_23 (fun a9 => ?_)
      refine J_getR (ci := 3) (kf := 0) (C := RX3) (T := TX3) (N := 12) (pc' := 37) ok (dOf dX10_price 16 rfl) rfl (by decide) rfl (by decide) win_3 wfl_X10_126 (fun a10 => ?_)
      refine J_aload_n (pc' := 38) ok (dOf dX10_price 17 rfl) rfl rfl rfl ?_
      refine J_getR (ci := 10) (kf := 0) (C := RX10) (T := TX10) (N := 14) (pc' := 41) ok (dOf dX10_price 18 rfl) rfl (by decide) rfl (by decide) win_10 wfl_X10_10 (fun a11 => ?_)
      refine J_getR (ci := 8) (kf := 0) (C := RX8) (T := TX8) (N := 3) (pc' := 44) ok (dOf dX10_price 19 rfl) rfl (by decide) rfl (by decide) win_8 wfl_X10_113 (fun a12 => ?_)
      refine J_iload_n (pc' := 45) ok (dOf dX10_price 20 rfl) rfl rfl rfl ?_
      refine J_iload_n (pc' := 46) ok (dOf dX10_price 21 rfl) rfl rfl rfl ?_
      refine J_callVi (k2 := kBook_priceAt) (ci := 0) (T := TX0) (N := 2) (as := [.ref a12, .int v1, .int v2]) (pc' := 49) ok (dOf dX10_price 22 rfl) rfl (cw_Book_priceAt (by decide) (by decide)) wml_X10_283 winst_X0_priceAt wsel_X0_priceAt rfl ⟨Nat.le_refl 0, Nat.le_refl 0⟩ (Nat.le_of_ble_eq_true rfl) rfl (fun _ _ hf => t_Book_priceAt hf) (fun x14 h13 => ?_)
      exact J_ireturn ok (dOf dX10_price 23 rfl) rfl (Eq.refl 0) (Nat.le_refl 0)
    · exact Sp_price_j28_J ok v0 v1 v2 h7
-- X10_lack
abbrev kSp_lack : Cd := (yX10_lack, cX10_lack, 3, (some .int), 3, 74)
theorem dX10_lack : dcheck cX10_lack [(0, .aload_n 0, 1), (1, .getfield 10, 3), (4, .getfield 113, 3), (7, .iload_n 1, 1), (8, .invokevirtual 171, 3), (11, .ifCond .eq 17, 3), (14, .aload_n 0, 1), (15, .getfield 10, 3), (18, .getfield 113, 3), (21, .iload_n 2, 1), (22, .invokevirtual 272, 3), (25, .ifCond .ne 5, 3), (28, .iconst (-1), 1), (29, .ireturn, 1), (30, .aload_n 0, 1), (31, .getfield 23, 3), (34, .getfield 126, 3), (37, .getfield 286, 3), (40, .aload_n 0, 1), (41, .getfield 10, 3), (44, .getfield 113, 3), (47, .iload_n 1, 1), (48, .iload_n 2, 1), (49, .invokevirtual 290, 3), (52, .ireturn, 1)] = true := by decide +kernel
theorem cw_Sp_lack {k : Cd} (h1 : kSp_lack.2.2.2.2.1 + 1 ≤ k.2.2.2.2.1) (h2 : 8 + (kSp_lack.2.2.1 + 11) + kSp_lack.2.2.2.2.2 ≤ k.2.2.2.2.2) : Cw k kSp_lack 2 := ⟨wcode_X10_lack, wini_SplitProgram, ⟨by decide, by decide, by decide +kernel⟩, h1, h2⟩
def Sp_lack_j28 (v0 : Nat) (v1 : Int32) (v2 : Int32) (h : AHeap) : Option (Int32 × AHeap) :=
  some ((-1), h)
theorem Sp_lack_j28_J {E : JE} {l : Launch} {G : GX} {v : Int32} {h' : AHeap} (ok : JOK E l G kSp_lack 0 0 (some (.int v)) h') (v0 : Nat) (v1 : Int32) (v2 : Int32) (h : AHeap) : J E kSp_lack (Sp_lack_j28 v0 v1 v2 h) (fun z => z = (v, h')) 28 [some (.ref v0), some (.int v1), some (.int v2)] [] h 0 0 := by
  unfold Sp_lack_j28
  refine J_iconst (v := (-1)) (pc' := 29) ok (dOf dX10_lack 12 rfl) rfl (by decide) ?_
  exact J_ireturn ok (dOf dX10_lack 13 rfl) rfl (Eq.refl 0) (Nat.le_refl 0)
def Sp_lack (v0 : Nat) (v1 : Int32) (v2 : Int32) (h : AHeap) : Option (Int32 × AHeap) :=
  (gfR h v0 10 0).bind fun a1 => (gfR h a1 8 0).bind fun a2 => (chk h a2 6).bind fun _ => bnd2 (Prog_hasCase a2 v1 h) fun x4 h3 => (if x4 = 0 then Sp_lack_j28 v0 v1 v2 h3 else (gfR h3 v0 10 0).bind fun a5 => (gfR h3 a5 8 0).bind fun a6 => (chk h3 a6 6).bind fun _ => bnd2 (Prog_isPlan a6 v2 h3) fun x8 h7 => (if ¬ x8 = 0 then (gfR h7 v0 10 2).bind fun a9 => (gfR h7 a9 3 0).bind fun a10 => (gfR h7 a10 0 0).bind fun a11 => (gfR h7 v0 10 0).bind fun a12 => (gfR h7 a12 8 0).bind fun a13 => (chk h7 a11 4).bind fun _ => bnd2 (Frt_lackAt a11 a13 v1 v2 h7) fun x15 h14 => some (x15, h14) else Sp_lack_j28 v0 v1 v2 h7))
theorem t_Sp_lack {l : Launch} {G : GX} {v0 : Nat} {v1 : Int32} {v2 : Int32} {h : AHeap} {v : Int32} {h1 : AHeap} (hf : Sp_lack v0 v1 v2 h = some (v, h1)) : CT l G kSp_lack 0 0 [.ref v0, .int v1, .int v2] h (some (.int v)) h1 := by
  refine CT_of (ls := [some (.ref v0), some (.int v1), some (.int v2)]) (Z := fun z => z = (v, h1)) (by decide +kernel) (Nat.le_of_ble_eq_true rfl) hf rfl ⟨rfl, rfl, rfl, trivial⟩ (fun E ok => ?_)
  unfold Sp_lack
  refine J_aload_n (pc' := 1) ok (dOf dX10_lack 0 rfl) rfl rfl rfl ?_
  refine J_getR (ci := 10) (kf := 0) (C := RX10) (T := TX10) (N := 14) (pc' := 4) ok (dOf dX10_lack 1 rfl) rfl (by decide) rfl (by decide) win_10 wfl_X10_10 (fun a1 => ?_)
  refine J_getR (ci := 8) (kf := 0) (C := RX8) (T := TX8) (N := 3) (pc' := 7) ok (dOf dX10_lack 2 rfl) rfl (by decide) rfl (by decide) win_8 wfl_X10_113 (fun a2 => ?_)
  refine J_iload_n (pc' := 8) ok (dOf dX10_lack 3 rfl) rfl rfl rfl ?_
  refine J_callVi (k2 := kProg_hasCase) (ci := 6) (T := TX6) (N := 9) (as := [.int v1]) (pc' := 11) ok (dOf dX10_lack 4 rfl) rfl (cw_Prog_hasCase (by decide) (by decide)) wml_X10_171 winst_X6_hasCase wsel_X6_hasCase rfl ⟨Nat.le_refl 0, Nat.le_refl 0⟩ (Nat.le_of_ble_eq_true rfl) rfl (fun _ _ hf => t_Prog_hasCase hf) (fun x4 h3 => ?_)
  refine J_if_eq (tgt := 28) (pc' := 14) ok (dOf dX10_lack 5 rfl) rfl (by decide) ?_ ?_
  · exact Sp_lack_j28_J ok v0 v1 v2 h3
  · refine J_aload_n (pc' := 15) ok (dOf dX10_lack 6 rfl) rfl rfl rfl ?_
    refine J_getR (ci := 10) (kf := 0) (C := RX10) (T := TX10) (N := 14) (pc' := 18) ok (dOf dX10_lack 7 rfl) rfl (by decide) rfl (by decide) win_10 wfl_X10_10 (fun a5 => ?_)
    refine J_getR (ci := 8) (kf := 0) (C := RX8) (T := TX8) (N := 3) (pc' := 21) ok (dOf dX10_lack 8 rfl) rfl (by decide) rfl (by decide) win_8 wfl_X10_113 (fun a6 => ?_)
    refine J_iload_n (pc' := 22) ok (dOf dX10_lack 9 rfl) rfl rfl rfl ?_
    refine J_callVi (k2 := kProg_isPlan) (ci := 6) (T := TX6) (N := 9) (as := [.int v2]) (pc' := 25) ok (dOf dX10_lack 10 rfl) rfl (cw_Prog_isPlan (by decide) (by decide)) wml_X10_272 winst_X6_isPlan wsel_X6_isPlan rfl ⟨Nat.le_refl 0, Nat.le_refl 0⟩ (Nat.le_of_ble_eq_true rfl) rfl (fun _ _ hf => t_Prog_isPlan hf) (fun x8 h7 => ?_)
    refine J_if_ne (tgt := 30) (pc' := 28) ok (dOf dX10_lack 11 rfl) rfl (by decide) ?_ ?_
    · refine J_aload_n (pc' := 31) ok (dOf dX10_lack 14 rfl) rfl rfl rfl ?_
      refine J_getR (ci := 10) (kf := 2) (C := RX10) (T := TX10) (N := 14) (pc' := 34) ok (dOf dX10_lack 15 rfl) rfl (by decide) rfl (by decide) win_10 wfl_X10_23 (fun a9 => ?_)
      refine J_getR (ci := 3) (kf := 0) (C := RX3) (T := TX3) (N := 12) (pc' := 37) ok (dOf dX10_lack 16 rfl) rfl (by decide) rfl (by decide) win_3 wfl_X10_126 (fun a10 => ?_)
      refine J_getR (ci := 0) (kf := 0) (C := RX0) (T := TX0) (N := 2) (pc' := 40) ok (dOf dX10_lack 17 rfl) rfl (by decide) rfl (by decide) win_0 wfl_X10_286 (fun a11 => ?_)
      refine J_aload_n (pc' := 41) ok (dOf dX10_lack 18 rfl) rfl rfl rfl ?_
      refine J_getR (ci := 10) (kf := 0) (C := RX10) (T := TX10) (N := 14) (pc' := 44) ok (dOf dX10_lack 19 rfl) rfl (by decide) rfl (by decide) win_10 wfl_X10_10 (fun a12 => ?_)
      refine J_getR (ci := 8) (kf := 0) (C := RX8) (T := TX8) (N := 3) (pc' := 47) ok (dOf dX10_lack 20 rfl) rfl (by decide) rfl (by decide) win_8 wfl_X10_113 (fun a13 => ?_)
      refine J_iload_n (pc' := 48) ok (dOf dX10_lack 21 rfl) rfl rfl rfl ?_
      refine J_iload_n (pc' := 49) ok (dOf dX10_lack 22 rfl) rfl rfl rfl ?_
      refine J_callVi (k2 := kFrt_lackAt) (ci := 4) (T := TX4) (N := 12) (as := [.ref a13, .int v1, .int v2]) (pc' := 52) ok (dOf dX10_lack 23 rfl) rfl (cw_Frt_lackAt (by decide) (by decide)) wml_X10_290 winst_X4_lackAt wsel_X4_lackAt rfl ⟨Nat.le_refl 0, Nat.le_refl 0⟩ (Nat.le_of_ble_eq_true rfl) rfl (fun _ _ hf => t_Frt_lackAt hf) (fun x15 h14 => ?_)
      exact J_ireturn ok (dOf dX10_lack 24 rfl) rfl (Eq.refl 0) (Nat.le_refl 0)
    · exact Sp_lack_j28_J ok v0 v1 v2 h7
-- X10_rate
abbrev kSp_rate : Cd := (yX10_rate, cX10_rate, 6, (some .int), 5, 124)
theorem dX10_rate : dcheck cX10_rate [(0, .aload_n 0, 1), (1, .getfield 10, 3), (4, .getfield 113, 3), (7, .astore 4, 2), (9, .aload 4, 2), (11, .iload_n 1, 1), (12, .invokevirtual 171, 3), (15, .ifCond .eq 12, 3), (18, .aload 4, 2), (20, .iload_n 2, 1), (21, .invokevirtual 272, 3), (24, .ifCond .ne 5, 3), (27, .iconst (-1), 1), (28, .ireturn, 1), (29, .aload_n 0, 1), (30, .getfield 23, 3), (33, .getfield 126, 3), (36, .getfield 286, 3), (39, .astore 5, 2), (41, .iload_n 3, 1), (42, .ifCond .lt 37, 3), (45, .iload_n 3, 1), (46, .iconst 4, 1), (47, .if_icmp .ge 32, 3), (50, .aload 4, 2), (52, .iload_n 3, 1), (53, .invokevirtual 155, 3), (56, .ifCond .ne 5, 3), (59, .iconst (-1), 1), (60, .ireturn, 1), (61, .aload 5, 2), (63, .aload 4, 2), (65, .iload_n 1, 1), (66, .iload_n 2, 1), (67, .invokevirtual 295, 3), (70, .pop, 1), (71, .aload 5, 2), (73, .getfield 299, 3), (76, .iload_n 3, 1), (77, .iaload, 1), (78, .ireturn, 1), (79, .iload_n 3, 1), (80, .iconst 4, 1), (81, .if_icmp .lt 14, 3), (84, .aload 4, 2), (86, .iload_n 3, 1), (87, .iconst 4, 1), (88, .isub, 1), (89, .invokevirtual 159, 3), (92, .ifCond .ne 5, 3), (95, .iconst (-1), 1), (96, .ireturn, 1), (97, .aload 5, 2), (99, .aload 4, 2), (101, .iload_n 1, 1), (102, .iload_n 2, 1), (103, .invokevirtual 295, 3), (106, .pop, 1), (107, .aload 5, 2), (109, .getfield 300, 3), (112, .iload_n 3, 1), (113, .iconst 4, 1), (114, .isub, 1), (115, .iaload, 1), (116, .ireturn, 1)] = true := by decide +kernel
theorem cw_Sp_rate {k : Cd} (h1 : kSp_rate.2.2.2.2.1 + 1 ≤ k.2.2.2.2.1) (h2 : 8 + (kSp_rate.2.2.1 + 11) + kSp_rate.2.2.2.2.2 ≤ k.2.2.2.2.2) : Cw k kSp_rate 3 := ⟨wcode_X10_rate, wini_SplitProgram, ⟨by decide, by decide, by decide +kernel⟩, h1, h2⟩
def Sp_rate_j27 (v0 : Nat) (v1 : Int32) (v2 : Int32) (v3 : Int32) (v4 : Nat) (h : AHeap) : Option (Int32 × AHeap) :=
  some ((-1), h)
theorem Sp_rate_j27_J {E : JE} {l : Launch} {G : GX} {v : Int32} {h' : AHeap} (ok : JOK E l G kSp_rate 0 0 (some (.int v)) h') (v0 : Nat) (v1 : Int32) (v2 : Int32) (v3 : Int32) (v4 : Nat) (h : AHeap) : J E kSp_rate (Sp_rate_j27 v0 v1 v2 v3 v4 h) (fun z => z = (v, h')) 27 [some (.ref v0), some (.int v1), some (.int v2), some (.int v3), some (.ref v4), none] [] h 0 0 := by
  unfold Sp_rate_j27
  refine J_iconst (v := (-1)) (pc' := 28) ok (dOf dX10_rate 12 rfl) rfl (by decide) ?_
  exact J_ireturn ok (dOf dX10_rate 13 rfl) rfl (Eq.refl 0) (Nat.le_refl 0)
def Sp_rate_j95 (v0 : Nat) (v1 : Int32) (v2 : Int32) (v3 : Int32) (v4 : Nat) (v5 : Nat) (h : AHeap) : Option (Int32 × AHeap) :=
  some ((-1), h)
theorem Sp_rate_j95_J {E : JE} {l : Launch} {G : GX} {v : Int32} {h' : AHeap} (ok : JOK E l G kSp_rate 0 0 (some (.int v)) h') (v0 : Nat) (v1 : Int32) (v2 : Int32) (v3 : Int32) (v4 : Nat) (v5 : Nat) (h : AHeap) : J E kSp_rate (Sp_rate_j95 v0 v1 v2 v3 v4 v5 h) (fun z => z = (v, h')) 95 [some (.ref v0), some (.int v1), some (.int v2), some (.int v3), some (.ref v4), some (.ref v5)] [] h 0 0 := by
  unfold Sp_rate_j95
  refine J_iconst (v := (-1)) (pc' := 96) ok (dOf dX10_rate 50 rfl) rfl (by decide) ?_
  exact J_ireturn ok (dOf dX10_rate 51 rfl) rfl (Eq.refl 0) (Nat.le_refl 0)
def Sp_rate_j79 (v0 : Nat) (v1 : Int32) (v2 : Int32) (v3 : Int32) (v4 : Nat) (v5 : Nat) (h : AHeap) : Option (Int32 × AHeap) :=
  (if v3 < 4 then Sp_rate_j95 v0 v1 v2 v3 v4 v5 h else (chk h v4 6).bind fun _ => bnd2 (Prog_hasSite v4 (v3 - 4) h) fun x11 h10 => (if ¬ x11 = 0 then (chk h10 v5 4).bind fun _ => bnd2 (Frt_findRates v5 v4 v1 v2 h10) fun x13 h12 => (gfR h12 v5 4 11).bind fun a14 => (ald 0 h12 a14 (v3 - 4)).bind fun x15 => some (x15, h12) else Sp_rate_j95 v0 v1 v2 v3 v4 v5 h10))
theorem Sp_rate_j79_J {E : JE} {l : Launch} {G : GX} {v : Int32} {h' : AHeap} (ok : JOK E l G kSp_rate 0 0 (some (.int v)) h') (v0 : Nat) (v1 : Int32) (v2 : Int32) (v3 : Int32) (v4 : Nat) (v5 : Nat) (h : AHeap) : J E kSp_rate (Sp_rate_j79 v0 v1 v2 v3 v4 v5 h) (fun z => z = (v, h')) 79 [some (.ref v0), some (.int v1), some (.int v2), some (.int v3), some (.ref v4), some (.ref v5)] [] h 0 0 := by
  unfold Sp_rate_j79
  refine J_iload_n (pc' := 80) ok (dOf dX10_rate 41 rfl) rfl rfl rfl ?_
  refine J_iconst (v := 4) (pc' := 81) ok (dOf dX10_rate 42 rfl) rfl (by decide) ?_
  refine J_icmp_lt (tgt := 95) (pc' := 84) ok (dOf dX10_rate 43 rfl) rfl (by decide) ?_ ?_
  · exact Sp_rate_j95_J ok v0 v1 v2 v3 v4 v5 h
  · refine J_aload (pc' := 86) ok (dOf dX10_rate 44 rfl) rfl rfl ?_
    refine J_iload_n (pc' := 87) ok (dOf dX10_rate 45 rfl) rfl rfl rfl ?_
    refine J_iconst (v := 4) (pc' := 88) ok (dOf dX10_rate 46 rfl) rfl (by decide) ?_
    refine J_isub (pc' := 89) ok (dOf dX10_rate 47 rfl) rfl ?_
    refine J_callVi (k2 := kProg_hasSite) (ci := 6) (T := TX6) (N := 9) (as := [.int (v3 - 4)]) (pc' := 92) ok (dOf dX10_rate 48 rfl) rfl (cw_Prog_hasSite (by decide) (by decide)) wml_X10_159 winst_X6_hasSite wsel_X6_hasSite rfl ⟨Nat.le_refl 0, Nat.le_refl 0⟩ (Nat.le_of_ble_eq_true rfl) rfl (fun _ _ hf => t_Prog_hasSite hf) (fun x11 h10 => ?_)
    refine J_if_ne (tgt := 97) (pc' := 95) ok (dOf dX10_rate 49 rfl) rfl (by decide) ?_ ?_
    · refine J_aload (pc' := 99) ok (dOf dX10_rate 52 rfl) rfl rfl ?_
      refine J_aload (pc' := 101) ok (dOf dX10_rate 53 rfl) rfl rfl ?_
      refine J_iload_n (pc' := 102) ok (dOf dX10_rate 54 rfl) rfl rfl rfl ?_
      refine J_iload_n (pc' := 103) ok (dOf dX10_rate 55 rfl) rfl rfl rfl ?_
      refine J_callVi (k2 := kFrt_findRates) (ci := 4) (T := TX4) (N := 12) (as := [.ref v4, .int v1, .int v2]) (pc' := 106) ok (dOf dX10_rate 56 rfl) rfl (cw_Frt_findRates (by decide) (by decide)) wml_X10_295 winst_X4_findRates wsel_X4_findRates rfl ⟨Nat.le_refl 0, Nat.le_refl 0⟩ (Nat.le_of_ble_eq_true rfl) rfl (fun _ _ hf => t_Frt_findRates hf) (fun x13 h12 => ?_)
      refine J_pop (pc' := 107) ok (dOf dX10_rate 57 rfl) rfl rfl ?_
      refine J_aload (pc' := 109) ok (dOf dX10_rate 58 rfl) rfl rfl ?_
      refine J_getR (ci := 4) (kf := 11) (C := RX4) (T := TX4) (N := 12) (pc' := 112) ok (dOf dX10_rate 59 rfl) rfl (by decide) rfl (by decide) win_4 wfl_X10_300 (fun a14 => ?_)
      refine J_iload_n (pc' := 113) ok (dOf dX10_rate 60 rfl) rfl rfl rfl ?_
      refine J_iconst (v := 4) (pc' := 114) ok (dOf dX10_rate 61 rfl) rfl (by decide) ?_
      refine J_isub (pc' := 115) ok (dOf dX10_rate 62 rfl) rfl ?_
      refine J_iald (pc' := 116) ok (dOf dX10_rate 63 rfl) rfl (fun x15 => ?_)
      exact J_ireturn ok (dOf dX10_rate 64 rfl) rfl (Eq.refl 0) (Nat.le_refl 0)
    · exact Sp_rate_j95_J ok v0 v1 v2 v3 v4 v5 h10
def Sp_rate (v0 : Nat) (v1 : Int32) (v2 : Int32) (v3 : Int32) (h : AHeap) : Option (Int32 × AHeap) :=
  (gfR h v0 10 0).bind fun a1 => (gfR h a1 8 0).bind fun a2 => (chk h a2 6).bind fun _ => bnd2 (Prog_hasCase a2 v1 h) fun x4 h3 => (if x4 = 0 then Sp_rate_j27 v0 v1 v2 v3 a2 h3 else (chk h3 a2 6).bind fun _ => bnd2 (Prog_isPlan a2 v2 h3) fun x6 h5 => (if ¬ x6 = 0 then (gfR h5 v0 10 2).bind fun a7 => (gfR h5 a7 3 0).bind fun a8 => (gfR h5 a8 0 0).bind fun a9 => (if v3 < 0 then Sp_rate_j79 v0 v1 v2 v3 a2 a9 h5 else (if 4 ≤ v3 then Sp_rate_j79 v0 v1 v2 v3 a2 a9 h5 else (chk h5 a2 6).bind fun _ => bnd2 (Prog_hasPlant a2 v3 h5) fun x17 h16 => (if ¬ x17 = 0 then (chk h16 a9 4).bind fun _ => bnd2 (Frt_findRates a9 a2 v1 v2 h16) fun x19 h18 => (gfR h18 a9 4 10).bind fun a20 => (ald 0 h18 a20 v3).bind fun x21 => some (x21, h18) else some ((-1), h16)))) else Sp_rate_j27 v0 v1 v2 v3 a2 h5))
theorem t_Sp_rate {l : Launch} {G : GX} {v0 : Nat} {v1 : Int32} {v2 : Int32} {v3 : Int32} {h : AHeap} {v : Int32} {h1 : AHeap} (hf : Sp_rate v0 v1 v2 v3 h = some (v, h1)) : CT l G kSp_rate 0 0 [.ref v0, .int v1, .int v2, .int v3] h (some (.int v)) h1 := by
  refine CT_of (ls := [some (.ref v0), some (.int v1), some (.int v2), some (.int v3), none, none]) (Z := fun z => z = (v, h1)) (by decide +kernel) (Nat.le_of_ble_eq_true rfl) hf rfl ⟨rfl, rfl, rfl, rfl, trivial⟩ (fun E ok => ?_)
  unfold Sp_rate
  refine J_aload_n (pc' := 1) ok (dOf dX10_rate 0 rfl) rfl rfl rfl ?_
  refine J_getR (ci := 10) (kf := 0) (C := RX10) (T := TX10) (N := 14) (pc' := 4) ok (dOf dX10_rate 1 rfl) rfl (by decide) rfl (by decide) win_10 wfl_X10_10 (fun a1 => ?_)
  refine J_getR (ci := 8) (kf := 0) (C := RX8) (T := TX8) (N := 3) (pc' := 7) ok (dOf dX10_rate 2 rfl) rfl (by decide) rfl (by decide) win_8 wfl_X10_113 (fun a2 => ?_)
  refine J_astore (ls' := [some (.ref v0), some (.int v1), some (.int v2), some (.int v3), some (.ref a2), none]) (pc' := 9) ok (dOf dX10_rate 3 rfl) rfl (Nat.le_of_ble_eq_true rfl) rfl rfl ?_
  refine J_aload (pc' := 11) ok (dOf dX10_rate 4 rfl) rfl rfl ?_
  refine J_iload_n (pc' := 12) ok (dOf dX10_rate 5 rfl) rfl rfl rfl ?_
  refine J_callVi (k2 := kProg_hasCase) (ci := 6) (T := TX6) (N := 9) (as := [.int v1]) (pc' := 15) ok (dOf dX10_rate 6 rfl) rfl (cw_Prog_hasCase (by decide) (by decide)) wml_X10_171 winst_X6_hasCase wsel_X6_hasCase rfl ⟨Nat.le_refl 0, Nat.le_refl 0⟩ (Nat.le_of_ble_eq_true rfl) rfl (fun _ _ hf => t_Prog_hasCase hf) (fun x4 h3 => ?_)
  refine J_if_eq (tgt := 27) (pc' := 18) ok (dOf dX10_rate 7 rfl) rfl (by decide) ?_ ?_
  · exact Sp_rate_j27_J ok v0 v1 v2 v3 a2 h3
  · refine J_aload (pc' := 20) ok (dOf dX10_rate 8 rfl) rfl rfl ?_
    refine J_iload_n (pc' := 21) ok (dOf dX10_rate 9 rfl) rfl rfl rfl ?_
    refine J_callVi (k2 := kProg_isPlan) (ci := 6) (T := TX6) (N := 9) (as := [.int v2]) (pc' := 24) ok (dOf dX10_rate 10 rfl) rfl (cw_Prog_isPlan (by decide) (by decide)) wml_X10_272 winst_X6_isPlan wsel_X6_isPlan rfl ⟨Nat.le_refl 0, Nat.le_refl 0⟩ (Nat.le_of_ble_eq_true rfl) rfl (fun _ _ hf => t_Prog_isPlan hf) (fun x6 h5 => ?_)
    refine J_if_ne (tgt := 29) (pc' := 27) ok (dOf dX10_rate 11 rfl) rfl (by decide) ?_ ?_
    · refine J_aload_n (pc' := 30) ok (dOf dX10_rate 14 rfl) rfl rfl rfl ?_
      refine J_getR (ci := 10) (kf := 2) (C := RX10) (T := TX10) (N := 14) (pc' := 33) ok (dOf dX10_rate 15 rfl) rfl (by decide) rfl (by decide) win_10 wfl_X10_23 (fun a7 => ?_)
      refine J_getR (ci := 3) (kf := 0) (C := RX3) (T := TX3) (N := 12) (pc' := 36) ok (dOf dX10_rate 16 rfl) rfl (by decide) rfl (by decide) win_3 wfl_X10_126 (fun a8 => ?_)
      refine J_getR (ci := 0) (kf := 0) (C := RX0) (T := TX0) (N := 2) (pc' := 39) ok (dOf dX10_rate 17 rfl) rfl (by decide) rfl (by decide) win_0 wfl_X10_286 (fun a9 => ?_)
      refine J_astore (ls' := [some (.ref v0), some (.int v1), some (.int v2), some (.int v3), some (.ref a2), some (.ref a9)]) (pc' := 41) ok (dOf dX10_rate 18 rfl) rfl (Nat.le_of_ble_eq_true rfl) rfl rfl ?_
      refine J_iload_n (pc' := 42) ok (dOf dX10_rate 19 rfl) rfl rfl rfl ?_
      refine J_if_lt (tgt := 79) (pc' := 45) ok (dOf dX10_rate 20 rfl) rfl (by decide) ?_ ?_
      · exact Sp_rate_j79_J ok v0 v1 v2 v3 a2 a9 h5
      · refine J_iload_n (pc' := 46) ok (dOf dX10_rate 21 rfl) rfl rfl rfl ?_
        refine J_iconst (v := 4) (pc' := 47) ok (dOf dX10_rate 22 rfl) rfl (by decide) ?_
        refine J_icmp_ge (tgt := 79) (pc' := 50) ok (dOf dX10_rate 23 rfl) rfl (by decide) ?_ ?_
        · exact Sp_rate_j79_J ok v0 v1 v2 v3 a2 a9 h5
        · refine J_aload (pc' := 52) ok (dOf dX10_rate 24 rfl) rfl rfl ?_
          refine J_iload_n (pc' := 53) ok (dOf dX10_rate 25 rfl) rfl rfl rfl ?_
          refine J_callVi (k2 := kProg_hasPlant) (ci := 6) (T := TX6) (N := 9) (as := [.int v3]) (pc' := 56) ok (dOf dX10_rate 26 rfl) rfl (cw_Prog_hasPlant (by decide) (by decide)) wml_X10_155 winst_X6_hasPlant wsel_X6_hasPlant rfl ⟨Nat.le_refl 0, Nat.le_refl 0⟩ (Nat.le_of_ble_eq_true rfl) rfl (fun _ _ hf => t_Prog_hasPlant hf) (fun x17 h16 => ?_)
          refine J_if_ne (tgt := 61) (pc' := 59) ok (dOf dX10_rate 27 rfl) rfl (by decide) ?_ ?_
          · refine J_aload (pc' := 63) ok (dOf dX10_rate 30 rfl) rfl rfl ?_
            refine J_aload (pc' := 65) ok (dOf dX10_rate 31 rfl) rfl rfl ?_
            refine J_iload_n (pc' := 66) ok (dOf dX10_rate 32 rfl) rfl rfl rfl ?_
            refine J_iload_n (pc' := 67) ok (dOf dX10_rate 33 rfl) rfl rfl rfl ?_
            refine J_callVi (k2 := kFrt_findRates) (ci := 4) (T := TX4) (N := 12) (as := [.ref a2, .int v1, .int v2]) (pc' := 70) ok (dOf dX10_rate 34 rfl) rfl (cw_Frt_findRates (by decide) (by decide)) wml_X10_295 winst_X4_findRates wsel_X4_findRates rfl ⟨Nat.le_refl 0, Nat.le_refl 0⟩ (Nat.le_of_ble_eq_true rfl) rfl (fun _ _ hf => t_Frt_findRates hf) (fun x19 h18 => ?_)
            refine J_pop (pc' := 71) ok (dOf dX10_rate 35 rfl) rfl rfl ?_
            refine J_aload (pc' := 73) ok (dOf dX10_rate 36 rfl) rfl rfl ?_
            refine J_getR (ci := 4) (kf := 10) (C := RX4) (T := TX4) (N := 12) (pc' := 76) ok (dOf dX10_rate 37 rfl) rfl (by decide) rfl (by decide) win_4 wfl_X10_299 (fun a20 => ?_)
            refine J_iload_n (pc' := 77) ok (dOf dX10_rate 38 rfl) rfl rfl rfl ?_
            refine J_iald (pc' := 78) ok (dOf dX10_rate 39 rfl) rfl (fun x21 => ?_)
            exact J_ireturn ok (dOf dX10_rate 40 rfl) rfl (Eq.refl 0) (Nat.le_refl 0)
          · refine J_iconst (v := (-1)) (pc' := 60) ok (dOf dX10_rate 28 rfl) rfl (by decide) ?_
            exact J_ireturn ok (dOf dX10_rate 29 rfl) rfl (Eq.refl 0) (Nat.le_refl 0)
    · exact Sp_rate_j27_J ok v0 v1 v2 v3 a2 h5
-- X10_floor
abbrev kSp_floor : Cd := (yX10_floor, cX10_floor, 2, (some .int), 3, 83)
theorem dX10_floor : dcheck cX10_floor [(0, .aload_n 0, 1), (1, .getfield 10, 3), (4, .getfield 113, 3), (7, .iload_n 1, 1), (8, .invokevirtual 272, 3), (11, .ifCond .ne 5, 3), (14, .iconst (-1), 1), (15, .ireturn, 1), (16, .aload_n 0, 1), (17, .getfield 23, 3), (20, .getfield 208, 3), (23, .aload_n 0, 1), (24, .getfield 10, 3), (27, .getfield 113, 3), (30, .aload_n 0, 1), (31, .getfield 10, 3), (34, .getfield 120, 3), (37, .invokevirtual 301, 3), (40, .aload_n 0, 1), (41, .getfield 23, 3), (44, .getfield 208, 3), (47, .aload_n 0, 1), (48, .getfield 10, 3), (51, .getfield 113, 3), (54, .iload_n 1, 1), (55, .invokevirtual 305, 3), (58, .ireturn, 1)] = true := by decide +kernel
theorem cw_Sp_floor {k : Cd} (h1 : kSp_floor.2.2.2.2.1 + 1 ≤ k.2.2.2.2.1) (h2 : 8 + (kSp_floor.2.2.1 + 11) + kSp_floor.2.2.2.2.2 ≤ k.2.2.2.2.2) : Cw k kSp_floor 1 := ⟨wcode_X10_floor, wini_SplitProgram, ⟨by decide, by decide, by decide +kernel⟩, h1, h2⟩
def Sp_floor (v0 : Nat) (v1 : Int32) (h : AHeap) : Option (Int32 × AHeap) :=
  (gfR h v0 10 0).bind fun a1 => (gfR h a1 8 0).bind fun a2 => (chk h a2 6).bind fun _ => bnd2 (Prog_isPlan a2 v1 h) fun x4 h3 => (if ¬ x4 = 0 then (gfR h3 v0 10 2).bind fun a5 => (gfR h3 a5 3 1).bind fun a6 => (gfR h3 v0 10 0).bind fun a7 => (gfR h3 a7 8 0).bind fun a8 => (gfR h3 v0 10 0).bind fun a9 => (gfR h3 a9 8 1).bind fun a10 => (chk h3 a6 1).bind fun _ => bnd2 (Bnds_freshen a6 a8 a10 h3) fun _ h11 => (gfR h11 v0 10 2).bind fun a12 => (gfR h11 a12 3 1).bind fun a13 => (gfR h11 v0 10 0).bind fun a14 => (gfR h11 a14 8 0).bind fun a15 => (chk h11 a13 1).bind fun _ => bnd2 (Bnds_floorAt a13 a15 v1 h11) fun x17 h16 => some (x17, h16) else some ((-1), h3))
theorem t_Sp_floor {l : Launch} {G : GX} {v0 : Nat} {v1 : Int32} {h : AHeap} {v : Int32} {h1 : AHeap} (hf : Sp_floor v0 v1 h = some (v, h1)) : CT l G kSp_floor 0 0 [.ref v0, .int v1] h (some (.int v)) h1 := by
  refine CT_of (ls := [some (.ref v0), some (.int v1)]) (Z := fun z => z = (v, h1)) (by decide +kernel) (Nat.le_of_ble_eq_true rfl) hf rfl ⟨rfl, rfl, trivial⟩ (fun E ok => ?_)
  unfold Sp_floor
  refine J_aload_n (pc' := 1) ok (dOf dX10_floor 0 rfl) rfl rfl rfl ?_
  refine J_getR (ci := 10) (kf := 0) (C := RX10) (T := TX10) (N := 14) (pc' := 4) ok (dOf dX10_floor 1 rfl) rfl (by decide) rfl (by decide) win_10 wfl_X10_10 (fun a1 => ?_)
  refine J_getR (ci := 8) (kf := 0) (C := RX8) (T := TX8) (N := 3) (pc' := 7) ok (dOf dX10_floor 2 rfl) rfl (by decide) rfl (by decide) win_8 wfl_X10_113 (fun a2 => ?_)
  refine J_iload_n (pc' := 8) ok (dOf dX10_floor 3 rfl) rfl rfl rfl ?_
  refine J_callVi (k2 := kProg_isPlan) (ci := 6) (T := TX6) (N := 9) (as := [.int v1]) (pc' := 11) ok (dOf dX10_floor 4 rfl) rfl (cw_Prog_isPlan (by decide) (by decide)) wml_X10_272 winst_X6_isPlan wsel_X6_isPlan rfl ⟨Nat.le_refl 0, Nat.le_refl 0⟩ (Nat.le_of_ble_eq_true rfl) rfl (fun _ _ hf => t_Prog_isPlan hf) (fun x4 h3 => ?_)
  refine J_if_ne (tgt := 16) (pc' := 14) ok (dOf dX10_floor 5 rfl) rfl (by decide) ?_ ?_
  · refine J_aload_n (pc' := 17) ok (dOf dX10_floor 8 rfl) rfl rfl rfl ?_
    refine J_getR (ci := 10) (kf := 2) (C := RX10) (T := TX10) (N := 14) (pc' := 20) ok (dOf dX10_floor 9 rfl) rfl (by decide) rfl (by decide) win_10 wfl_X10_23 (fun a5 => ?_)
    refine J_getR (ci := 3) (kf := 1) (C := RX3) (T := TX3) (N := 12) (pc' := 23) ok (dOf dX10_floor 10 rfl) rfl (by decide) rfl (by decide) win_3 wfl_X10_208 (fun a6 => ?_)
    refine J_aload_n (pc' := 24) ok (dOf dX10_floor 11 rfl) rfl rfl rfl ?_
    refine J_getR (ci := 10) (kf := 0) (C := RX10) (T := TX10) (N := 14) (pc' := 27) ok (dOf dX10_floor 12 rfl) rfl (by decide) rfl (by decide) win_10 wfl_X10_10 (fun a7 => ?_)
    refine J_getR (ci := 8) (kf := 0) (C := RX8) (T := TX8) (N := 3) (pc' := 30) ok (dOf dX10_floor 13 rfl) rfl (by decide) rfl (by decide) win_8 wfl_X10_113 (fun a8 => ?_)
    refine J_aload_n (pc' := 31) ok (dOf dX10_floor 14 rfl) rfl rfl rfl ?_
    refine J_getR (ci := 10) (kf := 0) (C := RX10) (T := TX10) (N := 14) (pc' := 34) ok (dOf dX10_floor 15 rfl) rfl (by decide) rfl (by decide) win_10 wfl_X10_10 (fun a9 => ?_)
    refine J_getR (ci := 8) (kf := 1) (C := RX8) (T := TX8) (N := 3) (pc' := 37) ok (dOf dX10_floor 16 rfl) rfl (by decide) rfl (by decide) win_8 wfl_X10_120 (fun a10 => ?_)
    refine J_callVv (k2 := kBnds_freshen) (ci := 1) (T := TX1) (N := 3) (as := [.ref a8, .ref a10]) (pc' := 40) ok (dOf dX10_floor 17 rfl) rfl (cw_Bnds_freshen (by decide) (by decide)) wml_X10_301 winst_X1_freshen wsel_X1_freshen rfl ⟨Nat.le_refl 0, Nat.le_refl 0⟩ (Nat.le_of_ble_eq_true rfl) rfl (fun _ _ hf => t_Bnds_freshen hf) (fun _ h11 => ?_)
    refine J_aload_n (pc' := 41) ok (dOf dX10_floor 18 rfl) rfl rfl rfl ?_
    refine J_getR (ci := 10) (kf := 2) (C := RX10) (T := TX10) (N := 14) (pc' := 44) ok (dOf dX10_floor 19 rfl) rfl (by decide) rfl (by decide) win_10 wfl_X10_23 (fun a12 => ?_)
    refine J_getR (ci := 3) (kf := 1) (C := RX3) (T := TX3) (N := 12) (pc' := 47) ok (dOf dX10_floor 20 rfl) rfl (by decide) rfl (by decide) win_3 wfl_X10_208 (fun a13 => ?_)
    refine J_aload_n (pc' := 48) ok (dOf dX10_floor 21 rfl) rfl rfl rfl ?_
    refine J_getR (ci := 10) (kf := 0) (C := RX10) (T := TX10) (N := 14) (pc' := 51) ok (dOf dX10_floor 22 rfl) rfl (by decide) rfl (by decide) win_10 wfl_X10_10 (fun a14 => ?_)
    refine J_getR (ci := 8) (kf := 0) (C := RX8) (T := TX8) (N := 3) (pc' := 54) ok (dOf dX10_floor 23 rfl) rfl (by decide) rfl (by decide) win_8 wfl_X10_113 (fun a15 => ?_)
    refine J_iload_n (pc' := 55) ok (dOf dX10_floor 24 rfl) rfl rfl rfl ?_
    refine J_callVi (k2 := kBnds_floorAt) (ci := 1) (T := TX1) (N := 3) (as := [.ref a15, .int v1]) (pc' := 58) ok (dOf dX10_floor 25 rfl) rfl (cw_Bnds_floorAt (by decide) (by decide)) wml_X10_305 winst_X1_floorAt wsel_X1_floorAt rfl ⟨Nat.le_refl 0, Nat.le_refl 0⟩ (Nat.le_of_ble_eq_true rfl) rfl (fun _ _ hf => t_Bnds_floorAt hf) (fun x17 h16 => ?_)
    exact J_ireturn ok (dOf dX10_floor 26 rfl) rfl (Eq.refl 0) (Nat.le_refl 0)
  · refine J_iconst (v := (-1)) (pc' := 15) ok (dOf dX10_floor 6 rfl) rfl (by decide) ?_
    exact J_ireturn ok (dOf dX10_floor 7 rfl) rfl (Eq.refl 0) (Nat.le_refl 0)
-- X0_totalAt
abbrev kBook_totalAt : Cd := (yX0_totalAt, cX0_totalAt, 6, (some .int), 5, 124)
theorem dX0_totalAt : dcheck cX0_totalAt [(0, .aload_n 1, 1), (1, .iload_n 2, 1), (2, .invokevirtual 39, 3), (5, .istore_n 3, 1), (6, .iconst 0, 1), (7, .istore 4, 2), (9, .iload 4, 2), (11, .aload_n 1, 1), (12, .getfield 45, 3), (15, .if_icmp .ge 40, 3), (18, .aload_n 0, 1), (19, .aload_n 1, 1), (20, .iload 4, 2), (22, .iload_n 2, 1), (23, .invokevirtual 49, 3), (26, .istore 5, 2), (28, .iload 5, 2), (30, .iconst (-1), 1), (31, .if_icmp .ne 5, 3), (34, .iconst (-1), 1), (35, .ireturn, 1), (36, .iload_n 3, 1), (37, .aload_n 1, 1), (38, .getfield 52, 3), (41, .iload 4, 2), (43, .iaload, 1), (44, .iload 5, 2), (46, .imul, 1), (47, .iadd, 1), (48, .istore_n 3, 1), (49, .iinc 4 1, 3), (52, .goto (-43), 3), (55, .iload_n 3, 1), (56, .ireturn, 1)] = true := by decide +kernel
theorem cw_Book_totalAt {k : Cd} (h1 : kBook_totalAt.2.2.2.2.1 + 1 ≤ k.2.2.2.2.1) (h2 : 8 + (kBook_totalAt.2.2.1 + 11) + kBook_totalAt.2.2.2.2.2 ≤ k.2.2.2.2.2) : Cw k kBook_totalAt 2 := ⟨wcode_X0_totalAt, wini_SplitProgram_Book, ⟨by decide, by decide, by decide +kernel⟩, h1, h2⟩
def Book_totalAt_b9 (v0 : Nat) (v1 : Nat) (v2 : Int32) (s : Int32 × Int32 × AHeap) : Option ((Int32 × Int32 × AHeap) ⊕ ((Int32 × Int32 × Int32 × AHeap) ⊕ (Int32 × Int32 × AHeap))) :=
  (gfI s.2.2 v1 6 2).bind fun x3 => (if x3 ≤ s.2.1 then some (Sum.inr (Sum.inr (s.1, s.2.1, s.2.2))) else (chk s.2.2 v0 0).bind fun _ => bnd2 (Book_priceAt v0 v1 s.2.1 v2 s.2.2) fun x5 h4 => (if ¬ x5 = (-1) then (gfR h4 v1 6 7).bind fun a6 => (ald 0 h4 a6 s.2.1).bind fun x7 => some (Sum.inl (s.1 + (x7 * x5), s.2.1 + 1, h4)) else some (Sum.inr (Sum.inl (s.1, s.2.1, x5, h4)))))
theorem Book_totalAt_b9_J {E : JE} {l : Launch} {G : GX} {r : Option Value} {h' : AHeap} (ok : JOK E l G kBook_totalAt 0 0 r h') (v0 : Nat) (v1 : Nat) (v2 : Int32) {Y : (Int32 × Int32 × AHeap) ⊕ ((Int32 × Int32 × Int32 × AHeap) ⊕ (Int32 × Int32 × AHeap)) → Prop} (k1 : ∀ s' : Int32 × Int32 × AHeap, Y (.inl s') → JW E kBook_totalAt 9 [some (.ref v0), some (.ref v1), some (.int v2), some (.int s'.1), some (.int s'.2.1), none] [] s'.2.2 0 0) (kx34 : ∀ q : Int32 × Int32 × Int32 × AHeap, Y (.inr (Sum.inl q)) → JW E kBook_totalAt 34 [some (.ref v0), some (.ref v1), some (.int v2), some (.int q.1), some (.int q.2.1), some (.int q.2.2.1)] [] q.2.2.2 0 0) (kx55 : ∀ q : Int32 × Int32 × AHeap, Y (.inr (Sum.inr q)) → JW E kBook_totalAt 55 [some (.ref v0), some (.ref v1), some (.int v2), some (.int q.1), some (.int q.2.1), none] [] q.2.2 0 0) (s : Int32 × Int32 × AHeap) : J E kBook_totalAt (Book_totalAt_b9 v0 v1 v2 s) Y 9 [some (.ref v0), some (.ref v1), some (.int v2), some (.int s.1), some (.int s.2.1), none] [] s.2.2 0 0 := by
  unfold Book_totalAt_b9
  refine J_iload (pc' := 11) ok (dOf dX0_totalAt 6 rfl) rfl rfl ?_
  refine J_aload_n (pc' := 12) ok (dOf dX0_totalAt 7 rfl) rfl rfl rfl ?_
  refine J_getI (ci := 6) (kf := 2) (C := RX6) (T := TX6) (N := 9) (pc' := 15) ok (dOf dX0_totalAt 8 rfl) rfl (by decide) rfl (by decide) win_6 wfl_X0_45 (fun x3 => ?_)
  refine J_icmp_ge (tgt := 55) (pc' := 18) ok (dOf dX0_totalAt 9 rfl) rfl (by decide) ?_ ?_
  · exact J_fin (kx55 (s.1, s.2.1, s.2.2))
  · refine J_aload_n (pc' := 19) ok (dOf dX0_totalAt 10 rfl) rfl rfl rfl ?_
    refine J_aload_n (pc' := 20) ok (dOf dX0_totalAt 11 rfl) rfl rfl rfl ?_
    refine J_iload (pc' := 22) ok (dOf dX0_totalAt 12 rfl) rfl rfl ?_
    refine J_iload_n (pc' := 23) ok (dOf dX0_totalAt 13 rfl) rfl rfl rfl ?_
    refine J_callVi (k2 := kBook_priceAt) (ci := 0) (T := TX0) (N := 2) (as := [.ref v1, .int s.2.1, .int v2]) (pc' := 26) ok (dOf dX0_totalAt 14 rfl) rfl (cw_Book_priceAt (by decide) (by decide)) wml_X0_49 winst_X0_priceAt wsel_X0_priceAt rfl ⟨Nat.le_refl 0, Nat.le_refl 0⟩ (Nat.le_of_ble_eq_true rfl) rfl (fun _ _ hf => t_Book_priceAt hf) (fun x5 h4 => ?_)
    refine J_istore (ls' := [some (.ref v0), some (.ref v1), some (.int v2), some (.int s.1), some (.int s.2.1), some (.int x5)]) (pc' := 28) ok (dOf dX0_totalAt 15 rfl) rfl (Nat.le_of_ble_eq_true rfl) rfl rfl ?_
    refine J_iload (pc' := 30) ok (dOf dX0_totalAt 16 rfl) rfl rfl ?_
    refine J_iconst (v := (-1)) (pc' := 31) ok (dOf dX0_totalAt 17 rfl) rfl (by decide) ?_
    refine J_icmp_ne (tgt := 36) (pc' := 34) ok (dOf dX0_totalAt 18 rfl) rfl (by decide) ?_ ?_
    · refine J_iload_n (pc' := 37) ok (dOf dX0_totalAt 21 rfl) rfl rfl rfl ?_
      refine J_aload_n (pc' := 38) ok (dOf dX0_totalAt 22 rfl) rfl rfl rfl ?_
      refine J_getR (ci := 6) (kf := 7) (C := RX6) (T := TX6) (N := 9) (pc' := 41) ok (dOf dX0_totalAt 23 rfl) rfl (by decide) rfl (by decide) win_6 wfl_X0_52 (fun a6 => ?_)
      refine J_iload (pc' := 43) ok (dOf dX0_totalAt 24 rfl) rfl rfl ?_
      refine J_iald (pc' := 44) ok (dOf dX0_totalAt 25 rfl) rfl (fun x7 => ?_)
      refine J_iload (pc' := 46) ok (dOf dX0_totalAt 26 rfl) rfl rfl ?_
      refine J_imul (pc' := 47) ok (dOf dX0_totalAt 27 rfl) rfl ?_
      refine J_iadd (pc' := 48) ok (dOf dX0_totalAt 28 rfl) rfl ?_
      refine J_istore_n (ls' := [some (.ref v0), some (.ref v1), some (.int v2), some (.int (s.1 + (x7 * x5))), some (.int s.2.1), some (.int x5)]) (pc' := 49) ok (dOf dX0_totalAt 29 rfl) rfl rfl (Nat.le_of_ble_eq_true rfl) rfl rfl ?_
      refine J_iinc (v := s.2.1 + 1) (ls' := [some (.ref v0), some (.ref v1), some (.int v2), some (.int (s.1 + (x7 * x5))), some (.int (s.2.1 + 1)), some (.int x5)]) (pc' := 52) ok (dOf dX0_totalAt 30 rfl) rfl rfl (by rfl) (Nat.le_of_ble_eq_true rfl) rfl rfl ?_
      refine J_goto (tgt := 9) ok (dOf dX0_totalAt 31 rfl) (by decide) ?_
      refine J_weak (ls' := [some (.ref v0), some (.ref v1), some (.int v2), some (.int (s.1 + (x7 * x5))), some (.int (s.2.1 + 1)), none]) ⟨rfl, rfl, rfl, rfl, rfl, trivial⟩ ?_
      exact J_fin (k1 (s.1 + (x7 * x5), s.2.1 + 1, h4))
    · exact J_fin (kx34 (s.1, s.2.1, x5, h4))
def Book_totalAt_j34 (v0 : Nat) (v1 : Nat) (v2 : Int32) (v3 : Int32) (v4 : Int32) (v5 : Int32) (h : AHeap) : Option (Int32 × AHeap) :=
  some ((-1), h)
theorem Book_totalAt_j34_J {E : JE} {l : Launch} {G : GX} {v : Int32} {h' : AHeap} (ok : JOK E l G kBook_totalAt 0 0 (some (.int v)) h') (v0 : Nat) (v1 : Nat) (v2 : Int32) (v3 : Int32) (v4 : Int32) (v5 : Int32) (h : AHeap) : J E kBook_totalAt (Book_totalAt_j34 v0 v1 v2 v3 v4 v5 h) (fun z => z = (v, h')) 34 [some (.ref v0), some (.ref v1), some (.int v2), some (.int v3), some (.int v4), some (.int v5)] [] h 0 0 := by
  unfold Book_totalAt_j34
  refine J_iconst (v := (-1)) (pc' := 35) ok (dOf dX0_totalAt 19 rfl) rfl (by decide) ?_
  exact J_ireturn ok (dOf dX0_totalAt 20 rfl) rfl (Eq.refl 0) (Nat.le_refl 0)
def Book_totalAt_j55 (v0 : Nat) (v1 : Nat) (v2 : Int32) (v3 : Int32) (v4 : Int32) (h : AHeap) : Option (Int32 × AHeap) :=
  some (v3, h)
theorem Book_totalAt_j55_J {E : JE} {l : Launch} {G : GX} {v : Int32} {h' : AHeap} (ok : JOK E l G kBook_totalAt 0 0 (some (.int v)) h') (v0 : Nat) (v1 : Nat) (v2 : Int32) (v3 : Int32) (v4 : Int32) (h : AHeap) : J E kBook_totalAt (Book_totalAt_j55 v0 v1 v2 v3 v4 h) (fun z => z = (v, h')) 55 [some (.ref v0), some (.ref v1), some (.int v2), some (.int v3), some (.int v4), none] [] h 0 0 := by
  unfold Book_totalAt_j55
  refine J_iload_n (pc' := 56) ok (dOf dX0_totalAt 32 rfl) rfl rfl rfl ?_
  exact J_ireturn ok (dOf dX0_totalAt 33 rfl) rfl (Eq.refl 0) (Nat.le_refl 0)
def Book_totalAt (v0 : Nat) (v1 : Nat) (v2 : Int32) (h : AHeap) : Option (Int32 × AHeap) :=
  (chk h v1 6).bind fun _ => bnd2 (Prog_feesOf v1 v2 h) fun x2 h1 => (iter (Book_totalAt_b9 v0 v1 v2) Lmax (x2, 0, h1)).bind (Sum.elim (fun (q9 : Int32 × Int32 × Int32 × AHeap) => Book_totalAt_j34 v0 v1 v2 q9.1 q9.2.1 q9.2.2.1 q9.2.2.2) (fun (q9 : Int32 × Int32 × AHeap) => Book_totalAt_j55 v0 v1 v2 q9.1 q9.2.1 q9.2.2))
theorem t_Book_totalAt {l : Launch} {G : GX} {v0 : Nat} {v1 : Nat} {v2 : Int32} {h : AHeap} {v : Int32} {h1 : AHeap} (hf : Book_totalAt v0 v1 v2 h = some (v, h1)) : CT l G kBook_totalAt 0 0 [.ref v0, .ref v1, .int v2] h (some (.int v)) h1 := by
  refine CT_of (ls := [some (.ref v0), some (.ref v1), some (.int v2), none, none, none]) (Z := fun z => z = (v, h1)) (by decide +kernel) (Nat.le_of_ble_eq_true rfl) hf rfl ⟨rfl, rfl, rfl, trivial⟩ (fun E ok => ?_)
  unfold Book_totalAt
  refine J_aload_n (pc' := 1) ok (dOf dX0_totalAt 0 rfl) rfl rfl rfl ?_
  refine J_iload_n (pc' := 2) ok (dOf dX0_totalAt 1 rfl) rfl rfl rfl ?_
  refine J_callVi (k2 := kProg_feesOf) (ci := 6) (T := TX6) (N := 9) (as := [.int v2]) (pc' := 5) ok (dOf dX0_totalAt 2 rfl) rfl (cw_Prog_feesOf (by decide) (by decide)) wml_X0_39 winst_X6_feesOf wsel_X6_feesOf rfl ⟨Nat.le_refl 0, Nat.le_refl 0⟩ (Nat.le_of_ble_eq_true rfl) rfl (fun _ _ hf => t_Prog_feesOf hf) (fun x2 h1 => ?_)
  refine J_istore_n (ls' := [some (.ref v0), some (.ref v1), some (.int v2), some (.int x2), none, none]) (pc' := 6) ok (dOf dX0_totalAt 3 rfl) rfl rfl (Nat.le_of_ble_eq_true rfl) rfl rfl ?_
  refine J_iconst (v := 0) (pc' := 7) ok (dOf dX0_totalAt 4 rfl) rfl (by decide) ?_
  refine J_istore (ls' := [some (.ref v0), some (.ref v1), some (.int v2), some (.int x2), some (.int 0), none]) (pc' := 9) ok (dOf dX0_totalAt 5 rfl) rfl (Nat.le_of_ble_eq_true rfl) rfl rfl ?_
  refine J_iter (lf := fun z9 => [some (.ref v0), some (.ref v1), some (.int v2), some (.int z9.1), some (.int z9.2.1), none]) (sf := fun _ => []) (hf := fun z9 => z9.2.2) (px := (Sum.elim (fun (q9 : Int32 × Int32 × Int32 × AHeap) => 34) (fun (q9 : Int32 × Int32 × AHeap) => 55))) (lx := (Sum.elim (fun (q9 : Int32 × Int32 × Int32 × AHeap) => [some (.ref v0), some (.ref v1), some (.int v2), some (.int q9.1), some (.int q9.2.1), some (.int q9.2.2.1)]) (fun (q9 : Int32 × Int32 × AHeap) => [some (.ref v0), some (.ref v1), some (.int v2), some (.int q9.1), some (.int q9.2.1), none]))) (sx := (Sum.elim (fun (q9 : Int32 × Int32 × Int32 × AHeap) => []) (fun (q9 : Int32 × Int32 × AHeap) => []))) (hx := (Sum.elim (fun (q9 : Int32 × Int32 × Int32 × AHeap) => q9.2.2.2) (fun (q9 : Int32 × Int32 × AHeap) => q9.2.2))) (fun Y2 z9 m1 m2 => Book_totalAt_b9_J ok v0 v1 v2 m1 (fun q hq => m2 (Sum.inl q) hq) (fun q hq => m2 (Sum.inr q) hq) z9) (fun q9 => ?_) Lmax _
  rcases q9 with q9 | q9
  · show J E kBook_totalAt (Book_totalAt_j34 v0 v1 v2 q9.1 q9.2.1 q9.2.2.1 q9.2.2.2) _ 34 [some (.ref v0), some (.ref v1), some (.int v2), some (.int q9.1), some (.int q9.2.1), some (.int q9.2.2.1)] [] q9.2.2.2 0 0
    exact Book_totalAt_j34_J ok v0 v1 v2 q9.1 q9.2.1 q9.2.2.1 q9.2.2.2
  · show J E kBook_totalAt (Book_totalAt_j55 v0 v1 v2 q9.1 q9.2.1 q9.2.2) _ 55 [some (.ref v0), some (.ref v1), some (.int v2), some (.int q9.1), some (.int q9.2.1), none] [] q9.2.2 0 0
    exact Book_totalAt_j55_J ok v0 v1 v2 q9.1 q9.2.1 q9.2.2
-- X10_total
abbrev kSp_total : Cd := (yX10_total, cX10_total, 2, (some .int), 6, 149)
theorem dX10_total : dcheck cX10_total [(0, .aload_n 0, 1), (1, .getfield 10, 3), (4, .getfield 113, 3), (7, .iload_n 1, 1), (8, .invokevirtual 272, 3), (11, .ifCond .ne 5, 3), (14, .iconst (-1), 1), (15, .ireturn, 1), (16, .aload_n 0, 1), (17, .getfield 23, 3), (20, .getfield 126, 3), (23, .aload_n 0, 1), (24, .getfield 10, 3), (27, .getfield 113, 3), (30, .iload_n 1, 1), (31, .invokevirtual 309, 3), (34, .ireturn, 1)] = true := by decide +kernel
theorem cw_Sp_total {k : Cd} (h1 : kSp_total.2.2.2.2.1 + 1 ≤ k.2.2.2.2.1) (h2 : 8 + (kSp_total.2.2.1 + 11) + kSp_total.2.2.2.2.2 ≤ k.2.2.2.2.2) : Cw k kSp_total 1 := ⟨wcode_X10_total, wini_SplitProgram, ⟨by decide, by decide, by decide +kernel⟩, h1, h2⟩
def Sp_total (v0 : Nat) (v1 : Int32) (h : AHeap) : Option (Int32 × AHeap) :=
  (gfR h v0 10 0).bind fun a1 => (gfR h a1 8 0).bind fun a2 => (chk h a2 6).bind fun _ => bnd2 (Prog_isPlan a2 v1 h) fun x4 h3 => (if ¬ x4 = 0 then (gfR h3 v0 10 2).bind fun a5 => (gfR h3 a5 3 0).bind fun a6 => (gfR h3 v0 10 0).bind fun a7 => (gfR h3 a7 8 0).bind fun a8 => (chk h3 a6 0).bind fun _ => bnd2 (Book_totalAt a6 a8 v1 h3) fun x10 h9 => some (x10, h9) else some ((-1), h3))
theorem t_Sp_total {l : Launch} {G : GX} {v0 : Nat} {v1 : Int32} {h : AHeap} {v : Int32} {h1 : AHeap} (hf : Sp_total v0 v1 h = some (v, h1)) : CT l G kSp_total 0 0 [.ref v0, .int v1] h (some (.int v)) h1 := by
  refine CT_of (ls := [some (.ref v0), some (.int v1)]) (Z := fun z => z = (v, h1)) (by decide +kernel) (Nat.le_of_ble_eq_true rfl) hf rfl ⟨rfl, rfl, trivial⟩ (fun E ok => ?_)
  unfold Sp_total
  refine J_aload_n (pc' := 1) ok (dOf dX10_total 0 rfl) rfl rfl rfl ?_
  refine J_getR (ci := 10) (kf := 0) (C := RX10) (T := TX10) (N := 14) (pc' := 4) ok (dOf dX10_total 1 rfl) rfl (by decide) rfl (by decide) win_10 wfl_X10_10 (fun a1 => ?_)
  refine J_getR (ci := 8) (kf := 0) (C := RX8) (T := TX8) (N := 3) (pc' := 7) ok (dOf dX10_total 2 rfl) rfl (by decide) rfl (by decide) win_8 wfl_X10_113 (fun a2 => ?_)
  refine J_iload_n (pc' := 8) ok (dOf dX10_total 3 rfl) rfl rfl rfl ?_
  refine J_callVi (k2 := kProg_isPlan) (ci := 6) (T := TX6) (N := 9) (as := [.int v1]) (pc' := 11) ok (dOf dX10_total 4 rfl) rfl (cw_Prog_isPlan (by decide) (by decide)) wml_X10_272 winst_X6_isPlan wsel_X6_isPlan rfl ⟨Nat.le_refl 0, Nat.le_refl 0⟩ (Nat.le_of_ble_eq_true rfl) rfl (fun _ _ hf => t_Prog_isPlan hf) (fun x4 h3 => ?_)
  refine J_if_ne (tgt := 16) (pc' := 14) ok (dOf dX10_total 5 rfl) rfl (by decide) ?_ ?_
  · refine J_aload_n (pc' := 17) ok (dOf dX10_total 8 rfl) rfl rfl rfl ?_
    refine J_getR (ci := 10) (kf := 2) (C := RX10) (T := TX10) (N := 14) (pc' := 20) ok (dOf dX10_total 9 rfl) rfl (by decide) rfl (by decide) win_10 wfl_X10_23 (fun a5 => ?_)
    refine J_getR (ci := 3) (kf := 0) (C := RX3) (T := TX3) (N := 12) (pc' := 23) ok (dOf dX10_total 10 rfl) rfl (by decide) rfl (by decide) win_3 wfl_X10_126 (fun a6 => ?_)
    refine J_aload_n (pc' := 24) ok (dOf dX10_total 11 rfl) rfl rfl rfl ?_
    refine J_getR (ci := 10) (kf := 0) (C := RX10) (T := TX10) (N := 14) (pc' := 27) ok (dOf dX10_total 12 rfl) rfl (by decide) rfl (by decide) win_10 wfl_X10_10 (fun a7 => ?_)
    refine J_getR (ci := 8) (kf := 0) (C := RX8) (T := TX8) (N := 3) (pc' := 30) ok (dOf dX10_total 13 rfl) rfl (by decide) rfl (by decide) win_8 wfl_X10_113 (fun a8 => ?_)
    refine J_iload_n (pc' := 31) ok (dOf dX10_total 14 rfl) rfl rfl rfl ?_
    refine J_callVi (k2 := kBook_totalAt) (ci := 0) (T := TX0) (N := 2) (as := [.ref a8, .int v1]) (pc' := 34) ok (dOf dX10_total 15 rfl) rfl (cw_Book_totalAt (by decide) (by decide)) wml_X10_309 winst_X0_totalAt wsel_X0_totalAt rfl ⟨Nat.le_refl 0, Nat.le_refl 0⟩ (Nat.le_of_ble_eq_true rfl) rfl (fun _ _ hf => t_Book_totalAt hf) (fun x10 h9 => ?_)
    exact J_ireturn ok (dOf dX10_total 16 rfl) rfl (Eq.refl 0) (Nat.le_refl 0)
  · refine J_iconst (v := (-1)) (pc' := 15) ok (dOf dX10_total 6 rfl) rfl (by decide) ?_
    exact J_ireturn ok (dOf dX10_total 7 rfl) rfl (Eq.refl 0) (Nat.le_refl 0)
-- X0_cheapestPlan
abbrev kBook_cheapestPlan : Cd := (yX0_cheapestPlan, cX0_cheapestPlan, 6, (some .int), 6, 149)
theorem dX0_cheapestPlan : dcheck cX0_cheapestPlan [(0, .iconst (-1), 1), (1, .istore_n 2, 1), (2, .iconst (-1), 1), (3, .istore_n 3, 1), (4, .iconst 0, 1), (5, .istore 4, 2), (7, .iload 4, 2), (9, .sipush 256, 3), (12, .if_icmp .ge 54, 3), (15, .aload_n 1, 1), (16, .iload 4, 2), (18, .invokevirtual 55, 3), (21, .ifCond .eq 13, 3), (24, .aload_n 0, 1), (25, .aload_n 1, 1), (26, .iload 4, 2), (28, .invokevirtual 59, 3), (31, .goto 4, 3), (34, .iconst (-1), 1), (35, .istore 5, 2), (37, .iload 5, 2), (39, .iconst (-1), 1), (40, .if_icmp .eq 20, 3), (43, .iload_n 2, 1), (44, .iconst (-1), 1), (45, .if_icmp .eq 9, 3), (48, .iload 5, 2), (50, .iload_n 3, 1), (51, .if_icmp .ge 9, 3), (54, .iload 4, 2), (56, .istore_n 2, 1), (57, .iload 5, 2), (59, .istore_n 3, 1), (60, .iinc 4 1, 3), (63, .goto (-56), 3), (66, .iload_n 2, 1), (67, .ireturn, 1)] = true := by decide +kernel
theorem cw_Book_cheapestPlan {k : Cd} (h1 : kBook_cheapestPlan.2.2.2.2.1 + 1 ≤ k.2.2.2.2.1) (h2 : 8 + (kBook_cheapestPlan.2.2.1 + 11) + kBook_cheapestPlan.2.2.2.2.2 ≤ k.2.2.2.2.2) : Cw k kBook_cheapestPlan 1 := ⟨wcode_X0_cheapestPlan, wini_SplitProgram_Book, ⟨by decide, by decide, by decide +kernel⟩, h1, h2⟩
def Book_cheapestPlan_j60 (v0 : Nat) (v1 : Nat) (v2 : Int32) (v3 : Int32) (v4 : Int32) (v5 : Int32) (h : AHeap) : Option ((Int32 × Int32 × Int32 × AHeap) ⊕ ((Int32 × Int32 × Int32 × AHeap))) :=
  some (Sum.inl (v2, v3, v4 + 1, h))
theorem Book_cheapestPlan_j60_J {E : JE} {l : Launch} {G : GX} {r : Option Value} {h' : AHeap} (ok : JOK E l G kBook_cheapestPlan 0 0 r h') (v0 : Nat) (v1 : Nat) (v2 : Int32) (v3 : Int32) (v4 : Int32) (v5 : Int32) (h : AHeap) {Y : (Int32 × Int32 × Int32 × AHeap) ⊕ ((Int32 × Int32 × Int32 × AHeap)) → Prop} (k1 : ∀ s' : Int32 × Int32 × Int32 × AHeap, Y (.inl s') → JW E kBook_cheapestPlan 7 [some (.ref v0), some (.ref v1), some (.int s'.1), some (.int s'.2.1), some (.int s'.2.2.1), none] [] s'.2.2.2 0 0) (kx66 : ∀ q : Int32 × Int32 × Int32 × AHeap, Y (.inr q) → JW E kBook_cheapestPlan 66 [some (.ref v0), some (.ref v1), some (.int q.1), some (.int q.2.1), some (.int q.2.2.1), none] [] q.2.2.2 0 0) : J E kBook_cheapestPlan (Book_cheapestPlan_j60 v0 v1 v2 v3 v4 v5 h) Y 60 [some (.ref v0), some (.ref v1), some (.int v2), some (.int v3), some (.int v4), some (.int v5)] [] h 0 0 := by
  unfold Book_cheapestPlan_j60
  refine J_iinc (v := v4 + 1) (ls' := [some (.ref v0), some (.ref v1), some (.int v2), some (.int v3), some (.int (v4 + 1)), some (.int v5)]) (pc' := 63) ok (dOf dX0_cheapestPlan 33 rfl) rfl rfl (by rfl) (Nat.le_of_ble_eq_true rfl) rfl rfl ?_
  refine J_goto (tgt := 7) ok (dOf dX0_cheapestPlan 34 rfl) (by decide) ?_
  refine J_weak (ls' := [some (.ref v0), some (.ref v1), some (.int v2), some (.int v3), some (.int (v4 + 1)), none]) ⟨rfl, rfl, rfl, rfl, rfl, trivial⟩ ?_
  exact J_fin (k1 (v2, v3, v4 + 1, h))
def Book_cheapestPlan_j54 (v0 : Nat) (v1 : Nat) (v2 : Int32) (v3 : Int32) (v4 : Int32) (v5 : Int32) (h : AHeap) : Option ((Int32 × Int32 × Int32 × AHeap) ⊕ ((Int32 × Int32 × Int32 × AHeap))) :=
  Book_cheapestPlan_j60 v0 v1 v4 v5 v4 v5 h
theorem Book_cheapestPlan_j54_J {E : JE} {l : Launch} {G : GX} {r : Option Value} {h' : AHeap} (ok : JOK E l G kBook_cheapestPlan 0 0 r h') (v0 : Nat) (v1 : Nat) (v2 : Int32) (v3 : Int32) (v4 : Int32) (v5 : Int32) (h : AHeap) {Y : (Int32 × Int32 × Int32 × AHeap) ⊕ ((Int32 × Int32 × Int32 × AHeap)) → Prop} (k1 : ∀ s' : Int32 × Int32 × Int32 × AHeap, Y (.inl s') → JW E kBook_cheapestPlan 7 [some (.ref v0), some (.ref v1), some (.int s'.1), some (.int s'.2.1), some (.int s'.2.2.1), none] [] s'.2.2.2 0 0) (kx66 : ∀ q : Int32 × Int32 × Int32 × AHeap, Y (.inr q) → JW E kBook_cheapestPlan 66 [some (.ref v0), some (.ref v1), some (.int q.1), some (.int q.2.1), some (.int q.2.2.1), none] [] q.2.2.2 0 0) : J E kBook_cheapestPlan (Book_cheapestPlan_j54 v0 v1 v2 v3 v4 v5 h) Y 54 [some (.ref v0), some (.ref v1), some (.int v2), some (.int v3), some (.int v4), some (.int v5)] [] h 0 0 := by
  unfold Book_cheapestPlan_j54
  refine J_iload (pc' := 56) ok (dOf dX0_cheapestPlan 29 rfl) rfl rfl ?_
  refine J_istore_n (ls' := [some (.ref v0), some (.ref v1), some (.int v4), some (.int v3), some (.int v4), some (.int v5)]) (pc' := 57) ok (dOf dX0_cheapestPlan 30 rfl) rfl rfl (Nat.le_of_ble_eq_true rfl) rfl rfl ?_
  refine J_iload (pc' := 59) ok (dOf dX0_cheapestPlan 31 rfl) rfl rfl ?_
  refine J_istore_n (ls' := [some (.ref v0), some (.ref v1), some (.int v4), some (.int v5), some (.int v4), some (.int v5)]) (pc' := 60) ok (dOf dX0_cheapestPlan 32 rfl) rfl rfl (Nat.le_of_ble_eq_true rfl) rfl rfl ?_
  exact Book_cheapestPlan_j60_J ok v0 v1 v4 v5 v4 v5 h k1 kx66
def Book_cheapestPlan_j35 (v0 : Nat) (v1 : Nat) (v2 : Int32) (v3 : Int32) (v4 : Int32) (t0 : Int32) (h : AHeap) : Option ((Int32 × Int32 × Int32 × AHeap) ⊕ ((Int32 × Int32 × Int32 × AHeap))) :=
  (if t0 = (-1) then Book_cheapestPlan_j60 v0 v1 v2 v3 v4 t0 h else (if v2 = (-1) then Book_cheapestPlan_j54 v0 v1 v2 v3 v4 t0 h else (if v3 ≤ t0 then Book_cheapestPlan_j60 v0 v1 v2 v3 v4 t0 h else Book_cheapestPlan_j54 v0 v1 v2 v3 v4 t0 h)))
theorem Book_cheapestPlan_j35_J {E : JE} {l : Launch} {G : GX} {r : Option Value} {h' : AHeap} (ok : JOK E l G kBook_cheapestPlan 0 0 r h') (v0 : Nat) (v1 : Nat) (v2 : Int32) (v3 : Int32) (v4 : Int32) (t0 : Int32) (h : AHeap) {Y : (Int32 × Int32 × Int32 × AHeap) ⊕ ((Int32 × Int32 × Int32 × AHeap)) → Prop} (k1 : ∀ s' : Int32 × Int32 × Int32 × AHeap, Y (.inl s') → JW E kBook_cheapestPlan 7 [some (.ref v0), some (.ref v1), some (.int s'.1), some (.int s'.2.1), some (.int s'.2.2.1), none] [] s'.2.2.2 0 0) (kx66 : ∀ q : Int32 × Int32 × Int32 × AHeap, Y (.inr q) → JW E kBook_cheapestPlan 66 [some (.ref v0), some (.ref v1), some (.int q.1), some (.int q.2.1), some (.int q.2.2.1), none] [] q.2.2.2 0 0) : J E kBook_cheapestPlan (Book_cheapestPlan_j35 v0 v1 v2 v3 v4 t0 h) Y 35 [some (.ref v0), some (.ref v1), some (.int v2), some (.int v3), some (.int v4), none] [.int t0] h 0 0 := by
  unfold Book_cheapestPlan_j35
  refine J_istore (ls' := [some (.ref v0), some (.ref v1), some (.int v2), some (.int v3), some (.int v4), some (.int t0)]) (pc' := 37) ok (dOf dX0_cheapestPlan 19 rfl) rfl (Nat.le_of_ble_eq_true rfl) rfl rfl ?_
  refine J_iload (pc' := 39) ok (dOf dX0_cheapestPlan 20 rfl) rfl rfl ?_
  refine J_iconst (v := (-1)) (pc' := 40) ok (dOf dX0_cheapestPlan 21 rfl) rfl (by decide) ?_
  refine J_icmp_eq (tgt := 60) (pc' := 43) ok (dOf dX0_cheapestPlan 22 rfl) rfl (by decide) ?_ ?_
  · exact Book_cheapestPlan_j60_J ok v0 v1 v2 v3 v4 t0 h k1 kx66
  · refine J_iload_n (pc' := 44) ok (dOf dX0_cheapestPlan 23 rfl) rfl rfl rfl ?_
    refine J_iconst (v := (-1)) (pc' := 45) ok (dOf dX0_cheapestPlan 24 rfl) rfl (by decide) ?_
    refine J_icmp_eq (tgt := 54) (pc' := 48) ok (dOf dX0_cheapestPlan 25 rfl) rfl (by decide) ?_ ?_
    · exact Book_cheapestPlan_j54_J ok v0 v1 v2 v3 v4 t0 h k1 kx66
    · refine J_iload (pc' := 50) ok (dOf dX0_cheapestPlan 26 rfl) rfl rfl ?_
      refine J_iload_n (pc' := 51) ok (dOf dX0_cheapestPlan 27 rfl) rfl rfl rfl ?_
      refine J_icmp_ge (tgt := 60) (pc' := 54) ok (dOf dX0_cheapestPlan 28 rfl) rfl (by decide) ?_ ?_
      · exact Book_cheapestPlan_j60_J ok v0 v1 v2 v3 v4 t0 h k1 kx66
      · exact Book_cheapestPlan_j54_J ok v0 v1 v2 v3 v4 t0 h k1 kx66
def Book_cheapestPlan_b7 (v0 : Nat) (v1 : Nat) (s : Int32 × Int32 × Int32 × AHeap) : Option ((Int32 × Int32 × Int32 × AHeap) ⊕ ((Int32 × Int32 × Int32 × AHeap))) :=
  (if 256 ≤ s.2.2.1 then some (Sum.inr (s.1, s.2.1, s.2.2.1, s.2.2.2)) else (chk s.2.2.2 v1 6).bind fun _ => bnd2 (Prog_isPlan v1 s.2.2.1 s.2.2.2) fun x2 h1 => (if x2 = 0 then Book_cheapestPlan_j35 v0 v1 s.1 s.2.1 s.2.2.1 (-1) h1 else (chk h1 v0 0).bind fun _ => bnd2 (Book_totalAt v0 v1 s.2.2.1 h1) fun x4 h3 => Book_cheapestPlan_j35 v0 v1 s.1 s.2.1 s.2.2.1 x4 h3))
theorem Book_cheapestPlan_b7_J {E : JE} {l : Launch} {G : GX} {r : Option Value} {h' : AHeap} (ok : JOK E l G kBook_cheapestPlan 0 0 r h') (v0 : Nat) (v1 : Nat) {Y : (Int32 × Int32 × Int32 × AHeap) ⊕ ((Int32 × Int32 × Int32 × AHeap)) → Prop} (k1 : ∀ s' : Int32 × Int32 × Int32 × AHeap, Y (.inl s') → JW E kBook_cheapestPlan 7 [some (.ref v0), some (.ref v1), some (.int s'.1), some (.int s'.2.1), some (.int s'.2.2.1), none] [] s'.2.2.2 0 0) (kx66 : ∀ q : Int32 × Int32 × Int32 × AHeap, Y (.inr q) → JW E kBook_cheapestPlan 66 [some (.ref v0), some (.ref v1), some (.int q.1), some (.int q.2.1), some (.int q.2.2.1), none] [] q.2.2.2 0 0) (s : Int32 × Int32 × Int32 × AHeap) : J E kBook_cheapestPlan (Book_cheapestPlan_b7 v0 v1 s) Y 7 [some (.ref v0), some (.ref v1), some (.int s.1), some (.int s.2.1), some (.int s.2.2.1), none] [] s.2.2.2 0 0 := by
  unfold Book_cheapestPlan_b7
  refine J_iload (pc' := 9) ok (dOf dX0_cheapestPlan 6 rfl) rfl rfl ?_
  refine J_sipush (v := 256) (pc' := 12) ok (dOf dX0_cheapestPlan 7 rfl) rfl (by decide) ?_
  refine J_icmp_ge (tgt := 66) (pc' := 15) ok (dOf dX0_cheapestPlan 8 rfl) rfl (by decide) ?_ ?_
  · exact J_fin (kx66 (s.1, s.2.1, s.2.2.1, s.2.2.2))
  · refine J_aload_n (pc' := 16) ok (dOf dX0_cheapestPlan 9 rfl) rfl rfl rfl ?_
    refine J_iload (pc' := 18) ok (dOf dX0_cheapestPlan 10 rfl) rfl rfl ?_
    refine J_callVi (k2 := kProg_isPlan) (ci := 6) (T := TX6) (N := 9) (as := [.int s.2.2.1]) (pc' := 21) ok (dOf dX0_cheapestPlan 11 rfl) rfl (cw_Prog_isPlan (by decide) (by decide)) wml_X0_55 winst_X6_isPlan wsel_X6_isPlan rfl ⟨Nat.le_refl 0, Nat.le_refl 0⟩ (Nat.le_of_ble_eq_true rfl) rfl (fun _ _ hf => t_Prog_isPlan hf) (fun x2 h1 => ?_)
    refine J_if_eq (tgt := 34) (pc' := 24) ok (dOf dX0_cheapestPlan 12 rfl) rfl (by decide) ?_ ?_
    · refine J_iconst (v := (-1)) (pc' := 35) ok (dOf dX0_cheapestPlan 18 rfl) rfl (by decide) ?_
      exact Book_cheapestPlan_j35_J ok v0 v1 s.1 s.2.1 s.2.2.1 (-1) h1 k1 kx66
    · refine J_aload_n (pc' := 25) ok (dOf dX0_cheapestPlan 13 rfl) rfl rfl rfl ?_
      refine J_aload_n (pc' := 26) ok (dOf dX0_cheapestPlan 14 rfl) rfl rfl rfl ?_
      refine J_iload (pc' := 28) ok (dOf dX0_cheapestPlan 15 rfl) rfl rfl ?_
      refine J_callVi (k2 := kBook_totalAt) (ci := 0) (T := TX0) (N := 2) (as := [.ref v1, .int s.2.2.1]) (pc' := 31) ok (dOf dX0_cheapestPlan 16 rfl) rfl (cw_Book_totalAt (by decide) (by decide)) wml_X0_59 winst_X0_totalAt wsel_X0_totalAt rfl ⟨Nat.le_refl 0, Nat.le_refl 0⟩ (Nat.le_of_ble_eq_true rfl) rfl (fun _ _ hf => t_Book_totalAt hf) (fun x4 h3 => ?_)
      refine J_goto (tgt := 35) ok (dOf dX0_cheapestPlan 17 rfl) (by decide) ?_
      exact Book_cheapestPlan_j35_J ok v0 v1 s.1 s.2.1 s.2.2.1 x4 h3 k1 kx66
def Book_cheapestPlan_j66 (v0 : Nat) (v1 : Nat) (v2 : Int32) (v3 : Int32) (v4 : Int32) (h : AHeap) : Option (Int32 × AHeap) :=
  some (v2, h)
theorem Book_cheapestPlan_j66_J {E : JE} {l : Launch} {G : GX} {v : Int32} {h' : AHeap} (ok : JOK E l G kBook_cheapestPlan 0 0 (some (.int v)) h') (v0 : Nat) (v1 : Nat) (v2 : Int32) (v3 : Int32) (v4 : Int32) (h : AHeap) : J E kBook_cheapestPlan (Book_cheapestPlan_j66 v0 v1 v2 v3 v4 h) (fun z => z = (v, h')) 66 [some (.ref v0), some (.ref v1), some (.int v2), some (.int v3), some (.int v4), none] [] h 0 0 := by
  unfold Book_cheapestPlan_j66
  refine J_iload_n (pc' := 67) ok (dOf dX0_cheapestPlan 35 rfl) rfl rfl rfl ?_
  exact J_ireturn ok (dOf dX0_cheapestPlan 36 rfl) rfl (Eq.refl 0) (Nat.le_refl 0)
def Book_cheapestPlan (v0 : Nat) (v1 : Nat) (h : AHeap) : Option (Int32 × AHeap) :=
  (iter (Book_cheapestPlan_b7 v0 v1) Lmax ((-1), (-1), 0, h)).bind (fun (q7 : Int32 × Int32 × Int32 × AHeap) => Book_cheapestPlan_j66 v0 v1 q7.1 q7.2.1 q7.2.2.1 q7.2.2.2)
theorem t_Book_cheapestPlan {l : Launch} {G : GX} {v0 : Nat} {v1 : Nat} {h : AHeap} {v : Int32} {h1 : AHeap} (hf : Book_cheapestPlan v0 v1 h = some (v, h1)) : CT l G kBook_cheapestPlan 0 0 [.ref v0, .ref v1] h (some (.int v)) h1 := by
  refine CT_of (ls := [some (.ref v0), some (.ref v1), none, none, none, none]) (Z := fun z => z = (v, h1)) (by decide +kernel) (Nat.le_of_ble_eq_true rfl) hf rfl ⟨rfl, rfl, trivial⟩ (fun E ok => ?_)
  unfold Book_cheapestPlan
  refine J_iconst (v := (-1)) (pc' := 1) ok (dOf dX0_cheapestPlan 0 rfl) rfl (by decide) ?_
  refine J_istore_n (ls' := [some (.ref v0), some (.ref v1), some (.int (-1)), none, none, none]) (pc' := 2) ok (dOf dX0_cheapestPlan 1 rfl) rfl rfl (Nat.le_of_ble_eq_true rfl) rfl rfl ?_
  refine J_iconst (v := (-1)) (pc' := 3) ok (dOf dX0_cheapestPlan 2 rfl) rfl (by decide) ?_
  refine J_istore_n (ls' := [some (.ref v0), some (.ref v1), some (.int (-1)), some (.int (-1)), none, none]) (pc' := 4) ok (dOf dX0_cheapestPlan 3 rfl) rfl rfl (Nat.le_of_ble_eq_true rfl) rfl rfl ?_
  refine J_iconst (v := 0) (pc' := 5) ok (dOf dX0_cheapestPlan 4 rfl) rfl (by decide) ?_
  refine J_istore (ls' := [some (.ref v0), some (.ref v1), some (.int (-1)), some (.int (-1)), some (.int 0), none]) (pc' := 7) ok (dOf dX0_cheapestPlan 5 rfl) rfl (Nat.le_of_ble_eq_true rfl) rfl rfl ?_
  refine J_iter (lf := fun z7 => [some (.ref v0), some (.ref v1), some (.int z7.1), some (.int z7.2.1), some (.int z7.2.2.1), none]) (sf := fun _ => []) (hf := fun z7 => z7.2.2.2) (px := (fun (q7 : Int32 × Int32 × Int32 × AHeap) => 66)) (lx := (fun (q7 : Int32 × Int32 × Int32 × AHeap) => [some (.ref v0), some (.ref v1), some (.int q7.1), some (.int q7.2.1), some (.int q7.2.2.1), none])) (sx := (fun (q7 : Int32 × Int32 × Int32 × AHeap) => [])) (hx := (fun (q7 : Int32 × Int32 × Int32 × AHeap) => q7.2.2.2)) (fun Y2 z7 m1 m2 => Book_cheapestPlan_b7_J ok v0 v1 m1 m2 z7) (fun q7 => ?_) Lmax _
  exact Book_cheapestPlan_j66_J ok v0 v1 q7.1 q7.2.1 q7.2.2.1 q7.2.2.2
-- X10_least
abbrev kSp_least : Cd := (yX10_least, cX10_least, 3, (some .int), 7, 174)
theorem dX10_least : dcheck cX10_least [(0, .iload_n 1, 1), (1, .ifCond .eq 10, 3), (4, .iload_n 1, 1), (5, .iconst 1, 1), (6, .if_icmp .eq 5, 3), (9, .iconst (-1), 1), (10, .ireturn, 1), (11, .aload_n 0, 1), (12, .getfield 23, 3), (15, .getfield 126, 3), (18, .aload_n 0, 1), (19, .getfield 10, 3), (22, .getfield 113, 3), (25, .invokevirtual 312, 3), (28, .istore_n 2, 1), (29, .iload_n 2, 1), (30, .iconst (-1), 1), (31, .if_icmp .eq 8, 3), (34, .iload_n 1, 1), (35, .iconst 1, 1), (36, .if_icmp .ne 5, 3), (39, .iload_n 2, 1), (40, .ireturn, 1), (41, .aload_n 0, 1), (42, .getfield 23, 3), (45, .getfield 126, 3), (48, .aload_n 0, 1), (49, .getfield 10, 3), (52, .getfield 113, 3), (55, .iload_n 2, 1), (56, .invokevirtual 309, 3), (59, .ireturn, 1)] = true := by decide +kernel
theorem cw_Sp_least {k : Cd} (h1 : kSp_least.2.2.2.2.1 + 1 ≤ k.2.2.2.2.1) (h2 : 8 + (kSp_least.2.2.1 + 11) + kSp_least.2.2.2.2.2 ≤ k.2.2.2.2.2) : Cw k kSp_least 1 := ⟨wcode_X10_least, wini_SplitProgram, ⟨by decide, by decide, by decide +kernel⟩, h1, h2⟩
def Sp_least_j39 (v0 : Nat) (v1 : Int32) (v2 : Int32) (h : AHeap) : Option (Int32 × AHeap) :=
  some (v2, h)
theorem Sp_least_j39_J {E : JE} {l : Launch} {G : GX} {v : Int32} {h' : AHeap} (ok : JOK E l G kSp_least 0 0 (some (.int v)) h') (v0 : Nat) (v1 : Int32) (v2 : Int32) (h : AHeap) : J E kSp_least (Sp_least_j39 v0 v1 v2 h) (fun z => z = (v, h')) 39 [some (.ref v0), some (.int v1), some (.int v2)] [] h 0 0 := by
  unfold Sp_least_j39
  refine J_iload_n (pc' := 40) ok (dOf dX10_least 21 rfl) rfl rfl rfl ?_
  exact J_ireturn ok (dOf dX10_least 22 rfl) rfl (Eq.refl 0) (Nat.le_refl 0)
def Sp_least_j11 (v0 : Nat) (v1 : Int32) (h : AHeap) : Option (Int32 × AHeap) :=
  (gfR h v0 10 2).bind fun a1 => (gfR h a1 3 0).bind fun a2 => (gfR h v0 10 0).bind fun a3 => (gfR h a3 8 0).bind fun a4 => (chk h a2 0).bind fun _ => bnd2 (Book_cheapestPlan a2 a4 h) fun x6 h5 => (if x6 = (-1) then Sp_least_j39 v0 v1 x6 h5 else (if ¬ v1 = 1 then (gfR h5 v0 10 2).bind fun a7 => (gfR h5 a7 3 0).bind fun a8 => (gfR h5 v0 10 0).bind fun a9 => (gfR h5 a9 8 0).bind fun a10 => (chk h5 a8 0).bind fun _ => bnd2 (Book_totalAt a8 a10 x6 h5) fun x12 h11 => some (x12, h11) else Sp_least_j39 v0 v1 x6 h5))
theorem Sp_least_j11_J {E : JE} {l : Launch} {G : GX} {v : Int32} {h' : AHeap} (ok : JOK E l G kSp_least 0 0 (some (.int v)) h') (v0 : Nat) (v1 : Int32) (h : AHeap) : J E kSp_least (Sp_least_j11 v0 v1 h) (fun z => z = (v, h')) 11 [some (.ref v0), some (.int v1), none] [] h 0 0 := by
  unfold Sp_least_j11
  refine J_aload_n (pc' := 12) ok (dOf dX10_least 7 rfl) rfl rfl rfl ?_
  refine J_getR (ci := 10) (kf := 2) (C := RX10) (T := TX10) (N := 14) (pc' := 15) ok (dOf dX10_least 8 rfl) rfl (by decide) rfl (by decide) win_10 wfl_X10_23 (fun a1 => ?_)
  refine J_getR (ci := 3) (kf := 0) (C := RX3) (T := TX3) (N := 12) (pc' := 18) ok (dOf dX10_least 9 rfl) rfl (by decide) rfl (by decide) win_3 wfl_X10_126 (fun a2 => ?_)
  refine J_aload_n (pc' := 19) ok (dOf dX10_least 10 rfl) rfl rfl rfl ?_
  refine J_getR (ci := 10) (kf := 0) (C := RX10) (T := TX10) (N := 14) (pc' := 22) ok (dOf dX10_least 11 rfl) rfl (by decide) rfl (by decide) win_10 wfl_X10_10 (fun a3 => ?_)
  refine J_getR (ci := 8) (kf := 0) (C := RX8) (T := TX8) (N := 3) (pc' := 25) ok (dOf dX10_least 12 rfl) rfl (by decide) rfl (by decide) win_8 wfl_X10_113 (fun a4 => ?_)
  refine J_callVi (k2 := kBook_cheapestPlan) (ci := 0) (T := TX0) (N := 2) (as := [.ref a4]) (pc' := 28) ok (dOf dX10_least 13 rfl) rfl (cw_Book_cheapestPlan (by decide) (by decide)) wml_X10_312 winst_X0_cheapestPlan wsel_X0_cheapestPlan rfl ⟨Nat.le_refl 0, Nat.le_refl 0⟩ (Nat.le_of_ble_eq_true rfl) rfl (fun _ _ hf => t_Book_cheapestPlan hf) (fun x6 h5 => ?_)
  refine J_istore_n (ls' := [some (.ref v0), some (.int v1), some (.int x6)]) (pc' := 29) ok (dOf dX10_least 14 rfl) rfl rfl (Nat.le_of_ble_eq_true rfl) rfl rfl ?_
  refine J_iload_n (pc' := 30) ok (dOf dX10_least 15 rfl) rfl rfl rfl ?_
  refine J_iconst (v := (-1)) (pc' := 31) ok (dOf dX10_least 16 rfl) rfl (by decide) ?_
  refine J_icmp_eq (tgt := 39) (pc' := 34) ok (dOf dX10_least 17 rfl) rfl (by decide) ?_ ?_
  · exact Sp_least_j39_J ok v0 v1 x6 h5
  · refine J_iload_n (pc' := 35) ok (dOf dX10_least 18 rfl) rfl rfl rfl ?_
    refine J_iconst (v := 1) (pc' := 36) ok (dOf dX10_least 19 rfl) rfl (by decide) ?_
    refine J_icmp_ne (tgt := 41) (pc' := 39) ok (dOf dX10_least 20 rfl) rfl (by decide) ?_ ?_
    · refine J_aload_n (pc' := 42) ok (dOf dX10_least 23 rfl) rfl rfl rfl ?_
      refine J_getR (ci := 10) (kf := 2) (C := RX10) (T := TX10) (N := 14) (pc' := 45) ok (dOf dX10_least 24 rfl) rfl (by decide) rfl (by decide) win_10 wfl_X10_23 (fun a7 => ?_)
      refine J_getR (ci := 3) (kf := 0) (C := RX3) (T := TX3) (N := 12) (pc' := 48) ok (dOf dX10_least 25 rfl) rfl (by decide) rfl (by decide) win_3 wfl_X10_126 (fun a8 => ?_)
      refine J_aload_n (pc' := 49) ok (dOf dX10_least 26 rfl) rfl rfl rfl ?_
      refine J_getR (ci := 10) (kf := 0) (C := RX10) (T := TX10) (N := 14) (pc' := 52) ok (dOf dX10_least 27 rfl) rfl (by decide) rfl (by decide) win_10 wfl_X10_10 (fun a9 => ?_)
      refine J_getR (ci := 8) (kf := 0) (C := RX8) (T := TX8) (N := 3) (pc' := 55) ok (dOf dX10_least 28 rfl) rfl (by decide) rfl (by decide) win_8 wfl_X10_113 (fun a10 => ?_)
      refine J_iload_n (pc' := 56) ok (dOf dX10_least 29 rfl) rfl rfl rfl ?_
      refine J_callVi (k2 := kBook_totalAt) (ci := 0) (T := TX0) (N := 2) (as := [.ref a10, .int x6]) (pc' := 59) ok (dOf dX10_least 30 rfl) rfl (cw_Book_totalAt (by decide) (by decide)) wml_X10_309 winst_X0_totalAt wsel_X0_totalAt rfl ⟨Nat.le_refl 0, Nat.le_refl 0⟩ (Nat.le_of_ble_eq_true rfl) rfl (fun _ _ hf => t_Book_totalAt hf) (fun x12 h11 => ?_)
      exact J_ireturn ok (dOf dX10_least 31 rfl) rfl (Eq.refl 0) (Nat.le_refl 0)
    · exact Sp_least_j39_J ok v0 v1 x6 h5
def Sp_least (v0 : Nat) (v1 : Int32) (h : AHeap) : Option (Int32 × AHeap) :=
  (if v1 = 0 then Sp_least_j11 v0 v1 h else (if v1 = 1 then Sp_least_j11 v0 v1 h else some ((-1), h)))
theorem t_Sp_least {l : Launch} {G : GX} {v0 : Nat} {v1 : Int32} {h : AHeap} {v : Int32} {h1 : AHeap} (hf : Sp_least v0 v1 h = some (v, h1)) : CT l G kSp_least 0 0 [.ref v0, .int v1] h (some (.int v)) h1 := by
  refine CT_of (ls := [some (.ref v0), some (.int v1), none]) (Z := fun z => z = (v, h1)) (by decide +kernel) (Nat.le_of_ble_eq_true rfl) hf rfl ⟨rfl, rfl, trivial⟩ (fun E ok => ?_)
  unfold Sp_least
  refine J_iload_n (pc' := 1) ok (dOf dX10_least 0 rfl) rfl rfl rfl ?_
  refine J_if_eq (tgt := 11) (pc' := 4) ok (dOf dX10_least 1 rfl) rfl (by decide) ?_ ?_
  · exact Sp_least_j11_J ok v0 v1 h
  · refine J_iload_n (pc' := 5) ok (dOf dX10_least 2 rfl) rfl rfl rfl ?_
    refine J_iconst (v := 1) (pc' := 6) ok (dOf dX10_least 3 rfl) rfl (by decide) ?_
    refine J_icmp_eq (tgt := 11) (pc' := 9) ok (dOf dX10_least 4 rfl) rfl (by decide) ?_ ?_
    · exact Sp_least_j11_J ok v0 v1 h
    · refine J_iconst (v := (-1)) (pc' := 10) ok (dOf dX10_least 5 rfl) rfl (by decide) ?_
      exact J_ireturn ok (dOf dX10_least 6 rfl) rfl (Eq.refl 0) (Nat.le_refl 0)
-- X0_leastOfCase
abbrev kBook_leastOfCase : Cd := (yX0_leastOfCase, cX0_leastOfCase, 7, (some .int), 5, 124)
theorem dX0_leastOfCase : dcheck cX0_leastOfCase [(0, .iconst (-1), 1), (1, .istore_n 3, 1), (2, .iconst 0, 1), (3, .istore 4, 2), (5, .iload 4, 2), (7, .sipush 256, 3), (10, .if_icmp .ge 66, 3), (13, .aload_n 1, 1), (14, .iload 4, 2), (16, .invokevirtual 55, 3), (19, .ifCond .eq 14, 3), (22, .aload_n 0, 1), (23, .aload_n 1, 1), (24, .iload_n 2, 1), (25, .iload 4, 2), (27, .invokevirtual 49, 3), (30, .goto 4, 3), (33, .iconst (-1), 1), (34, .istore 5, 2), (36, .iload 5, 2), (38, .iconst (-1), 1), (39, .if_icmp .eq 31, 3), (42, .aload_n 1, 1), (43, .iload 4, 2), (45, .invokevirtual 39, 3), (48, .iload 5, 2), (50, .iadd, 1), (51, .istore 6, 2), (53, .iload_n 3, 1), (54, .iconst (-1), 1), (55, .if_icmp .ne 8, 3), (58, .iload 6, 2), (60, .goto 9, 3), (63, .iload_n 3, 1), (64, .iload 6, 2), (66, .invokestatic 63, 3), (69, .istore_n 3, 1), (70, .iinc 4 1, 3), (73, .goto (-68), 3), (76, .iload_n 3, 1), (77, .ireturn, 1)] = true := by decide +kernel
theorem cw_Book_leastOfCase {k : Cd} (h1 : kBook_leastOfCase.2.2.2.2.1 + 1 ≤ k.2.2.2.2.1) (h2 : 8 + (kBook_leastOfCase.2.2.1 + 11) + kBook_leastOfCase.2.2.2.2.2 ≤ k.2.2.2.2.2) : Cw k kBook_leastOfCase 2 := ⟨wcode_X0_leastOfCase, wini_SplitProgram_Book, ⟨by decide, by decide, by decide +kernel⟩, h1, h2⟩
def Book_leastOfCase_j70 (v0 : Nat) (v1 : Nat) (v2 : Int32) (v3 : Int32) (v4 : Int32) (v5 : Int32) (h : AHeap) : Option ((Int32 × Int32 × AHeap) ⊕ ((Int32 × Int32 × AHeap))) :=
  some (Sum.inl (v3, v4 + 1, h))
theorem Book_leastOfCase_j70_J {E : JE} {l : Launch} {G : GX} {r : Option Value} {h' : AHeap} (ok : JOK E l G kBook_leastOfCase 0 0 r h') (v0 : Nat) (v1 : Nat) (v2 : Int32) (v3 : Int32) (v4 : Int32) (v5 : Int32) (h : AHeap) {Y : (Int32 × Int32 × AHeap) ⊕ ((Int32 × Int32 × AHeap)) → Prop} (k1 : ∀ s' : Int32 × Int32 × AHeap, Y (.inl s') → JW E kBook_leastOfCase 5 [some (.ref v0), some (.ref v1), some (.int v2), some (.int s'.1), some (.int s'.2.1), none, none] [] s'.2.2 0 0) (kx76 : ∀ q : Int32 × Int32 × AHeap, Y (.inr q) → JW E kBook_leastOfCase 76 [some (.ref v0), some (.ref v1), some (.int v2), some (.int q.1), some (.int q.2.1), none, none] [] q.2.2 0 0) : J E kBook_leastOfCase (Book_leastOfCase_j70 v0 v1 v2 v3 v4 v5 h) Y 70 [some (.ref v0), some (.ref v1), some (.int v2), some (.int v3), some (.int v4), some (.int v5), none] [] h 0 0 := by
  unfold Book_leastOfCase_j70
  refine J_iinc (v := v4 + 1) (ls' := [some (.ref v0), some (.ref v1), some (.int v2), some (.int v3), some (.int (v4 + 1)), some (.int v5), none]) (pc' := 73) ok (dOf dX0_leastOfCase 37 rfl) rfl rfl (by rfl) (Nat.le_of_ble_eq_true rfl) rfl rfl ?_
  refine J_goto (tgt := 5) ok (dOf dX0_leastOfCase 38 rfl) (by decide) ?_
  refine J_weak (ls' := [some (.ref v0), some (.ref v1), some (.int v2), some (.int v3), some (.int (v4 + 1)), none, none]) ⟨rfl, rfl, rfl, rfl, rfl, trivial⟩ ?_
  exact J_fin (k1 (v3, v4 + 1, h))
def Book_leastOfCase_j69 (v0 : Nat) (v1 : Nat) (v2 : Int32) (v3 : Int32) (v4 : Int32) (v5 : Int32) (v6 : Int32) (t0 : Int32) (h : AHeap) : Option ((Int32 × Int32 × AHeap) ⊕ ((Int32 × Int32 × AHeap))) :=
  Book_leastOfCase_j70 v0 v1 v2 t0 v4 v5 h
theorem Book_leastOfCase_j69_J {E : JE} {l : Launch} {G : GX} {r : Option Value} {h' : AHeap} (ok : JOK E l G kBook_leastOfCase 0 0 r h') (v0 : Nat) (v1 : Nat) (v2 : Int32) (v3 : Int32) (v4 : Int32) (v5 : Int32) (v6 : Int32) (t0 : Int32) (h : AHeap) {Y : (Int32 × Int32 × AHeap) ⊕ ((Int32 × Int32 × AHeap)) → Prop} (k1 : ∀ s' : Int32 × Int32 × AHeap, Y (.inl s') → JW E kBook_leastOfCase 5 [some (.ref v0), some (.ref v1), some (.int v2), some (.int s'.1), some (.int s'.2.1), none, none] [] s'.2.2 0 0) (kx76 : ∀ q : Int32 × Int32 × AHeap, Y (.inr q) → JW E kBook_leastOfCase 76 [some (.ref v0), some (.ref v1), some (.int v2), some (.int q.1), some (.int q.2.1), none, none] [] q.2.2 0 0) : J E kBook_leastOfCase (Book_leastOfCase_j69 v0 v1 v2 v3 v4 v5 v6 t0 h) Y 69 [some (.ref v0), some (.ref v1), some (.int v2), some (.int v3), some (.int v4), some (.int v5), some (.int v6)] [.int t0] h 0 0 := by
  unfold Book_leastOfCase_j69
  refine J_istore_n (ls' := [some (.ref v0), some (.ref v1), some (.int v2), some (.int t0), some (.int v4), some (.int v5), some (.int v6)]) (pc' := 70) ok (dOf dX0_leastOfCase 36 rfl) rfl rfl (Nat.le_of_ble_eq_true rfl) rfl rfl ?_
  refine J_weak (ls' := [some (.ref v0), some (.ref v1), some (.int v2), some (.int t0), some (.int v4), some (.int v5), none]) ⟨rfl, rfl, rfl, rfl, rfl, rfl, trivial⟩ ?_
  exact Book_leastOfCase_j70_J ok v0 v1 v2 t0 v4 v5 h k1 kx76
def Book_leastOfCase_j34 (v0 : Nat) (v1 : Nat) (v2 : Int32) (v3 : Int32) (v4 : Int32) (t0 : Int32) (h : AHeap) : Option ((Int32 × Int32 × AHeap) ⊕ ((Int32 × Int32 × AHeap))) :=
  (if t0 = (-1) then Book_leastOfCase_j70 v0 v1 v2 v3 v4 t0 h else (chk h v1 6).bind fun _ => bnd2 (Prog_feesOf v1 v4 h) fun x4 h3 => (if ¬ v3 = (-1) then Book_leastOfCase_j69 v0 v1 v2 v3 v4 t0 (x4 + t0) (if (x4 + t0) < v3 then (x4 + t0) else v3) h3 else Book_leastOfCase_j69 v0 v1 v2 v3 v4 t0 (x4 + t0) (x4 + t0) h3))
theorem Book_leastOfCase_j34_J {E : JE} {l : Launch} {G : GX} {r : Option Value} {h' : AHeap} (ok : JOK E l G kBook_leastOfCase 0 0 r h') (v0 : Nat) (v1 : Nat) (v2 : Int32) (v3 : Int32) (v4 : Int32) (t0 : Int32) (h : AHeap) {Y : (Int32 × Int32 × AHeap) ⊕ ((Int32 × Int32 × AHeap)) → Prop} (k1 : ∀ s' : Int32 × Int32 × AHeap, Y (.inl s') → JW E kBook_leastOfCase 5 [some (.ref v0), some (.ref v1), some (.int v2), some (.int s'.1), some (.int s'.2.1), none, none] [] s'.2.2 0 0) (kx76 : ∀ q : Int32 × Int32 × AHeap, Y (.inr q) → JW E kBook_leastOfCase 76 [some (.ref v0), some (.ref v1), some (.int v2), some (.int q.1), some (.int q.2.1), none, none] [] q.2.2 0 0) : J E kBook_leastOfCase (Book_leastOfCase_j34 v0 v1 v2 v3 v4 t0 h) Y 34 [some (.ref v0), some (.ref v1), some (.int v2), some (.int v3), some (.int v4), none, none] [.int t0] h 0 0 := by
  unfold Book_leastOfCase_j34
  refine J_istore (ls' := [some (.ref v0), some (.ref v1), some (.int v2), some (.int v3), some (.int v4), some (.int t0), none]) (pc' := 36) ok (dOf dX0_leastOfCase 18 rfl) rfl (Nat.le_of_ble_eq_true rfl) rfl rfl ?_
  refine J_iload (pc' := 38) ok (dOf dX0_leastOfCase 19 rfl) rfl rfl ?_
  refine J_iconst (v := (-1)) (pc' := 39) ok (dOf dX0_leastOfCase 20 rfl) rfl (by decide) ?_
  refine J_icmp_eq (tgt := 70) (pc' := 42) ok (dOf dX0_leastOfCase 21 rfl) rfl (by decide) ?_ ?_
  · exact Book_leastOfCase_j70_J ok v0 v1 v2 v3 v4 t0 h k1 kx76
  · refine J_aload_n (pc' := 43) ok (dOf dX0_leastOfCase 22 rfl) rfl rfl rfl ?_
    refine J_iload (pc' := 45) ok (dOf dX0_leastOfCase 23 rfl) rfl rfl ?_
    refine J_callVi (k2 := kProg_feesOf) (ci := 6) (T := TX6) (N := 9) (as := [.int v4]) (pc' := 48) ok (dOf dX0_leastOfCase 24 rfl) rfl (cw_Prog_feesOf (by decide) (by decide)) wml_X0_39 winst_X6_feesOf wsel_X6_feesOf rfl ⟨Nat.le_refl 0, Nat.le_refl 0⟩ (Nat.le_of_ble_eq_true rfl) rfl (fun _ _ hf => t_Prog_feesOf hf) (fun x4 h3 => ?_)
    refine J_iload (pc' := 50) ok (dOf dX0_leastOfCase 25 rfl) rfl rfl ?_
    refine J_iadd (pc' := 51) ok (dOf dX0_leastOfCase 26 rfl) rfl ?_
    refine J_istore (ls' := [some (.ref v0), some (.ref v1), some (.int v2), some (.int v3), some (.int v4), some (.int t0), some (.int (x4 + t0))]) (pc' := 53) ok (dOf dX0_leastOfCase 27 rfl) rfl (Nat.le_of_ble_eq_true rfl) rfl rfl ?_
    refine J_iload_n (pc' := 54) ok (dOf dX0_leastOfCase 28 rfl) rfl rfl rfl ?_
    refine J_iconst (v := (-1)) (pc' := 55) ok (dOf dX0_leastOfCase 29 rfl) rfl (by decide) ?_
    refine J_icmp_ne (tgt := 63) (pc' := 58) ok (dOf dX0_leastOfCase 30 rfl) rfl (by decide) ?_ ?_
    · refine J_iload_n (pc' := 64) ok (dOf dX0_leastOfCase 33 rfl) rfl rfl rfl ?_
      refine J_iload (pc' := 66) ok (dOf dX0_leastOfCase 34 rfl) rfl rfl ?_
      refine J_mmin (pc' := 69) ok (dOf dX0_leastOfCase 35 rfl) rfl wml_X0_63 wstat_J9_min_7cf53 wini_java_lang_Math wcode_J9_min_7cf53 (Nat.le_of_ble_eq_true rfl) (Nat.le_of_ble_eq_true rfl) (Nat.le_refl 0) (Nat.le_refl 0) ?_
      exact Book_leastOfCase_j69_J ok v0 v1 v2 v3 v4 t0 (x4 + t0) (if (x4 + t0) < v3 then (x4 + t0) else v3) h3 k1 kx76
    · refine J_iload (pc' := 60) ok (dOf dX0_leastOfCase 31 rfl) rfl rfl ?_
      refine J_goto (tgt := 69) ok (dOf dX0_leastOfCase 32 rfl) (by decide) ?_
      exact Book_leastOfCase_j69_J ok v0 v1 v2 v3 v4 t0 (x4 + t0) (x4 + t0) h3 k1 kx76
def Book_leastOfCase_b5 (v0 : Nat) (v1 : Nat) (v2 : Int32) (s : Int32 × Int32 × AHeap) : Option ((Int32 × Int32 × AHeap) ⊕ ((Int32 × Int32 × AHeap))) :=
  (if 256 ≤ s.2.1 then some (Sum.inr (s.1, s.2.1, s.2.2)) else (chk s.2.2 v1 6).bind fun _ => bnd2 (Prog_isPlan v1 s.2.1 s.2.2) fun x2 h1 => (if x2 = 0 then Book_leastOfCase_j34 v0 v1 v2 s.1 s.2.1 (-1) h1 else (chk h1 v0 0).bind fun _ => bnd2 (Book_priceAt v0 v1 v2 s.2.1 h1) fun x6 h5 => Book_leastOfCase_j34 v0 v1 v2 s.1 s.2.1 x6 h5))
theorem Book_leastOfCase_b5_J {E : JE} {l : Launch} {G : GX} {r : Option Value} {h' : AHeap} (ok : JOK E l G kBook_leastOfCase 0 0 r h') (v0 : Nat) (v1 : Nat) (v2 : Int32) {Y : (Int32 × Int32 × AHeap) ⊕ ((Int32 × Int32 × AHeap)) → Prop} (k1 : ∀ s' : Int32 × Int32 × AHeap, Y (.inl s') → JW E kBook_leastOfCase 5 [some (.ref v0), some (.ref v1), some (.int v2), some (.int s'.1), some (.int s'.2.1), none, none] [] s'.2.2 0 0) (kx76 : ∀ q : Int32 × Int32 × AHeap, Y (.inr q) → JW E kBook_leastOfCase 76 [some (.ref v0), some (.ref v1), some (.int v2), some (.int q.1), some (.int q.2.1), none, none] [] q.2.2 0 0) (s : Int32 × Int32 × AHeap) : J E kBook_leastOfCase (Book_leastOfCase_b5 v0 v1 v2 s) Y 5 [some (.ref v0), some (.ref v1), some (.int v2), some (.int s.1), some (.int s.2.1), none, none] [] s.2.2 0 0 := by
  unfold Book_leastOfCase_b5
  refine J_iload (pc' := 7) ok (dOf dX0_leastOfCase 4 rfl) rfl rfl ?_
  refine J_sipush (v := 256) (pc' := 10) ok (dOf dX0_leastOfCase 5 rfl) rfl (by decide) ?_
  refine J_icmp_ge (tgt := 76) (pc' := 13) ok (dOf dX0_leastOfCase 6 rfl) rfl (by decide) ?_ ?_
  · exact J_fin (kx76 (s.1, s.2.1, s.2.2))
  · refine J_aload_n (pc' := 14) ok (dOf dX0_leastOfCase 7 rfl) rfl rfl rfl ?_
    refine J_iload (pc' := 16) ok (dOf dX0_leastOfCase 8 rfl) rfl rfl ?_
    refine J_callVi (k2 := kProg_isPlan) (ci := 6) (T := TX6) (N := 9) (as := [.int s.2.1]) (pc' := 19) ok (dOf dX0_leastOfCase 9 rfl) rfl (cw_Prog_isPlan (by decide) (by decide)) wml_X0_55 winst_X6_isPlan wsel_X6_isPlan rfl ⟨Nat.le_refl 0, Nat.le_refl 0⟩ (Nat.le_of_ble_eq_true rfl) rfl (fun _ _ hf => t_Prog_isPlan hf) (fun x2 h1 => ?_)
    refine J_if_eq (tgt := 33) (pc' := 22) ok (dOf dX0_leastOfCase 10 rfl) rfl (by decide) ?_ ?_
    · refine J_iconst (v := (-1)) (pc' := 34) ok (dOf dX0_leastOfCase 17 rfl) rfl (by decide) ?_
      exact Book_leastOfCase_j34_J ok v0 v1 v2 s.1 s.2.1 (-1) h1 k1 kx76
    · refine J_aload_n (pc' := 23) ok (dOf dX0_leastOfCase 11 rfl) rfl rfl rfl ?_
      refine J_aload_n (pc' := 24) ok (dOf dX0_leastOfCase 12 rfl) rfl rfl rfl ?_
      refine J_iload_n (pc' := 25) ok (dOf dX0_leastOfCase 13 rfl) rfl rfl rfl ?_
      refine J_iload (pc' := 27) ok (dOf dX0_leastOfCase 14 rfl) rfl rfl ?_
      refine J_callVi (k2 := kBook_priceAt) (ci := 0) (T := TX0) (N := 2) (as := [.ref v1, .int v2, .int s.2.1]) (pc' := 30) ok (dOf dX0_leastOfCase 15 rfl) rfl (cw_Book_priceAt (by decide) (by decide)) wml_X0_49 winst_X0_priceAt wsel_X0_priceAt rfl ⟨Nat.le_refl 0, Nat.le_refl 0⟩ (Nat.le_of_ble_eq_true rfl) rfl (fun _ _ hf => t_Book_priceAt hf) (fun x6 h5 => ?_)
      refine J_goto (tgt := 34) ok (dOf dX0_leastOfCase 16 rfl) (by decide) ?_
      exact Book_leastOfCase_j34_J ok v0 v1 v2 s.1 s.2.1 x6 h5 k1 kx76
def Book_leastOfCase_j76 (v0 : Nat) (v1 : Nat) (v2 : Int32) (v3 : Int32) (v4 : Int32) (h : AHeap) : Option (Int32 × AHeap) :=
  some (v3, h)
theorem Book_leastOfCase_j76_J {E : JE} {l : Launch} {G : GX} {v : Int32} {h' : AHeap} (ok : JOK E l G kBook_leastOfCase 0 0 (some (.int v)) h') (v0 : Nat) (v1 : Nat) (v2 : Int32) (v3 : Int32) (v4 : Int32) (h : AHeap) : J E kBook_leastOfCase (Book_leastOfCase_j76 v0 v1 v2 v3 v4 h) (fun z => z = (v, h')) 76 [some (.ref v0), some (.ref v1), some (.int v2), some (.int v3), some (.int v4), none, none] [] h 0 0 := by
  unfold Book_leastOfCase_j76
  refine J_iload_n (pc' := 77) ok (dOf dX0_leastOfCase 39 rfl) rfl rfl rfl ?_
  exact J_ireturn ok (dOf dX0_leastOfCase 40 rfl) rfl (Eq.refl 0) (Nat.le_refl 0)
def Book_leastOfCase (v0 : Nat) (v1 : Nat) (v2 : Int32) (h : AHeap) : Option (Int32 × AHeap) :=
  (iter (Book_leastOfCase_b5 v0 v1 v2) Lmax ((-1), 0, h)).bind (fun (q5 : Int32 × Int32 × AHeap) => Book_leastOfCase_j76 v0 v1 v2 q5.1 q5.2.1 q5.2.2)
theorem t_Book_leastOfCase {l : Launch} {G : GX} {v0 : Nat} {v1 : Nat} {v2 : Int32} {h : AHeap} {v : Int32} {h1 : AHeap} (hf : Book_leastOfCase v0 v1 v2 h = some (v, h1)) : CT l G kBook_leastOfCase 0 0 [.ref v0, .ref v1, .int v2] h (some (.int v)) h1 := by
  refine CT_of (ls := [some (.ref v0), some (.ref v1), some (.int v2), none, none, none, none]) (Z := fun z => z = (v, h1)) (by decide +kernel) (Nat.le_of_ble_eq_true rfl) hf rfl ⟨rfl, rfl, rfl, trivial⟩ (fun E ok => ?_)
  unfold Book_leastOfCase
  refine J_iconst (v := (-1)) (pc' := 1) ok (dOf dX0_leastOfCase 0 rfl) rfl (by decide) ?_
  refine J_istore_n (ls' := [some (.ref v0), some (.ref v1), some (.int v2), some (.int (-1)), none, none, none]) (pc' := 2) ok (dOf dX0_leastOfCase 1 rfl) rfl rfl (Nat.le_of_ble_eq_true rfl) rfl rfl ?_
  refine J_iconst (v := 0) (pc' := 3) ok (dOf dX0_leastOfCase 2 rfl) rfl (by decide) ?_
  refine J_istore (ls' := [some (.ref v0), some (.ref v1), some (.int v2), some (.int (-1)), some (.int 0), none, none]) (pc' := 5) ok (dOf dX0_leastOfCase 3 rfl) rfl (Nat.le_of_ble_eq_true rfl) rfl rfl ?_
  refine J_iter (lf := fun z5 => [some (.ref v0), some (.ref v1), some (.int v2), some (.int z5.1), some (.int z5.2.1), none, none]) (sf := fun _ => []) (hf := fun z5 => z5.2.2) (px := (fun (q5 : Int32 × Int32 × AHeap) => 76)) (lx := (fun (q5 : Int32 × Int32 × AHeap) => [some (.ref v0), some (.ref v1), some (.int v2), some (.int q5.1), some (.int q5.2.1), none, none])) (sx := (fun (q5 : Int32 × Int32 × AHeap) => [])) (hx := (fun (q5 : Int32 × Int32 × AHeap) => q5.2.2)) (fun Y2 z5 m1 m2 => Book_leastOfCase_b5_J ok v0 v1 v2 m1 m2 z5) (fun q5 => ?_) Lmax _
  exact Book_leastOfCase_j76_J ok v0 v1 v2 q5.1 q5.2.1 q5.2.2
-- X10_regret
abbrev kSp_regret : Cd := (yX10_regret, cX10_regret, 7, (some .int), 6, 150)
theorem dX10_regret : dcheck cX10_regret [(0, .aload_n 0, 1), (1, .getfield 10, 3), (4, .getfield 113, 3), (7, .astore_n 2, 1), (8, .aload_n 0, 1), (9, .getfield 23, 3), (12, .getfield 126, 3), (15, .astore_n 3, 1), (16, .aload_n 2, 1), (17, .iload_n 1, 1), (18, .invokevirtual 272, 3), (21, .ifCond .eq 13, 3), (24, .aload_n 3, 1), (25, .aload_n 2, 1), (26, .iload_n 1, 1), (27, .invokevirtual 309, 3), (30, .iconst (-1), 1), (31, .if_icmp .ne 5, 3), (34, .iconst (-1), 1), (35, .ireturn, 1), (36, .iconst 0, 1), (37, .istore 4, 2), (39, .iconst 0, 1), (40, .istore 5, 2), (42, .iload 5, 2), (44, .aload_n 2, 1), (45, .getfield 165, 3), (48, .if_icmp .ge 42, 3), (51, .aload_n 2, 1), (52, .iload_n 1, 1), (53, .invokevirtual 315, 3), (56, .aload_n 3, 1), (57, .aload_n 2, 1), (58, .iload 5, 2), (60, .iload_n 1, 1), (61, .invokevirtual 283, 3), (64, .iadd, 1), (65, .istore 6, 2), (67, .iload 4, 2), (69, .iload 6, 2), (71, .aload_n 3, 1), (72, .aload_n 2, 1), (73, .iload 5, 2), (75, .invokevirtual 318, 3), (78, .isub, 1), (79, .invokestatic 321, 3), (82, .istore 4, 2), (84, .iinc 5 1, 3), (87, .goto (-45), 3), (90, .iload 4, 2), (92, .ireturn, 1)] = true := by decide +kernel
theorem cw_Sp_regret {k : Cd} (h1 : kSp_regret.2.2.2.2.1 + 1 ≤ k.2.2.2.2.1) (h2 : 8 + (kSp_regret.2.2.1 + 11) + kSp_regret.2.2.2.2.2 ≤ k.2.2.2.2.2) : Cw k kSp_regret 1 := ⟨wcode_X10_regret, wini_SplitProgram, ⟨by decide, by decide, by decide +kernel⟩, h1, h2⟩
def Sp_regret_j34 (v0 : Nat) (v1 : Int32) (v2 : Nat) (v3 : Nat) (h : AHeap) : Option (Int32 × AHeap) :=
  some ((-1), h)
theorem Sp_regret_j34_J {E : JE} {l : Launch} {G : GX} {v : Int32} {h' : AHeap} (ok : JOK E l G kSp_regret 0 0 (some (.int v)) h') (v0 : Nat) (v1 : Int32) (v2 : Nat) (v3 : Nat) (h : AHeap) : J E kSp_regret (Sp_regret_j34 v0 v1 v2 v3 h) (fun z => z = (v, h')) 34 [some (.ref v0), some (.int v1), some (.ref v2), some (.ref v3), none, none, none] [] h 0 0 := by
  unfold Sp_regret_j34
  refine J_iconst (v := (-1)) (pc' := 35) ok (dOf dX10_regret 18 rfl) rfl (by decide) ?_
  exact J_ireturn ok (dOf dX10_regret 19 rfl) rfl (Eq.refl 0) (Nat.le_refl 0)
def Sp_regret_b42 (v0 : Nat) (v1 : Int32) (v2 : Nat) (v3 : Nat) (s : Int32 × Int32 × AHeap) : Option ((Int32 × Int32 × AHeap) ⊕ ((Int32 × Int32 × AHeap))) :=
  (gfI s.2.2 v2 6 2).bind fun x9 => (if x9 ≤ s.2.1 then some (Sum.inr (s.1, s.2.1, s.2.2)) else (chk s.2.2 v2 6).bind fun _ => bnd2 (Prog_feesOf v2 v1 s.2.2) fun x11 h10 => (chk h10 v3 0).bind fun _ => bnd2 (Book_priceAt v3 v2 s.2.1 v1 h10) fun x13 h12 => (chk h12 v3 0).bind fun _ => bnd2 (Book_leastOfCase v3 v2 s.2.1 h12) fun x15 h14 => some (Sum.inl ((if s.1 < ((x11 + x13) - x15) then ((x11 + x13) - x15) else s.1), s.2.1 + 1, h14)))
theorem Sp_regret_b42_J {E : JE} {l : Launch} {G : GX} {r : Option Value} {h' : AHeap} (ok : JOK E l G kSp_regret 0 0 r h') (v0 : Nat) (v1 : Int32) (v2 : Nat) (v3 : Nat) {Y : (Int32 × Int32 × AHeap) ⊕ ((Int32 × Int32 × AHeap)) → Prop} (k1 : ∀ s' : Int32 × Int32 × AHeap, Y (.inl s') → JW E kSp_regret 42 [some (.ref v0), some (.int v1), some (.ref v2), some (.ref v3), some (.int s'.1), some (.int s'.2.1), none] [] s'.2.2 0 0) (kx90 : ∀ q : Int32 × Int32 × AHeap, Y (.inr q) → JW E kSp_regret 90 [some (.ref v0), some (.int v1), some (.ref v2), some (.ref v3), some (.int q.1), some (.int q.2.1), none] [] q.2.2 0 0) (s : Int32 × Int32 × AHeap) : J E kSp_regret (Sp_regret_b42 v0 v1 v2 v3 s) Y 42 [some (.ref v0), some (.int v1), some (.ref v2), some (.ref v3), some (.int s.1), some (.int s.2.1), none] [] s.2.2 0 0 := by
  unfold Sp_regret_b42
  refine J_iload (pc' := 44) ok (dOf dX10_regret 24 rfl) rfl rfl ?_
  refine J_aload_n (pc' := 45) ok (dOf dX10_regret 25 rfl) rfl rfl rfl ?_
  refine J_getI (ci := 6) (kf := 2) (C := RX6) (T := TX6) (N := 9) (pc' := 48) ok (dOf dX10_regret 26 rfl) rfl (by decide) rfl (by decide) win_6 wfl_X10_165 (fun x9 => ?_)
  refine J_icmp_ge (tgt := 90) (pc' := 51) ok (dOf dX10_regret 27 rfl) rfl (by decide) ?_ ?_
  · exact J_fin (kx90 (s.1, s.2.1, s.2.2))
  · refine J_aload_n (pc' := 52) ok (dOf dX10_regret 28 rfl) rfl rfl rfl ?_
    refine J_iload_n (pc' := 53) ok (dOf dX10_regret 29 rfl) rfl rfl rfl ?_
    refine J_callVi (k2 := kProg_feesOf) (ci := 6) (T := TX6) (N := 9) (as := [.int v1]) (pc' := 56) ok (dOf dX10_regret 30 rfl) rfl (cw_Prog_feesOf (by decide) (by decide)) wml_X10_315 winst_X6_feesOf wsel_X6_feesOf rfl ⟨Nat.le_refl 0, Nat.le_refl 0⟩ (Nat.le_of_ble_eq_true rfl) rfl (fun _ _ hf => t_Prog_feesOf hf) (fun x11 h10 => ?_)
    refine J_aload_n (pc' := 57) ok (dOf dX10_regret 31 rfl) rfl rfl rfl ?_
    refine J_aload_n (pc' := 58) ok (dOf dX10_regret 32 rfl) rfl rfl rfl ?_
    refine J_iload (pc' := 60) ok (dOf dX10_regret 33 rfl) rfl rfl ?_
    refine J_iload_n (pc' := 61) ok (dOf dX10_regret 34 rfl) rfl rfl rfl ?_
    refine J_callVi (k2 := kBook_priceAt) (ci := 0) (T := TX0) (N := 2) (as := [.ref v2, .int s.2.1, .int v1]) (pc' := 64) ok (dOf dX10_regret 35 rfl) rfl (cw_Book_priceAt (by decide) (by decide)) wml_X10_283 winst_X0_priceAt wsel_X0_priceAt rfl ⟨Nat.le_refl 0, Nat.le_refl 0⟩ (Nat.le_of_ble_eq_true rfl) rfl (fun _ _ hf => t_Book_priceAt hf) (fun x13 h12 => ?_)
    refine J_iadd (pc' := 65) ok (dOf dX10_regret 36 rfl) rfl ?_
    refine J_istore (ls' := [some (.ref v0), some (.int v1), some (.ref v2), some (.ref v3), some (.int s.1), some (.int s.2.1), some (.int (x11 + x13))]) (pc' := 67) ok (dOf dX10_regret 37 rfl) rfl (Nat.le_of_ble_eq_true rfl) rfl rfl ?_
    refine J_iload (pc' := 69) ok (dOf dX10_regret 38 rfl) rfl rfl ?_
    refine J_iload (pc' := 71) ok (dOf dX10_regret 39 rfl) rfl rfl ?_
    refine J_aload_n (pc' := 72) ok (dOf dX10_regret 40 rfl) rfl rfl rfl ?_
    refine J_aload_n (pc' := 73) ok (dOf dX10_regret 41 rfl) rfl rfl rfl ?_
    refine J_iload (pc' := 75) ok (dOf dX10_regret 42 rfl) rfl rfl ?_
    refine J_callVi (k2 := kBook_leastOfCase) (ci := 0) (T := TX0) (N := 2) (as := [.ref v2, .int s.2.1]) (pc' := 78) ok (dOf dX10_regret 43 rfl) rfl (cw_Book_leastOfCase (by decide) (by decide)) wml_X10_318 winst_X0_leastOfCase wsel_X0_leastOfCase rfl ⟨Nat.le_refl 0, Nat.le_refl 0⟩ (Nat.le_of_ble_eq_true rfl) rfl (fun _ _ hf => t_Book_leastOfCase hf) (fun x15 h14 => ?_)
    refine J_isub (pc' := 79) ok (dOf dX10_regret 44 rfl) rfl ?_
    refine J_mmax (pc' := 82) ok (dOf dX10_regret 45 rfl) rfl wml_X10_321 wstat_J9_max_7cf53 wini_java_lang_Math wcode_J9_max_7cf53 (Nat.le_of_ble_eq_true rfl) (Nat.le_of_ble_eq_true rfl) (Nat.le_refl 0) (Nat.le_refl 0) ?_
    refine J_istore (ls' := [some (.ref v0), some (.int v1), some (.ref v2), some (.ref v3), some (.int (if s.1 < ((x11 + x13) - x15) then ((x11 + x13) - x15) else s.1)), some (.int s.2.1), some (.int (x11 + x13))]) (pc' := 84) ok (dOf dX10_regret 46 rfl) rfl (Nat.le_of_ble_eq_true rfl) rfl rfl ?_
    refine J_iinc (v := s.2.1 + 1) (ls' := [some (.ref v0), some (.int v1), some (.ref v2), some (.ref v3), some (.int (if s.1 < ((x11 + x13) - x15) then ((x11 + x13) - x15) else s.1)), some (.int (s.2.1 + 1)), some (.int (x11 + x13))]) (pc' := 87) ok (dOf dX10_regret 47 rfl) rfl rfl (by rfl) (Nat.le_of_ble_eq_true rfl) rfl rfl ?_
    refine J_goto (tgt := 42) ok (dOf dX10_regret 48 rfl) (by decide) ?_
    refine J_weak (ls' := [some (.ref v0), some (.int v1), some (.ref v2), some (.ref v3), some (.int (if s.1 < ((x11 + x13) - x15) then ((x11 + x13) - x15) else s.1)), some (.int (s.2.1 + 1)), none]) ⟨rfl, rfl, rfl, rfl, rfl, rfl, trivial⟩ ?_
    exact J_fin (k1 ((if s.1 < ((x11 + x13) - x15) then ((x11 + x13) - x15) else s.1), s.2.1 + 1, h14))
def Sp_regret_j90 (v0 : Nat) (v1 : Int32) (v2 : Nat) (v3 : Nat) (v4 : Int32) (v5 : Int32) (h : AHeap) : Option (Int32 × AHeap) :=
  some (v4, h)
theorem Sp_regret_j90_J {E : JE} {l : Launch} {G : GX} {v : Int32} {h' : AHeap} (ok : JOK E l G kSp_regret 0 0 (some (.int v)) h') (v0 : Nat) (v1 : Int32) (v2 : Nat) (v3 : Nat) (v4 : Int32) (v5 : Int32) (h : AHeap) : J E kSp_regret (Sp_regret_j90 v0 v1 v2 v3 v4 v5 h) (fun z => z = (v, h')) 90 [some (.ref v0), some (.int v1), some (.ref v2), some (.ref v3), some (.int v4), some (.int v5), none] [] h 0 0 := by
  unfold Sp_regret_j90
  refine J_iload (pc' := 92) ok (dOf dX10_regret 49 rfl) rfl rfl ?_
  exact J_ireturn ok (dOf dX10_regret 50 rfl) rfl (Eq.refl 0) (Nat.le_refl 0)
def Sp_regret (v0 : Nat) (v1 : Int32) (h : AHeap) : Option (Int32 × AHeap) :=
  (gfR h v0 10 0).bind fun a1 => (gfR h a1 8 0).bind fun a2 => (gfR h v0 10 2).bind fun a3 => (gfR h a3 3 0).bind fun a4 => (chk h a2 6).bind fun _ => bnd2 (Prog_isPlan a2 v1 h) fun x6 h5 => (if x6 = 0 then Sp_regret_j34 v0 v1 a2 a4 h5 else (chk h5 a4 0).bind fun _ => bnd2 (Book_totalAt a4 a2 v1 h5) fun x8 h7 => (if ¬ x8 = (-1) then (iter (Sp_regret_b42 v0 v1 a2 a4) Lmax (0, 0, h7)).bind (fun (q42 : Int32 × Int32 × AHeap) => Sp_regret_j90 v0 v1 a2 a4 q42.1 q42.2.1 q42.2.2) else Sp_regret_j34 v0 v1 a2 a4 h7))
theorem t_Sp_regret {l : Launch} {G : GX} {v0 : Nat} {v1 : Int32} {h : AHeap} {v : Int32} {h1 : AHeap} (hf : Sp_regret v0 v1 h = some (v, h1)) : CT l G kSp_regret 0 0 [.ref v0, .int v1] h (some (.int v)) h1 := by
  refine CT_of (ls := [some (.ref v0), some (.int v1), none, none, none, none, none]) (Z := fun z => z = (v, h1)) (by decide +kernel) (Nat.le_of_ble_eq_true rfl) hf rfl ⟨rfl, rfl, trivial⟩ (fun E ok => ?_)
  unfold Sp_regret
  refine J_aload_n (pc' := 1) ok (dOf dX10_regret 0 rfl) rfl rfl rfl ?_
  refine J_getR (ci := 10) (kf := 0) (C := RX10) (T := TX10) (N := 14) (pc' := 4) ok (dOf dX10_regret 1 rfl) rfl (by decide) rfl (by decide) win_10 wfl_X10_10 (fun a1 => ?_)
  refine J_getR (ci := 8) (kf := 0) (C := RX8) (T := TX8) (N := 3) (pc' := 7) ok (dOf dX10_regret 2 rfl) rfl (by decide) rfl (by decide) win_8 wfl_X10_113 (fun a2 => ?_)
  refine J_astore_n (ls' := [some (.ref v0), some (.int v1), some (.ref a2), none, none, none, none]) (pc' := 8) ok (dOf dX10_regret 3 rfl) rfl rfl (Nat.le_of_ble_eq_true rfl) rfl rfl ?_
  refine J_aload_n (pc' := 9) ok (dOf dX10_regret 4 rfl) rfl rfl rfl ?_
  refine J_getR (ci := 10) (kf := 2) (C := RX10) (T := TX10) (N := 14) (pc' := 12) ok (dOf dX10_regret 5 rfl) rfl (by decide) rfl (by decide) win_10 wfl_X10_23 (fun a3 => ?_)
  refine J_getR (ci := 3) (kf := 0) (C := RX3) (T := TX3) (N := 12) (pc' := 15) ok (dOf dX10_regret 6 rfl) rfl (by decide) rfl (by decide) win_3 wfl_X10_126 (fun a4 => ?_)
  refine J_astore_n (ls' := [some (.ref v0), some (.int v1), some (.ref a2), some (.ref a4), none, none, none]) (pc' := 16) ok (dOf dX10_regret 7 rfl) rfl rfl (Nat.le_of_ble_eq_true rfl) rfl rfl ?_
  refine J_aload_n (pc' := 17) ok (dOf dX10_regret 8 rfl) rfl rfl rfl ?_
  refine J_iload_n (pc' := 18) ok (dOf dX10_regret 9 rfl) rfl rfl rfl ?_
  refine J_callVi (k2 := kProg_isPlan) (ci := 6) (T := TX6) (N := 9) (as := [.int v1]) (pc' := 21) ok (dOf dX10_regret 10 rfl) rfl (cw_Prog_isPlan (by decide) (by decide)) wml_X10_272 winst_X6_isPlan wsel_X6_isPlan rfl ⟨Nat.le_refl 0, Nat.le_refl 0⟩ (Nat.le_of_ble_eq_true rfl) rfl (fun _ _ hf => t_Prog_isPlan hf) (fun x6 h5 => ?_)
  refine J_if_eq (tgt := 34) (pc' := 24) ok (dOf dX10_regret 11 rfl) rfl (by decide) ?_ ?_
  · exact Sp_regret_j34_J ok v0 v1 a2 a4 h5
  · refine J_aload_n (pc' := 25) ok (dOf dX10_regret 12 rfl) rfl rfl rfl ?_
    refine J_aload_n (pc' := 26) ok (dOf dX10_regret 13 rfl) rfl rfl rfl ?_
    refine J_iload_n (pc' := 27) ok (dOf dX10_regret 14 rfl) rfl rfl rfl ?_
    refine J_callVi (k2 := kBook_totalAt) (ci := 0) (T := TX0) (N := 2) (as := [.ref a2, .int v1]) (pc' := 30) ok (dOf dX10_regret 15 rfl) rfl (cw_Book_totalAt (by decide) (by decide)) wml_X10_309 winst_X0_totalAt wsel_X0_totalAt rfl ⟨Nat.le_refl 0, Nat.le_refl 0⟩ (Nat.le_of_ble_eq_true rfl) rfl (fun _ _ hf => t_Book_totalAt hf) (fun x8 h7 => ?_)
    refine J_iconst (v := (-1)) (pc' := 31) ok (dOf dX10_regret 16 rfl) rfl (by decide) ?_
    refine J_icmp_ne (tgt := 36) (pc' := 34) ok (dOf dX10_regret 17 rfl) rfl (by decide) ?_ ?_
    · refine J_iconst (v := 0) (pc' := 37) ok (dOf dX10_regret 20 rfl) rfl (by decide) ?_
      refine J_istore (ls' := [some (.ref v0), some (.int v1), some (.ref a2), some (.ref a4), some (.int 0), none, none]) (pc' := 39) ok (dOf dX10_regret 21 rfl) rfl (Nat.le_of_ble_eq_true rfl) rfl rfl ?_
      refine J_iconst (v := 0) (pc' := 40) ok (dOf dX10_regret 22 rfl) rfl (by decide) ?_
      refine J_istore (ls' := [some (.ref v0), some (.int v1), some (.ref a2), some (.ref a4), some (.int 0), some (.int 0), none]) (pc' := 42) ok (dOf dX10_regret 23 rfl) rfl (Nat.le_of_ble_eq_true rfl) rfl rfl ?_
      refine J_iter (lf := fun z42 => [some (.ref v0), some (.int v1), some (.ref a2), some (.ref a4), some (.int z42.1), some (.int z42.2.1), none]) (sf := fun _ => []) (hf := fun z42 => z42.2.2) (px := (fun (q42 : Int32 × Int32 × AHeap) => 90)) (lx := (fun (q42 : Int32 × Int32 × AHeap) => [some (.ref v0), some (.int v1), some (.ref a2), some (.ref a4), some (.int q42.1), some (.int q42.2.1), none])) (sx := (fun (q42 : Int32 × Int32 × AHeap) => [])) (hx := (fun (q42 : Int32 × Int32 × AHeap) => q42.2.2)) (fun Y2 z42 m1 m2 => Sp_regret_b42_J ok v0 v1 a2 a4 m1 m2 z42) (fun q42 => ?_) Lmax _
      exact Sp_regret_j90_J ok v0 v1 a2 a4 q42.1 q42.2.1 q42.2.2
    · exact Sp_regret_j34_J ok v0 v1 a2 a4 h7
-- X6_sumOfWeights
abbrev kProg_sumOfWeights : Cd := (yX6_sumOfWeights, cX6_sumOfWeights, 3, (some .int), 0, 0)
theorem dX6_sumOfWeights : dcheck cX6_sumOfWeights [(0, .iconst 0, 1), (1, .istore_n 1, 1), (2, .iconst 0, 1), (3, .istore_n 2, 1), (4, .iload_n 2, 1), (5, .aload_n 0, 1), (6, .getfield 43, 3), (9, .if_icmp .ge 18, 3), (12, .iload_n 1, 1), (13, .aload_n 0, 1), (14, .getfield 24, 3), (17, .iload_n 2, 1), (18, .iaload, 1), (19, .iadd, 1), (20, .istore_n 1, 1), (21, .iinc 2 1, 3), (24, .goto (-20), 3), (27, .iload_n 1, 1), (28, .ireturn, 1)] = true := by decide +kernel
theorem cw_Prog_sumOfWeights {k : Cd} (h1 : kProg_sumOfWeights.2.2.2.2.1 + 1 ≤ k.2.2.2.2.1) (h2 : 8 + (kProg_sumOfWeights.2.2.1 + 11) + kProg_sumOfWeights.2.2.2.2.2 ≤ k.2.2.2.2.2) : Cw k kProg_sumOfWeights 0 := ⟨wcode_X6_sumOfWeights, wini_SplitProgram_Program, ⟨by decide, by decide, by decide +kernel⟩, h1, h2⟩
def Prog_sumOfWeights_b4 (v0 : Nat) (h : AHeap) (s : Int32 × Int32) : Option ((Int32 × Int32) ⊕ ((Int32 × Int32))) :=
  (gfI h v0 6 2).bind fun x1 => (if x1 ≤ s.2 then some (Sum.inr (s.1, s.2)) else (gfR h v0 6 7).bind fun a2 => (ald 0 h a2 s.2).bind fun x3 => some (Sum.inl (s.1 + x3, s.2 + 1)))
theorem Prog_sumOfWeights_b4_J {E : JE} {l : Launch} {G : GX} {r : Option Value} {h' : AHeap} (ok : JOK E l G kProg_sumOfWeights 0 0 r h') (v0 : Nat) (h : AHeap) {Y : (Int32 × Int32) ⊕ ((Int32 × Int32)) → Prop} (k1 : ∀ s' : Int32 × Int32, Y (.inl s') → JW E kProg_sumOfWeights 4 [some (.ref v0), some (.int s'.1), some (.int s'.2)] [] h 0 0) (kx27 : ∀ q : Int32 × Int32, Y (.inr q) → JW E kProg_sumOfWeights 27 [some (.ref v0), some (.int q.1), some (.int q.2)] [] h 0 0) (s : Int32 × Int32) : J E kProg_sumOfWeights (Prog_sumOfWeights_b4 v0 h s) Y 4 [some (.ref v0), some (.int s.1), some (.int s.2)] [] h 0 0 := by
  unfold Prog_sumOfWeights_b4
  refine J_iload_n (pc' := 5) ok (dOf dX6_sumOfWeights 4 rfl) rfl rfl rfl ?_
  refine J_aload_n (pc' := 6) ok (dOf dX6_sumOfWeights 5 rfl) rfl rfl rfl ?_
  refine J_getI (ci := 6) (kf := 2) (C := RX6) (T := TX6) (N := 9) (pc' := 9) ok (dOf dX6_sumOfWeights 6 rfl) rfl (by decide) rfl (by decide) win_6 wfl_X6_43 (fun x1 => ?_)
  refine J_icmp_ge (tgt := 27) (pc' := 12) ok (dOf dX6_sumOfWeights 7 rfl) rfl (by decide) ?_ ?_
  · exact J_fin (kx27 (s.1, s.2))
  · refine J_iload_n (pc' := 13) ok (dOf dX6_sumOfWeights 8 rfl) rfl rfl rfl ?_
    refine J_aload_n (pc' := 14) ok (dOf dX6_sumOfWeights 9 rfl) rfl rfl rfl ?_
    refine J_getR (ci := 6) (kf := 7) (C := RX6) (T := TX6) (N := 9) (pc' := 17) ok (dOf dX6_sumOfWeights 10 rfl) rfl (by decide) rfl (by decide) win_6 wfl_X6_24 (fun a2 => ?_)
    refine J_iload_n (pc' := 18) ok (dOf dX6_sumOfWeights 11 rfl) rfl rfl rfl ?_
    refine J_iald (pc' := 19) ok (dOf dX6_sumOfWeights 12 rfl) rfl (fun x3 => ?_)
    refine J_iadd (pc' := 20) ok (dOf dX6_sumOfWeights 13 rfl) rfl ?_
    refine J_istore_n (ls' := [some (.ref v0), some (.int (s.1 + x3)), some (.int s.2)]) (pc' := 21) ok (dOf dX6_sumOfWeights 14 rfl) rfl rfl (Nat.le_of_ble_eq_true rfl) rfl rfl ?_
    refine J_iinc (v := s.2 + 1) (ls' := [some (.ref v0), some (.int (s.1 + x3)), some (.int (s.2 + 1))]) (pc' := 24) ok (dOf dX6_sumOfWeights 15 rfl) rfl rfl (by rfl) (Nat.le_of_ble_eq_true rfl) rfl rfl ?_
    refine J_goto (tgt := 4) ok (dOf dX6_sumOfWeights 16 rfl) (by decide) ?_
    exact J_fin (k1 (s.1 + x3, s.2 + 1))
def Prog_sumOfWeights_j27 (v0 : Nat) (v1 : Int32) (v2 : Int32) (h : AHeap) : Option (Int32 × AHeap) :=
  some (v1, h)
theorem Prog_sumOfWeights_j27_J {E : JE} {l : Launch} {G : GX} {v : Int32} {h' : AHeap} (ok : JOK E l G kProg_sumOfWeights 0 0 (some (.int v)) h') (v0 : Nat) (v1 : Int32) (v2 : Int32) (h : AHeap) : J E kProg_sumOfWeights (Prog_sumOfWeights_j27 v0 v1 v2 h) (fun z => z = (v, h')) 27 [some (.ref v0), some (.int v1), some (.int v2)] [] h 0 0 := by
  unfold Prog_sumOfWeights_j27
  refine J_iload_n (pc' := 28) ok (dOf dX6_sumOfWeights 17 rfl) rfl rfl rfl ?_
  exact J_ireturn ok (dOf dX6_sumOfWeights 18 rfl) rfl (Eq.refl 0) (Nat.le_refl 0)
def Prog_sumOfWeights (v0 : Nat) (h : AHeap) : Option (Int32 × AHeap) :=
  (iter (Prog_sumOfWeights_b4 v0 h) Lmax (0, 0)).bind (fun (q4 : Int32 × Int32) => Prog_sumOfWeights_j27 v0 q4.1 q4.2 h)
theorem t_Prog_sumOfWeights {l : Launch} {G : GX} {v0 : Nat} {h : AHeap} {v : Int32} {h1 : AHeap} (hf : Prog_sumOfWeights v0 h = some (v, h1)) : CT l G kProg_sumOfWeights 0 0 [.ref v0] h (some (.int v)) h1 := by
  refine CT_of (ls := [some (.ref v0), none, none]) (Z := fun z => z = (v, h1)) (by decide +kernel) (Nat.le_of_ble_eq_true rfl) hf rfl ⟨rfl, trivial⟩ (fun E ok => ?_)
  unfold Prog_sumOfWeights
  refine J_iconst (v := 0) (pc' := 1) ok (dOf dX6_sumOfWeights 0 rfl) rfl (by decide) ?_
  refine J_istore_n (ls' := [some (.ref v0), some (.int 0), none]) (pc' := 2) ok (dOf dX6_sumOfWeights 1 rfl) rfl rfl (Nat.le_of_ble_eq_true rfl) rfl rfl ?_
  refine J_iconst (v := 0) (pc' := 3) ok (dOf dX6_sumOfWeights 2 rfl) rfl (by decide) ?_
  refine J_istore_n (ls' := [some (.ref v0), some (.int 0), some (.int 0)]) (pc' := 4) ok (dOf dX6_sumOfWeights 3 rfl) rfl rfl (Nat.le_of_ble_eq_true rfl) rfl rfl ?_
  refine J_iter (lf := fun z4 => [some (.ref v0), some (.int z4.1), some (.int z4.2)]) (sf := fun _ => []) (hf := fun z4 => h) (px := (fun (q4 : Int32 × Int32) => 27)) (lx := (fun (q4 : Int32 × Int32) => [some (.ref v0), some (.int q4.1), some (.int q4.2)])) (sx := (fun (q4 : Int32 × Int32) => [])) (hx := (fun (q4 : Int32 × Int32) => h)) (fun Y2 z4 m1 m2 => Prog_sumOfWeights_b4_J ok v0 h m1 m2 z4) (fun q4 => ?_) Lmax _
  exact Prog_sumOfWeights_j27_J ok v0 q4.1 q4.2 h
-- X10_bitsOfDouble
abbrev kSp_bitsOfDouble : Cd := (yX10_bitsOfDouble, cX10_bitsOfDouble, 8, (some .long), 0, 0)
theorem dX10_bitsOfDouble : dcheck cX10_bitsOfDouble [(0, .dload_n 0, 1), (1, .dconst 0, 1), (2, .dcmp .l, 1), (3, .ifCond .gt 5, 3), (6, .lconst 0, 1), (7, .lreturn, 1), (8, .dload_n 0, 1), (9, .dstore_n 2, 1), (10, .ldc2_w 359, 3), (13, .lstore 4, 2), (15, .iconst 0, 1), (16, .istore 6, 2), (18, .iload 6, 2), (20, .sipush 1024, 3), (23, .if_icmp .ge 29, 3), (26, .dload_n 2, 1), (27, .ldc2_w 361, 3), (30, .dcmp .l, 1), (31, .ifCond .lt 21, 3), (34, .dload_n 2, 1), (35, .ldc2_w 361, 3), (38, .ddiv, 1), (39, .dstore_n 2, 1), (40, .lload 4, 2), (42, .lconst 1, 1), (43, .ladd, 1), (44, .lstore 4, 2), (46, .iinc 6 1, 3), (49, .goto (-31), 3), (52, .iconst 0, 1), (53, .istore 6, 2), (55, .iload 6, 2), (57, .sipush 1022, 3), (60, .if_icmp .ge 27, 3), (63, .dload_n 2, 1), (64, .dconst 1, 1), (65, .dcmp .g, 1), (66, .ifCond .ge 21, 3), (69, .dload_n 2, 1), (70, .ldc2_w 361, 3), (73, .dmul, 1), (74, .dstore_n 2, 1), (75, .lload 4, 2), (77, .lconst 1, 1), (78, .lsub, 1), (79, .lstore 4, 2), (81, .iinc 6 1, 3), (84, .goto (-29), 3), (87, .dload_n 2, 1), (88, .ldc2_w 363, 3), (91, .dmul, 1), (92, .d2l, 1), (93, .lstore 6, 2), (95, .lload 4, 2), (97, .bipush 52, 2), (99, .lshl, 1), (100, .lload 6, 2), (102, .ldc2_w 365, 3), (105, .land, 1), (106, .lor, 1), (107, .lreturn, 1)] = true := by decide +kernel
theorem cw_Sp_bitsOfDouble {k : Cd} (h1 : kSp_bitsOfDouble.2.2.2.2.1 + 1 ≤ k.2.2.2.2.1) (h2 : 8 + (kSp_bitsOfDouble.2.2.1 + 11) + kSp_bitsOfDouble.2.2.2.2.2 ≤ k.2.2.2.2.2) : Cw k kSp_bitsOfDouble 1 := ⟨wcode_X10_bitsOfDouble, wini_SplitProgram, ⟨by decide, by decide, by decide +kernel⟩, h1, h2⟩
def Sp_bitsOfDouble_b18 (v0 : UInt64) (h : AHeap) (s : UInt64 × Int64 × Int32) : Option ((UInt64 × Int64 × Int32) ⊕ ((UInt64 × Int64 × Int32))) :=
  (if 1024 ≤ s.2.2 then some (Sum.inr (s.1, s.2.1, s.2.2)) else (if (Op.cmpValue (FP.dcmp s.1 4611686018427387904) .l) < 0 then some (Sum.inr (s.1, s.2.1, s.2.2)) else (n64 (FP.ddiv s.1 4611686018427387904)).bind fun x1 => some (Sum.inl (x1, s.2.1 + 1, s.2.2 + 1))))
theorem Sp_bitsOfDouble_b18_J {E : JE} {l : Launch} {G : GX} {r : Option Value} {h' : AHeap} (ok : JOK E l G kSp_bitsOfDouble 0 0 r h') (v0 : UInt64) (h : AHeap) {Y : (UInt64 × Int64 × Int32) ⊕ ((UInt64 × Int64 × Int32)) → Prop} (k1 : ∀ s' : UInt64 × Int64 × Int32, Y (.inl s') → JW E kSp_bitsOfDouble 18 [some (.double v0), none, some (.double s'.1), none, some (.long s'.2.1), none, some (.int s'.2.2), none] [] h 0 0) (kx52 : ∀ q : UInt64 × Int64 × Int32, Y (.inr q) → JW E kSp_bitsOfDouble 52 [some (.double v0), none, some (.double q.1), none, some (.long q.2.1), none, some (.int q.2.2), none] [] h 0 0) (s : UInt64 × Int64 × Int32) : J E kSp_bitsOfDouble (Sp_bitsOfDouble_b18 v0 h s) Y 18 [some (.double v0), none, some (.double s.1), none, some (.long s.2.1), none, some (.int s.2.2), none] [] h 0 0 := by
  unfold Sp_bitsOfDouble_b18
  refine J_iload (pc' := 20) ok (dOf dX10_bitsOfDouble 12 rfl) rfl rfl ?_
  refine J_sipush (v := 1024) (pc' := 23) ok (dOf dX10_bitsOfDouble 13 rfl) rfl (by decide) ?_
  refine J_icmp_ge (tgt := 52) (pc' := 26) ok (dOf dX10_bitsOfDouble 14 rfl) rfl (by decide) ?_ ?_
  · exact J_fin (kx52 (s.1, s.2.1, s.2.2))
  · refine J_dload_n (pc' := 27) ok (dOf dX10_bitsOfDouble 15 rfl) rfl rfl rfl ?_
    refine J_ldc2d (v := 4611686018427387904) (pc' := 30) ok (dOf dX10_bitsOfDouble 16 rfl) rfl wcond_X10_361 ?_
    refine J_dcmp (pc' := 31) ok (dOf dX10_bitsOfDouble 17 rfl) rfl ?_
    refine J_if_lt (tgt := 52) (pc' := 34) ok (dOf dX10_bitsOfDouble 18 rfl) rfl (by decide) ?_ ?_
    · exact J_fin (kx52 (s.1, s.2.1, s.2.2))
    · refine J_dload_n (pc' := 35) ok (dOf dX10_bitsOfDouble 19 rfl) rfl rfl rfl ?_
      refine J_ldc2d (v := 4611686018427387904) (pc' := 38) ok (dOf dX10_bitsOfDouble 20 rfl) rfl wcond_X10_361 ?_
      refine J_ddiv (pc' := 39) ok (dOf dX10_bitsOfDouble 21 rfl) rfl ?_
      refine J_dstore_n (ls' := [some (.double v0), none, some (.double (FP.ddiv s.1 4611686018427387904)), none, some (.long s.2.1), none, some (.int s.2.2), none]) (pc' := 40) ok (dOf dX10_bitsOfDouble 22 rfl) rfl rfl (Nat.le_of_ble_eq_true rfl) rfl rfl ?_
      refine J_lload (pc' := 42) ok (dOf dX10_bitsOfDouble 23 rfl) rfl rfl ?_
      refine J_lconst (v := 1) (pc' := 43) ok (dOf dX10_bitsOfDouble 24 rfl) rfl (by decide) ?_
      refine J_ladd (pc' := 44) ok (dOf dX10_bitsOfDouble 25 rfl) rfl ?_
      refine J_lstore (ls' := [some (.double v0), none, some (.double (FP.ddiv s.1 4611686018427387904)), none, some (.long (s.2.1 + 1)), none, some (.int s.2.2), none]) (pc' := 46) ok (dOf dX10_bitsOfDouble 26 rfl) rfl (Nat.le_of_ble_eq_true rfl) rfl rfl ?_
      refine J_iinc (v := s.2.2 + 1) (ls' := [some (.double v0), none, some (.double (FP.ddiv s.1 4611686018427387904)), none, some (.long (s.2.1 + 1)), none, some (.int (s.2.2 + 1)), none]) (pc' := 49) ok (dOf dX10_bitsOfDouble 27 rfl) rfl rfl (by rfl) (Nat.le_of_ble_eq_true rfl) rfl rfl ?_
      refine J_goto (tgt := 18) ok (dOf dX10_bitsOfDouble 28 rfl) (by decide) ?_
      exact J_fin (k1 ((FP.ddiv s.1 4611686018427387904), s.2.1 + 1, s.2.2 + 1))
def Sp_bitsOfDouble_b55 (v0 : UInt64) (h : AHeap) (s : UInt64 × Int64 × Int32) : Option ((UInt64 × Int64 × Int32) ⊕ ((UInt64 × Int64 × Int32))) :=
  (if 1022 ≤ s.2.2 then some (Sum.inr (s.1, s.2.1, s.2.2)) else (if 0 ≤ (Op.cmpValue (FP.dcmp s.1 FP.dconst1) .g) then some (Sum.inr (s.1, s.2.1, s.2.2)) else (n64 (FP.dmul s.1 4611686018427387904)).bind fun x2 => some (Sum.inl (x2, s.2.1 - 1, s.2.2 + 1))))
theorem Sp_bitsOfDouble_b55_J {E : JE} {l : Launch} {G : GX} {r : Option Value} {h' : AHeap} (ok : JOK E l G kSp_bitsOfDouble 0 0 r h') (v0 : UInt64) (h : AHeap) {Y : (UInt64 × Int64 × Int32) ⊕ ((UInt64 × Int64 × Int32)) → Prop} (k1 : ∀ s' : UInt64 × Int64 × Int32, Y (.inl s') → JW E kSp_bitsOfDouble 55 [some (.double v0), none, some (.double s'.1), none, some (.long s'.2.1), none, some (.int s'.2.2), none] [] h 0 0) (kx87 : ∀ q : UInt64 × Int64 × Int32, Y (.inr q) → JW E kSp_bitsOfDouble 87 [some (.double v0), none, some (.double q.1), none, some (.long q.2.1), none, some (.int q.2.2), none] [] h 0 0) (s : UInt64 × Int64 × Int32) : J E kSp_bitsOfDouble (Sp_bitsOfDouble_b55 v0 h s) Y 55 [some (.double v0), none, some (.double s.1), none, some (.long s.2.1), none, some (.int s.2.2), none] [] h 0 0 := by
  unfold Sp_bitsOfDouble_b55
  refine J_iload (pc' := 57) ok (dOf dX10_bitsOfDouble 31 rfl) rfl rfl ?_
  refine J_sipush (v := 1022) (pc' := 60) ok (dOf dX10_bitsOfDouble 32 rfl) rfl (by decide) ?_
  refine J_icmp_ge (tgt := 87) (pc' := 63) ok (dOf dX10_bitsOfDouble 33 rfl) rfl (by decide) ?_ ?_
  · exact J_fin (kx87 (s.1, s.2.1, s.2.2))
  · refine J_dload_n (pc' := 64) ok (dOf dX10_bitsOfDouble 34 rfl) rfl rfl rfl ?_
    refine J_dconst1 (pc' := 65) ok (dOf dX10_bitsOfDouble 35 rfl) rfl ?_
    refine J_dcmp (pc' := 66) ok (dOf dX10_bitsOfDouble 36 rfl) rfl ?_
    refine J_if_ge (tgt := 87) (pc' := 69) ok (dOf dX10_bitsOfDouble 37 rfl) rfl (by decide) ?_ ?_
    · exact J_fin (kx87 (s.1, s.2.1, s.2.2))
    · refine J_dload_n (pc' := 70) ok (dOf dX10_bitsOfDouble 38 rfl) rfl rfl rfl ?_
      refine J_ldc2d (v := 4611686018427387904) (pc' := 73) ok (dOf dX10_bitsOfDouble 39 rfl) rfl wcond_X10_361 ?_
      refine J_dmul (pc' := 74) ok (dOf dX10_bitsOfDouble 40 rfl) rfl ?_
      refine J_dstore_n (ls' := [some (.double v0), none, some (.double (FP.dmul s.1 4611686018427387904)), none, some (.long s.2.1), none, some (.int s.2.2), none]) (pc' := 75) ok (dOf dX10_bitsOfDouble 41 rfl) rfl rfl (Nat.le_of_ble_eq_true rfl) rfl rfl ?_
      refine J_lload (pc' := 77) ok (dOf dX10_bitsOfDouble 42 rfl) rfl rfl ?_
      refine J_lconst (v := 1) (pc' := 78) ok (dOf dX10_bitsOfDouble 43 rfl) rfl (by decide) ?_
      refine J_lsub (pc' := 79) ok (dOf dX10_bitsOfDouble 44 rfl) rfl ?_
      refine J_lstore (ls' := [some (.double v0), none, some (.double (FP.dmul s.1 4611686018427387904)), none, some (.long (s.2.1 - 1)), none, some (.int s.2.2), none]) (pc' := 81) ok (dOf dX10_bitsOfDouble 45 rfl) rfl (Nat.le_of_ble_eq_true rfl) rfl rfl ?_
      refine J_iinc (v := s.2.2 + 1) (ls' := [some (.double v0), none, some (.double (FP.dmul s.1 4611686018427387904)), none, some (.long (s.2.1 - 1)), none, some (.int (s.2.2 + 1)), none]) (pc' := 84) ok (dOf dX10_bitsOfDouble 46 rfl) rfl rfl (by rfl) (Nat.le_of_ble_eq_true rfl) rfl rfl ?_
      refine J_goto (tgt := 55) ok (dOf dX10_bitsOfDouble 47 rfl) (by decide) ?_
      exact J_fin (k1 ((FP.dmul s.1 4611686018427387904), s.2.1 - 1, s.2.2 + 1))
def Sp_bitsOfDouble_j87 (v0 : UInt64) (v2 : UInt64) (v4 : Int64) (v6 : Int32) (h : AHeap) : Option (Int64 × AHeap) :=
  (n64 (FP.dmul v2 4841369599423283200)).bind fun x3 => some ((v4 <<< ((52 : Int32).toInt64 &&& 63)) ||| ((FP.d2l x3) &&& 4503599627370495), h)
theorem Sp_bitsOfDouble_j87_J {E : JE} {l : Launch} {G : GX} {v : Int64} {h' : AHeap} (ok : JOK E l G kSp_bitsOfDouble 0 0 (some (.long v)) h') (v0 : UInt64) (v2 : UInt64) (v4 : Int64) (v6 : Int32) (h : AHeap) : J E kSp_bitsOfDouble (Sp_bitsOfDouble_j87 v0 v2 v4 v6 h) (fun z => z = (v, h')) 87 [some (.double v0), none, some (.double v2), none, some (.long v4), none, some (.int v6), none] [] h 0 0 := by
  unfold Sp_bitsOfDouble_j87
  refine J_dload_n (pc' := 88) ok (dOf dX10_bitsOfDouble 48 rfl) rfl rfl rfl ?_
  refine J_ldc2d (v := 4841369599423283200) (pc' := 91) ok (dOf dX10_bitsOfDouble 49 rfl) rfl wcond_X10_363 ?_
  refine J_dmul (pc' := 92) ok (dOf dX10_bitsOfDouble 50 rfl) rfl ?_
  refine J_d2l (pc' := 93) ok (dOf dX10_bitsOfDouble 51 rfl) rfl ?_
  refine J_lstore (ls' := [some (.double v0), none, some (.double v2), none, some (.long v4), none, some (.long (FP.d2l (FP.dmul v2 4841369599423283200))), none]) (pc' := 95) ok (dOf dX10_bitsOfDouble 52 rfl) rfl (Nat.le_of_ble_eq_true rfl) rfl rfl ?_
  refine J_lload (pc' := 97) ok (dOf dX10_bitsOfDouble 53 rfl) rfl rfl ?_
  refine J_bipush (v := 52) (pc' := 99) ok (dOf dX10_bitsOfDouble 54 rfl) rfl (by decide) ?_
  refine J_lshl (pc' := 100) ok (dOf dX10_bitsOfDouble 55 rfl) rfl ?_
  refine J_lload (pc' := 102) ok (dOf dX10_bitsOfDouble 56 rfl) rfl rfl ?_
  refine J_ldc2l (v := 4503599627370495) (pc' := 105) ok (dOf dX10_bitsOfDouble 57 rfl) rfl wconl_X10_365 ?_
  refine J_land (pc' := 106) ok (dOf dX10_bitsOfDouble 58 rfl) rfl ?_
  refine J_lor (pc' := 107) ok (dOf dX10_bitsOfDouble 59 rfl) rfl ?_
  exact J_lreturn ok (dOf dX10_bitsOfDouble 60 rfl) rfl (Eq.refl 0) (Nat.le_refl 0)
def Sp_bitsOfDouble_j52 (v0 : UInt64) (v2 : UInt64) (v4 : Int64) (v6 : Int32) (h : AHeap) : Option (Int64 × AHeap) :=
  (iter (Sp_bitsOfDouble_b55 v0 h) Lmax (v2, v4, 0)).bind (fun (q55 : UInt64 × Int64 × Int32) => Sp_bitsOfDouble_j87 v0 q55.1 q55.2.1 q55.2.2 h)
theorem Sp_bitsOfDouble_j52_J {E : JE} {l : Launch} {G : GX} {v : Int64} {h' : AHeap} (ok : JOK E l G kSp_bitsOfDouble 0 0 (some (.long v)) h') (v0 : UInt64) (v2 : UInt64) (v4 : Int64) (v6 : Int32) (h : AHeap) : J E kSp_bitsOfDouble (Sp_bitsOfDouble_j52 v0 v2 v4 v6 h) (fun z => z = (v, h')) 52 [some (.double v0), none, some (.double v2), none, some (.long v4), none, some (.int v6), none] [] h 0 0 := by
  unfold Sp_bitsOfDouble_j52
  refine J_iconst (v := 0) (pc' := 53) ok (dOf dX10_bitsOfDouble 29 rfl) rfl (by decide) ?_
  refine J_istore (ls' := [some (.double v0), none, some (.double v2), none, some (.long v4), none, some (.int 0), none]) (pc' := 55) ok (dOf dX10_bitsOfDouble 30 rfl) rfl (Nat.le_of_ble_eq_true rfl) rfl rfl ?_
  refine J_iter (lf := fun z55 => [some (.double v0), none, some (.double z55.1), none, some (.long z55.2.1), none, some (.int z55.2.2), none]) (sf := fun _ => []) (hf := fun z55 => h) (px := (fun (q55 : UInt64 × Int64 × Int32) => 87)) (lx := (fun (q55 : UInt64 × Int64 × Int32) => [some (.double v0), none, some (.double q55.1), none, some (.long q55.2.1), none, some (.int q55.2.2), none])) (sx := (fun (q55 : UInt64 × Int64 × Int32) => [])) (hx := (fun (q55 : UInt64 × Int64 × Int32) => h)) (fun Y2 z55 m1 m2 => Sp_bitsOfDouble_b55_J ok v0 h m1 m2 z55) (fun q55 => ?_) Lmax _
  exact Sp_bitsOfDouble_j87_J ok v0 q55.1 q55.2.1 q55.2.2 h
def Sp_bitsOfDouble (v0 : UInt64) (h : AHeap) : Option (Int64 × AHeap) :=
  (if 0 < (Op.cmpValue (FP.dcmp v0 FP.dconst0) .l) then (iter (Sp_bitsOfDouble_b18 v0 h) Lmax (v0, 1023, 0)).bind (fun (q18 : UInt64 × Int64 × Int32) => Sp_bitsOfDouble_j52 v0 q18.1 q18.2.1 q18.2.2 h) else some (0, h))
theorem t_Sp_bitsOfDouble {l : Launch} {G : GX} {v0 : UInt64} {h : AHeap} {v : Int64} {h1 : AHeap} (hf : Sp_bitsOfDouble v0 h = some (v, h1)) : CT l G kSp_bitsOfDouble 0 0 [.double v0] h (some (.long v)) h1 := by
  refine CT_of (ls := [some (.double v0), none, none, none, none, none, none, none]) (Z := fun z => z = (v, h1)) (by decide +kernel) (Nat.le_of_ble_eq_true rfl) hf rfl ⟨rfl, trivial⟩ (fun E ok => ?_)
  unfold Sp_bitsOfDouble
  refine J_dload_n (pc' := 1) ok (dOf dX10_bitsOfDouble 0 rfl) rfl rfl rfl ?_
  refine J_dconst0 (pc' := 2) ok (dOf dX10_bitsOfDouble 1 rfl) rfl ?_
  refine J_dcmp (pc' := 3) ok (dOf dX10_bitsOfDouble 2 rfl) rfl ?_
  refine J_if_gt (tgt := 8) (pc' := 6) ok (dOf dX10_bitsOfDouble 3 rfl) rfl (by decide) ?_ ?_
  · refine J_dload_n (pc' := 9) ok (dOf dX10_bitsOfDouble 6 rfl) rfl rfl rfl ?_
    refine J_dstore_n (ls' := [some (.double v0), none, some (.double v0), none, none, none, none, none]) (pc' := 10) ok (dOf dX10_bitsOfDouble 7 rfl) rfl rfl (Nat.le_of_ble_eq_true rfl) rfl rfl ?_
    refine J_ldc2l (v := 1023) (pc' := 13) ok (dOf dX10_bitsOfDouble 8 rfl) rfl wconl_X10_359 ?_
    refine J_lstore (ls' := [some (.double v0), none, some (.double v0), none, some (.long 1023), none, none, none]) (pc' := 15) ok (dOf dX10_bitsOfDouble 9 rfl) rfl (Nat.le_of_ble_eq_true rfl) rfl rfl ?_
    refine J_iconst (v := 0) (pc' := 16) ok (dOf dX10_bitsOfDouble 10 rfl) rfl (by decide) ?_
    refine J_istore (ls' := [some (.double v0), none, some (.double v0), none, some (.long 1023), none, some (.int 0), none]) (pc' := 18) ok (dOf dX10_bitsOfDouble 11 rfl) rfl (Nat.le_of_ble_eq_true rfl) rfl rfl ?_
    refine J_iter (lf := fun z18 => [some (.double v0), none, some (.double z18.1), none, some (.long z18.2.1), none, some (.int z18.2.2), none]) (sf := fun _ => []) (hf := fun z18 => h) (px := (fun (q18 : UInt64 × Int64 × Int32) => 52)) (lx := (fun (q18 : UInt64 × Int64 × Int32) => [some (.double v0), none, some (.double q18.1), none, some (.long q18.2.1), none, some (.int q18.2.2), none])) (sx := (fun (q18 : UInt64 × Int64 × Int32) => [])) (hx := (fun (q18 : UInt64 × Int64 × Int32) => h)) (fun Y2 z18 m1 m2 => Sp_bitsOfDouble_b18_J ok v0 h m1 m2 z18) (fun q18 => ?_) Lmax _
    exact Sp_bitsOfDouble_j52_J ok v0 q18.1 q18.2.1 q18.2.2 h
  · refine J_lconst (v := 0) (pc' := 7) ok (dOf dX10_bitsOfDouble 4 rfl) rfl (by decide) ?_
    exact J_lreturn ok (dOf dX10_bitsOfDouble 5 rfl) rfl (Eq.refl 0) (Nat.le_refl 0)
-- X10_mean
abbrev kSp_mean : Cd := (yX10_mean, cX10_mean, 5, (some .long), 6, 149)
theorem dX10_mean : dcheck cX10_mean [(0, .aload_n 0, 1), (1, .getfield 10, 3), (4, .getfield 113, 3), (7, .astore_n 2, 1), (8, .aload_n 2, 1), (9, .iload_n 1, 1), (10, .invokevirtual 272, 3), (13, .ifCond .eq 10, 3), (16, .aload_n 2, 1), (17, .getfield 165, 3), (20, .ifCond .ne 7, 3), (23, .ldc2_w 326, 3), (26, .lreturn, 1), (27, .aload_n 0, 1), (28, .getfield 23, 3), (31, .getfield 126, 3), (34, .aload_n 2, 1), (35, .iload_n 1, 1), (36, .invokevirtual 309, 3), (39, .istore_n 3, 1), (40, .aload_n 2, 1), (41, .invokevirtual 328, 3), (44, .istore 4, 2), (46, .iload_n 3, 1), (47, .iconst (-1), 1), (48, .if_icmp .eq 8, 3), (51, .iload 4, 2), (53, .ifCond .gt 7, 3), (56, .ldc2_w 326, 3), (59, .lreturn, 1), (60, .iload_n 3, 1), (61, .aload_n 2, 1), (62, .iload_n 1, 1), (63, .invokevirtual 315, 3), (66, .isub, 1), (67, .i2d, 1), (68, .iload 4, 2), (70, .i2d, 1), (71, .ddiv, 1), (72, .invokestatic 331, 3), (75, .lreturn, 1)] = true := by decide +kernel
theorem cw_Sp_mean {k : Cd} (h1 : kSp_mean.2.2.2.2.1 + 1 ≤ k.2.2.2.2.1) (h2 : 8 + (kSp_mean.2.2.1 + 11) + kSp_mean.2.2.2.2.2 ≤ k.2.2.2.2.2) : Cw k kSp_mean 1 := ⟨wcode_X10_mean, wini_SplitProgram, ⟨by decide, by decide, by decide +kernel⟩, h1, h2⟩
def Sp_mean_j23 (v0 : Nat) (v1 : Int32) (v2 : Nat) (h : AHeap) : Option (Int64 × AHeap) :=
  some ((-1), h)
theorem Sp_mean_j23_J {E : JE} {l : Launch} {G : GX} {v : Int64} {h' : AHeap} (ok : JOK E l G kSp_mean 0 0 (some (.long v)) h') (v0 : Nat) (v1 : Int32) (v2 : Nat) (h : AHeap) : J E kSp_mean (Sp_mean_j23 v0 v1 v2 h) (fun z => z = (v, h')) 23 [some (.ref v0), some (.int v1), some (.ref v2), none, none] [] h 0 0 := by
  unfold Sp_mean_j23
  refine J_ldc2l (v := (-1)) (pc' := 26) ok (dOf dX10_mean 11 rfl) rfl wconl_X10_326 ?_
  exact J_lreturn ok (dOf dX10_mean 12 rfl) rfl (Eq.refl 0) (Nat.le_refl 0)
def Sp_mean_j56 (v0 : Nat) (v1 : Int32) (v2 : Nat) (v3 : Int32) (v4 : Int32) (h : AHeap) : Option (Int64 × AHeap) :=
  some ((-1), h)
theorem Sp_mean_j56_J {E : JE} {l : Launch} {G : GX} {v : Int64} {h' : AHeap} (ok : JOK E l G kSp_mean 0 0 (some (.long v)) h') (v0 : Nat) (v1 : Int32) (v2 : Nat) (v3 : Int32) (v4 : Int32) (h : AHeap) : J E kSp_mean (Sp_mean_j56 v0 v1 v2 v3 v4 h) (fun z => z = (v, h')) 56 [some (.ref v0), some (.int v1), some (.ref v2), some (.int v3), some (.int v4)] [] h 0 0 := by
  unfold Sp_mean_j56
  refine J_ldc2l (v := (-1)) (pc' := 59) ok (dOf dX10_mean 28 rfl) rfl wconl_X10_326 ?_
  exact J_lreturn ok (dOf dX10_mean 29 rfl) rfl (Eq.refl 0) (Nat.le_refl 0)
def Sp_mean (v0 : Nat) (v1 : Int32) (h : AHeap) : Option (Int64 × AHeap) :=
  (gfR h v0 10 0).bind fun a1 => (gfR h a1 8 0).bind fun a2 => (chk h a2 6).bind fun _ => bnd2 (Prog_isPlan a2 v1 h) fun x4 h3 => (if x4 = 0 then Sp_mean_j23 v0 v1 a2 h3 else (gfI h3 a2 6 2).bind fun x5 => (if ¬ x5 = 0 then (gfR h3 v0 10 2).bind fun a6 => (gfR h3 a6 3 0).bind fun a7 => (chk h3 a7 0).bind fun _ => bnd2 (Book_totalAt a7 a2 v1 h3) fun x9 h8 => (chk h8 a2 6).bind fun _ => bnd2 (Prog_sumOfWeights a2 h8) fun x11 h10 => (if x9 = (-1) then Sp_mean_j56 v0 v1 a2 x9 x11 h10 else (if 0 < x11 then (chk h10 a2 6).bind fun _ => bnd2 (Prog_feesOf a2 v1 h10) fun x13 h12 => (n64 (FP.ddiv (FP.i2d (x9 - x13)) (FP.i2d x11))).bind fun x14 => bnd2 (Sp_bitsOfDouble x14 h12) fun x16 h15 => some (x16, h15) else Sp_mean_j56 v0 v1 a2 x9 x11 h10)) else Sp_mean_j23 v0 v1 a2 h3))
theorem t_Sp_mean {l : Launch} {G : GX} {v0 : Nat} {v1 : Int32} {h : AHeap} {v : Int64} {h1 : AHeap} (hf : Sp_mean v0 v1 h = some (v, h1)) : CT l G kSp_mean 0 0 [.ref v0, .int v1] h (some (.long v)) h1 := by
  refine CT_of (ls := [some (.ref v0), some (.int v1), none, none, none]) (Z := fun z => z = (v, h1)) (by decide +kernel) (Nat.le_of_ble_eq_true rfl) hf rfl ⟨rfl, rfl, trivial⟩ (fun E ok => ?_)
  unfold Sp_mean
  refine J_aload_n (pc' := 1) ok (dOf dX10_mean 0 rfl) rfl rfl rfl ?_
  refine J_getR (ci := 10) (kf := 0) (C := RX10) (T := TX10) (N := 14) (pc' := 4) ok (dOf dX10_mean 1 rfl) rfl (by decide) rfl (by decide) win_10 wfl_X10_10 (fun a1 => ?_)
  refine J_getR (ci := 8) (kf := 0) (C := RX8) (T := TX8) (N := 3) (pc' := 7) ok (dOf dX10_mean 2 rfl) rfl (by decide) rfl (by decide) win_8 wfl_X10_113 (fun a2 => ?_)
  refine J_astore_n (ls' := [some (.ref v0), some (.int v1), some (.ref a2), none, none]) (pc' := 8) ok (dOf dX10_mean 3 rfl) rfl rfl (Nat.le_of_ble_eq_true rfl) rfl rfl ?_
  refine J_aload_n (pc' := 9) ok (dOf dX10_mean 4 rfl) rfl rfl rfl ?_
  refine J_iload_n (pc' := 10) ok (dOf dX10_mean 5 rfl) rfl rfl rfl ?_
  refine J_callVi (k2 := kProg_isPlan) (ci := 6) (T := TX6) (N := 9) (as := [.int v1]) (pc' := 13) ok (dOf dX10_mean 6 rfl) rfl (cw_Prog_isPlan (by decide) (by decide)) wml_X10_272 winst_X6_isPlan wsel_X6_isPlan rfl ⟨Nat.le_refl 0, Nat.le_refl 0⟩ (Nat.le_of_ble_eq_true rfl) rfl (fun _ _ hf => t_Prog_isPlan hf) (fun x4 h3 => ?_)
  refine J_if_eq (tgt := 23) (pc' := 16) ok (dOf dX10_mean 7 rfl) rfl (by decide) ?_ ?_
  · exact Sp_mean_j23_J ok v0 v1 a2 h3
  · refine J_aload_n (pc' := 17) ok (dOf dX10_mean 8 rfl) rfl rfl rfl ?_
    refine J_getI (ci := 6) (kf := 2) (C := RX6) (T := TX6) (N := 9) (pc' := 20) ok (dOf dX10_mean 9 rfl) rfl (by decide) rfl (by decide) win_6 wfl_X10_165 (fun x5 => ?_)
    refine J_if_ne (tgt := 27) (pc' := 23) ok (dOf dX10_mean 10 rfl) rfl (by decide) ?_ ?_
    · refine J_aload_n (pc' := 28) ok (dOf dX10_mean 13 rfl) rfl rfl rfl ?_
      refine J_getR (ci := 10) (kf := 2) (C := RX10) (T := TX10) (N := 14) (pc' := 31) ok (dOf dX10_mean 14 rfl) rfl (by decide) rfl (by decide) win_10 wfl_X10_23 (fun a6 => ?_)
      refine J_getR (ci := 3) (kf := 0) (C := RX3) (T := TX3) (N := 12) (pc' := 34) ok (dOf dX10_mean 15 rfl) rfl (by decide) rfl (by decide) win_3 wfl_X10_126 (fun a7 => ?_)
      refine J_aload_n (pc' := 35) ok (dOf dX10_mean 16 rfl) rfl rfl rfl ?_
      refine J_iload_n (pc' := 36) ok (dOf dX10_mean 17 rfl) rfl rfl rfl ?_
      refine J_callVi (k2 := kBook_totalAt) (ci := 0) (T := TX0) (N := 2) (as := [.ref a2, .int v1]) (pc' := 39) ok (dOf dX10_mean 18 rfl) rfl (cw_Book_totalAt (by decide) (by decide)) wml_X10_309 winst_X0_totalAt wsel_X0_totalAt rfl ⟨Nat.le_refl 0, Nat.le_refl 0⟩ (Nat.le_of_ble_eq_true rfl) rfl (fun _ _ hf => t_Book_totalAt hf) (fun x9 h8 => ?_)
      refine J_istore_n (ls' := [some (.ref v0), some (.int v1), some (.ref a2), some (.int x9), none]) (pc' := 40) ok (dOf dX10_mean 19 rfl) rfl rfl (Nat.le_of_ble_eq_true rfl) rfl rfl ?_
      refine J_aload_n (pc' := 41) ok (dOf dX10_mean 20 rfl) rfl rfl rfl ?_
      refine J_callVi (k2 := kProg_sumOfWeights) (ci := 6) (T := TX6) (N := 9) (as := []) (pc' := 44) ok (dOf dX10_mean 21 rfl) rfl (cw_Prog_sumOfWeights (by decide) (by decide)) wml_X10_328 winst_X6_sumOfWeights wsel_X6_sumOfWeights rfl ⟨Nat.le_refl 0, Nat.le_refl 0⟩ (Nat.le_of_ble_eq_true rfl) rfl (fun _ _ hf => t_Prog_sumOfWeights hf) (fun x11 h10 => ?_)
      refine J_istore (ls' := [some (.ref v0), some (.int v1), some (.ref a2), some (.int x9), some (.int x11)]) (pc' := 46) ok (dOf dX10_mean 22 rfl) rfl (Nat.le_of_ble_eq_true rfl) rfl rfl ?_
      refine J_iload_n (pc' := 47) ok (dOf dX10_mean 23 rfl) rfl rfl rfl ?_
      refine J_iconst (v := (-1)) (pc' := 48) ok (dOf dX10_mean 24 rfl) rfl (by decide) ?_
      refine J_icmp_eq (tgt := 56) (pc' := 51) ok (dOf dX10_mean 25 rfl) rfl (by decide) ?_ ?_
      · exact Sp_mean_j56_J ok v0 v1 a2 x9 x11 h10
      · refine J_iload (pc' := 53) ok (dOf dX10_mean 26 rfl) rfl rfl ?_
        refine J_if_gt (tgt := 60) (pc' := 56) ok (dOf dX10_mean 27 rfl) rfl (by decide) ?_ ?_
        · refine J_iload_n (pc' := 61) ok (dOf dX10_mean 30 rfl) rfl rfl rfl ?_
          refine J_aload_n (pc' := 62) ok (dOf dX10_mean 31 rfl) rfl rfl rfl ?_
          refine J_iload_n (pc' := 63) ok (dOf dX10_mean 32 rfl) rfl rfl rfl ?_
          refine J_callVi (k2 := kProg_feesOf) (ci := 6) (T := TX6) (N := 9) (as := [.int v1]) (pc' := 66) ok (dOf dX10_mean 33 rfl) rfl (cw_Prog_feesOf (by decide) (by decide)) wml_X10_315 winst_X6_feesOf wsel_X6_feesOf rfl ⟨Nat.le_refl 0, Nat.le_refl 0⟩ (Nat.le_of_ble_eq_true rfl) rfl (fun _ _ hf => t_Prog_feesOf hf) (fun x13 h12 => ?_)
          refine J_isub (pc' := 67) ok (dOf dX10_mean 34 rfl) rfl ?_
          refine J_i2d (pc' := 68) ok (dOf dX10_mean 35 rfl) rfl ?_
          refine J_iload (pc' := 70) ok (dOf dX10_mean 36 rfl) rfl rfl ?_
          refine J_i2d (pc' := 71) ok (dOf dX10_mean 37 rfl) rfl ?_
          refine J_ddiv (pc' := 72) ok (dOf dX10_mean 38 rfl) rfl ?_
          refine J_callSl (k2 := kSp_bitsOfDouble) (as := [.double (FP.ddiv (FP.i2d (x9 - x13)) (FP.i2d x11))]) (pc' := 75) ok (dOf dX10_mean 39 rfl) rfl (cw_Sp_bitsOfDouble (by decide) (by decide)) wml_X10_331 wstat_X10_bitsOfDouble ⟨Nat.le_refl 0, Nat.le_refl 0⟩ (Nat.le_of_ble_eq_true rfl) rfl (fun _ _ hf => t_Sp_bitsOfDouble hf) (fun x16 h15 => ?_)
          exact J_lreturn ok (dOf dX10_mean 40 rfl) rfl (Eq.refl 0) (Nat.le_refl 0)
        · exact Sp_mean_j56_J ok v0 v1 a2 x9 x11 h10
    · exact Sp_mean_j23_J ok v0 v1 a2 h3
-- X10_would
abbrev kSp_would : Cd := (yX10_would, cX10_would, 4, (some .int), 7, 178)
theorem dX10_would : dcheck cX10_would [(0, .iload_n 1, 1), (1, .getstatic 85, 3), (4, .iconst 0, 1), (5, .iaload, 1), (6, .if_icmp .lt 12, 3), (9, .iload_n 1, 1), (10, .getstatic 88, 3), (13, .iconst 0, 1), (14, .iaload, 1), (15, .if_icmp .le 5, 3), (18, .iconst (-1), 1), (19, .ireturn, 1), (20, .iload_n 2, 1), (21, .getstatic 85, 3), (24, .iconst 1, 1), (25, .iaload, 1), (26, .if_icmp .lt 12, 3), (29, .iload_n 2, 1), (30, .getstatic 88, 3), (33, .iconst 1, 1), (34, .iaload, 1), (35, .if_icmp .le 5, 3), (38, .iconst (-1), 1), (39, .ireturn, 1), (40, .aload_n 0, 1), (41, .getfield 75, 3), (44, .iconst 0, 1), (45, .iload_n 1, 1), (46, .iastore, 1), (47, .aload_n 0, 1), (48, .getfield 75, 3), (51, .iconst 1, 1), (52, .iload_n 2, 1), (53, .iastore, 1), (54, .aload_n 0, 1), (55, .getfield 75, 3), (58, .iconst 2, 1), (59, .iconst 0, 1), (60, .iastore, 1), (61, .aload_n 0, 1), (62, .getfield 75, 3), (65, .iconst 3, 1), (66, .bipush 99, 2), (68, .iastore, 1), (69, .aload_n 0, 1), (70, .getfield 64, 3), (73, .iconst 0, 1), (74, .putfield 123, 3), (77, .aload_n 0, 1), (78, .getfield 71, 3), (81, .invokevirtual 205, 3), (84, .aload_n 0, 1), (85, .getfield 23, 3), (88, .getfield 208, 3), (91, .iconst 1, 1), (92, .putfield 212, 3), (95, .aload_n 0, 1), (96, .getfield 23, 3), (99, .aload_n 0, 1), (100, .getfield 10, 3), (103, .getfield 113, 3), (106, .aload_n 0, 1), (107, .getfield 64, 3), (110, .aload_n 0, 1), (111, .getfield 71, 3), (114, .aload_n 0, 1), (115, .getfield 75, 3), (118, .bipush 99, 2), (120, .invokevirtual 201, 3), (123, .istore_n 3, 1), (124, .aload_n 0, 1), (125, .getfield 23, 3), (128, .getfield 208, 3), (131, .iconst 1, 1), (132, .putfield 212, 3), (135, .aload_n 0, 1), (136, .getfield 71, 3), (139, .getfield 190, 3), (142, .ifCond .eq 7, 3), (145, .iload_n 3, 1), (146, .goto 4, 3), (149, .iconst (-1), 1), (150, .ireturn, 1)] = true := by decide +kernel
theorem cw_Sp_would {k : Cd} (h1 : kSp_would.2.2.2.2.1 + 1 ≤ k.2.2.2.2.1) (h2 : 8 + (kSp_would.2.2.1 + 11) + kSp_would.2.2.2.2.2 ≤ k.2.2.2.2.2) : Cw k kSp_would 2 := ⟨wcode_X10_would, wini_SplitProgram, ⟨by decide, by decide, by decide +kernel⟩, h1, h2⟩
def Sp_would_j18 (v0 : Nat) (v1 : Int32) (v2 : Int32) (h : AHeap) : Option (Int32 × AHeap) :=
  some ((-1), h)
theorem Sp_would_j18_J {E : JE} {l : Launch} {G : GX} {v : Int32} {h' : AHeap} (ok : JOK E l G kSp_would 0 0 (some (.int v)) h') (v0 : Nat) (v1 : Int32) (v2 : Int32) (h : AHeap) : J E kSp_would (Sp_would_j18 v0 v1 v2 h) (fun z => z = (v, h')) 18 [some (.ref v0), some (.int v1), some (.int v2), none] [] h 0 0 := by
  unfold Sp_would_j18
  refine J_iconst (v := (-1)) (pc' := 19) ok (dOf dX10_would 10 rfl) rfl (by decide) ?_
  exact J_ireturn ok (dOf dX10_would 11 rfl) rfl (Eq.refl 0) (Nat.le_refl 0)
def Sp_would_j38 (v0 : Nat) (v1 : Int32) (v2 : Int32) (h : AHeap) : Option (Int32 × AHeap) :=
  some ((-1), h)
theorem Sp_would_j38_J {E : JE} {l : Launch} {G : GX} {v : Int32} {h' : AHeap} (ok : JOK E l G kSp_would 0 0 (some (.int v)) h') (v0 : Nat) (v1 : Int32) (v2 : Int32) (h : AHeap) : J E kSp_would (Sp_would_j38 v0 v1 v2 h) (fun z => z = (v, h')) 38 [some (.ref v0), some (.int v1), some (.int v2), none] [] h 0 0 := by
  unfold Sp_would_j38
  refine J_iconst (v := (-1)) (pc' := 39) ok (dOf dX10_would 22 rfl) rfl (by decide) ?_
  exact J_ireturn ok (dOf dX10_would 23 rfl) rfl (Eq.refl 0) (Nat.le_refl 0)
def Sp_would_j150 (v0 : Nat) (v1 : Int32) (v2 : Int32) (v3 : Int32) (t0 : Int32) (h : AHeap) : Option (Int32 × AHeap) :=
  some (t0, h)
theorem Sp_would_j150_J {E : JE} {l : Launch} {G : GX} {v : Int32} {h' : AHeap} (ok : JOK E l G kSp_would 0 0 (some (.int v)) h') (v0 : Nat) (v1 : Int32) (v2 : Int32) (v3 : Int32) (t0 : Int32) (h : AHeap) : J E kSp_would (Sp_would_j150 v0 v1 v2 v3 t0 h) (fun z => z = (v, h')) 150 [some (.ref v0), some (.int v1), some (.int v2), some (.int v3)] [.int t0] h 0 0 := by
  unfold Sp_would_j150
  exact J_ireturn ok (dOf dX10_would 82 rfl) rfl (Eq.refl 0) (Nat.le_refl 0)
def Sp_would (v0 : Nat) (v1 : Int32) (v2 : Int32) (h : AHeap) : Option (Int32 × AHeap) :=
  (ald 0 h (FB + 0) 0).bind fun x1 => (if v1 < x1 then Sp_would_j18 v0 v1 v2 h else (ald 0 h (FB + 1) 0).bind fun x2 => (if v1 ≤ x2 then (ald 0 h (FB + 0) 1).bind fun x3 => (if v2 < x3 then Sp_would_j38 v0 v1 v2 h else (ald 0 h (FB + 1) 1).bind fun x4 => (if v2 ≤ x4 then (gfR h v0 10 11).bind fun a5 => (ast 0 h a5 0 v1).bind fun h6 => (gfR h6 v0 10 11).bind fun a7 => (ast 0 h6 a7 1 v2).bind fun h8 => (gfR h8 v0 10 11).bind fun a9 => (ast 0 h8 a9 2 0).bind fun h10 => (gfR h10 v0 10 11).bind fun a11 => (ast 0 h10 a11 3 99).bind fun h12 => (gfR h12 v0 10 9).bind fun a13 => (pfV h12 a13 2 1 (.int 0)).bind fun h14 => (gfR h14 v0 10 10).bind fun a15 => (chk h14 a15 7).bind fun _ => bnd2 (Srch_reset a15 h14) fun _ h16 => (gfR h16 v0 10 2).bind fun a17 => (gfR h16 a17 3 1).bind fun a18 => (bz 1).bind fun x20 => (pfV h16 a18 1 0 (.int x20)).bind fun h19 => (gfR h19 v0 10 2).bind fun a21 => (gfR h19 v0 10 0).bind fun a22 => (gfR h19 a22 8 0).bind fun a23 => (gfR h19 v0 10 9).bind fun a24 => (gfR h19 v0 10 10).bind fun a25 => (gfR h19 v0 10 11).bind fun a26 => (chk h19 a21 3).bind fun _ => bnd2 (Eng_run a21 a23 a24 a25 a26 99 h19) fun x28 h27 => (gfR h27 v0 10 2).bind fun a29 => (gfR h27 a29 3 1).bind fun a30 => (bz 1).bind fun x32 => (pfV h27 a30 1 0 (.int x32)).bind fun h31 => (gfR h31 v0 10 10).bind fun a33 => (gfI h31 a33 7 0).bind fun x34 => (if x34 = 0 then Sp_would_j150 v0 v1 v2 x28 (-1) h31 else Sp_would_j150 v0 v1 v2 x28 x28 h31) else Sp_would_j38 v0 v1 v2 h)) else Sp_would_j18 v0 v1 v2 h))
theorem t_Sp_would {l : Launch} {G : GX} {v0 : Nat} {v1 : Int32} {v2 : Int32} {h : AHeap} {v : Int32} {h1 : AHeap} (hf : Sp_would v0 v1 v2 h = some (v, h1)) : CT l G kSp_would 0 0 [.ref v0, .int v1, .int v2] h (some (.int v)) h1 := by
  refine CT_of (ls := [some (.ref v0), some (.int v1), some (.int v2), none]) (Z := fun z => z = (v, h1)) (by decide +kernel) (Nat.le_of_ble_eq_true rfl) hf rfl ⟨rfl, rfl, rfl, trivial⟩ (fun E ok => ?_)
  unfold Sp_would
  refine J_iload_n (pc' := 1) ok (dOf dX10_would 0 rfl) rfl rfl rfl ?_
  refine J_gsLow (pc' := 4) ok (dOf dX10_would 1 rfl) rfl wfl_X10_85 ?_
  refine J_iconst (v := 0) (pc' := 5) ok (dOf dX10_would 2 rfl) rfl (by decide) ?_
  refine J_iald (pc' := 6) ok (dOf dX10_would 3 rfl) rfl (fun x1 => ?_)
  refine J_icmp_lt (tgt := 18) (pc' := 9) ok (dOf dX10_would 4 rfl) rfl (by decide) ?_ ?_
  · exact Sp_would_j18_J ok v0 v1 v2 h
  · refine J_iload_n (pc' := 10) ok (dOf dX10_would 5 rfl) rfl rfl rfl ?_
    refine J_gsHigh (pc' := 13) ok (dOf dX10_would 6 rfl) rfl wfl_X10_88 ?_
    refine J_iconst (v := 0) (pc' := 14) ok (dOf dX10_would 7 rfl) rfl (by decide) ?_
    refine J_iald (pc' := 15) ok (dOf dX10_would 8 rfl) rfl (fun x2 => ?_)
    refine J_icmp_le (tgt := 20) (pc' := 18) ok (dOf dX10_would 9 rfl) rfl (by decide) ?_ ?_
    · refine J_iload_n (pc' := 21) ok (dOf dX10_would 12 rfl) rfl rfl rfl ?_
      refine J_gsLow (pc' := 24) ok (dOf dX10_would 13 rfl) rfl wfl_X10_85 ?_
      refine J_iconst (v := 1) (pc' := 25) ok (dOf dX10_would 14 rfl) rfl (by decide) ?_
      refine J_iald (pc' := 26) ok (dOf dX10_would 15 rfl) rfl (fun x3 => ?_)
      refine J_icmp_lt (tgt := 38) (pc' := 29) ok (dOf dX10_would 16 rfl) rfl (by decide) ?_ ?_
      · exact Sp_would_j38_J ok v0 v1 v2 h
      · refine J_iload_n (pc' := 30) ok (dOf dX10_would 17 rfl) rfl rfl rfl ?_
        refine J_gsHigh (pc' := 33) ok (dOf dX10_would 18 rfl) rfl wfl_X10_88 ?_
        refine J_iconst (v := 1) (pc' := 34) ok (dOf dX10_would 19 rfl) rfl (by decide) ?_
        refine J_iald (pc' := 35) ok (dOf dX10_would 20 rfl) rfl (fun x4 => ?_)
        refine J_icmp_le (tgt := 40) (pc' := 38) ok (dOf dX10_would 21 rfl) rfl (by decide) ?_ ?_
        · refine J_aload_n (pc' := 41) ok (dOf dX10_would 24 rfl) rfl rfl rfl ?_
          refine J_getR (ci := 10) (kf := 11) (C := RX10) (T := TX10) (N := 14) (pc' := 44) ok (dOf dX10_would 25 rfl) rfl (by decide) rfl (by decide) win_10 wfl_X10_75 (fun a5 => ?_)
          refine J_iconst (v := 0) (pc' := 45) ok (dOf dX10_would 26 rfl) rfl (by decide) ?_
          refine J_iload_n (pc' := 46) ok (dOf dX10_would 27 rfl) rfl rfl rfl ?_
          refine J_iast (pc' := 47) ok (dOf dX10_would 28 rfl) rfl (fun h6 _ => ?_)
          refine J_aload_n (pc' := 48) ok (dOf dX10_would 29 rfl) rfl rfl rfl ?_
          refine J_getR (ci := 10) (kf := 11) (C := RX10) (T := TX10) (N := 14) (pc' := 51) ok (dOf dX10_would 30 rfl) rfl (by decide) rfl (by decide) win_10 wfl_X10_75 (fun a7 => ?_)
          refine J_iconst (v := 1) (pc' := 52) ok (dOf dX10_would 31 rfl) rfl (by decide) ?_
          refine J_iload_n (pc' := 53) ok (dOf dX10_would 32 rfl) rfl rfl rfl ?_
          refine J_iast (pc' := 54) ok (dOf dX10_would 33 rfl) rfl (fun h8 _ => ?_)
          refine J_aload_n (pc' := 55) ok (dOf dX10_would 34 rfl) rfl rfl rfl ?_
          refine J_getR (ci := 10) (kf := 11) (C := RX10) (T := TX10) (N := 14) (pc' := 58) ok (dOf dX10_would 35 rfl) rfl (by decide) rfl (by decide) win_10 wfl_X10_75 (fun a9 => ?_)
          refine J_iconst (v := 2) (pc' := 59) ok (dOf dX10_would 36 rfl) rfl (by decide) ?_
          refine J_iconst (v := 0) (pc' := 60) ok (dOf dX10_would 37 rfl) rfl (by decide) ?_
          refine J_iast (pc' := 61) ok (dOf dX10_would 38 rfl) rfl (fun h10 _ => ?_)
          refine J_aload_n (pc' := 62) ok (dOf dX10_would 39 rfl) rfl rfl rfl ?_
          refine J_getR (ci := 10) (kf := 11) (C := RX10) (T := TX10) (N := 14) (pc' := 65) ok (dOf dX10_would 40 rfl) rfl (by decide) rfl (by decide) win_10 wfl_X10_75 (fun a11 => ?_)
          refine J_iconst (v := 3) (pc' := 66) ok (dOf dX10_would 41 rfl) rfl (by decide) ?_
          refine J_bipush (v := 99) (pc' := 68) ok (dOf dX10_would 42 rfl) rfl (by decide) ?_
          refine J_iast (pc' := 69) ok (dOf dX10_would 43 rfl) rfl (fun h12 _ => ?_)
          refine J_aload_n (pc' := 70) ok (dOf dX10_would 44 rfl) rfl rfl rfl ?_
          refine J_getR (ci := 10) (kf := 9) (C := RX10) (T := TX10) (N := 14) (pc' := 73) ok (dOf dX10_would 45 rfl) rfl (by decide) rfl (by decide) win_10 wfl_X10_64 (fun a13 => ?_)
          refine J_iconst (v := 0) (pc' := 74) ok (dOf dX10_would 46 rfl) rfl (by decide) ?_
          refine J_putI (ci := 2) (kf := 1) (C := RX2) (T := TX2) (N := 7) (pc' := 77) ok tyX2 (dOf dX10_would 47 rfl) rfl rfl (by decide) win_2 tyX2_ok nmX2 rfl rfl wfl_X10_123 (fun h14 _ => ?_)
          refine J_aload_n (pc' := 78) ok (dOf dX10_would 48 rfl) rfl rfl rfl ?_
          refine J_getR (ci := 10) (kf := 10) (C := RX10) (T := TX10) (N := 14) (pc' := 81) ok (dOf dX10_would 49 rfl) rfl (by decide) rfl (by decide) win_10 wfl_X10_71 (fun a15 => ?_)
          refine J_callVv (k2 := kSrch_reset) (ci := 7) (T := TX7) (N := 7) (as := []) (pc' := 84) ok (dOf dX10_would 50 rfl) rfl (cw_Srch_reset (by decide) (by decide)) wml_X10_205 winst_X7_reset wsel_X7_reset rfl ⟨Nat.le_refl 0, Nat.le_refl 0⟩ (Nat.le_of_ble_eq_true rfl) rfl (fun _ _ hf => t_Srch_reset hf) (fun _ h16 => ?_)
          refine J_aload_n (pc' := 85) ok (dOf dX10_would 51 rfl) rfl rfl rfl ?_
          refine J_getR (ci := 10) (kf := 2) (C := RX10) (T := TX10) (N := 14) (pc' := 88) ok (dOf dX10_would 52 rfl) rfl (by decide) rfl (by decide) win_10 wfl_X10_23 (fun a17 => ?_)
          refine J_getR (ci := 3) (kf := 1) (C := RX3) (T := TX3) (N := 12) (pc' := 91) ok (dOf dX10_would 53 rfl) rfl (by decide) rfl (by decide) win_3 wfl_X10_208 (fun a18 => ?_)
          refine J_iconst (v := 1) (pc' := 92) ok (dOf dX10_would 54 rfl) rfl (by decide) ?_
          refine J_putZ (ci := 1) (kf := 0) (C := RX1) (T := TX1) (N := 3) (pc' := 95) ok tyX1 (dOf dX10_would 55 rfl) rfl rfl (by decide) win_1 tyX1_ok nmX1 rfl rfl wfl_X10_212 (fun h19 _ => ?_)
          refine J_aload_n (pc' := 96) ok (dOf dX10_would 56 rfl) rfl rfl rfl ?_
          refine J_getR (ci := 10) (kf := 2) (C := RX10) (T := TX10) (N := 14) (pc' := 99) ok (dOf dX10_would 57 rfl) rfl (by decide) rfl (by decide) win_10 wfl_X10_23 (fun a21 => ?_)
          refine J_aload_n (pc' := 100) ok (dOf dX10_would 58 rfl) rfl rfl rfl ?_
          refine J_getR (ci := 10) (kf := 0) (C := RX10) (T := TX10) (N := 14) (pc' := 103) ok (dOf dX10_would 59 rfl) rfl (by decide) rfl (by decide) win_10 wfl_X10_10 (fun a22 => ?_)
          refine J_getR (ci := 8) (kf := 0) (C := RX8) (T := TX8) (N := 3) (pc' := 106) ok (dOf dX10_would 60 rfl) rfl (by decide) rfl (by decide) win_8 wfl_X10_113 (fun a23 => ?_)
          refine J_aload_n (pc' := 107) ok (dOf dX10_would 61 rfl) rfl rfl rfl ?_
          refine J_getR (ci := 10) (kf := 9) (C := RX10) (T := TX10) (N := 14) (pc' := 110) ok (dOf dX10_would 62 rfl) rfl (by decide) rfl (by decide) win_10 wfl_X10_64 (fun a24 => ?_)
          refine J_aload_n (pc' := 111) ok (dOf dX10_would 63 rfl) rfl rfl rfl ?_
          refine J_getR (ci := 10) (kf := 10) (C := RX10) (T := TX10) (N := 14) (pc' := 114) ok (dOf dX10_would 64 rfl) rfl (by decide) rfl (by decide) win_10 wfl_X10_71 (fun a25 => ?_)
          refine J_aload_n (pc' := 115) ok (dOf dX10_would 65 rfl) rfl rfl rfl ?_
          refine J_getR (ci := 10) (kf := 11) (C := RX10) (T := TX10) (N := 14) (pc' := 118) ok (dOf dX10_would 66 rfl) rfl (by decide) rfl (by decide) win_10 wfl_X10_75 (fun a26 => ?_)
          refine J_bipush (v := 99) (pc' := 120) ok (dOf dX10_would 67 rfl) rfl (by decide) ?_
          refine J_callVi (k2 := kEng_run) (ci := 3) (T := TX3) (N := 12) (as := [.ref a23, .ref a24, .ref a25, .ref a26, .int 99]) (pc' := 123) ok (dOf dX10_would 68 rfl) rfl (cw_Eng_run (by decide) (by decide)) wml_X10_201 winst_X3_run wsel_X3_run rfl ⟨Nat.le_refl 0, Nat.le_refl 0⟩ (Nat.le_of_ble_eq_true rfl) rfl (fun _ _ hf => t_Eng_run hf) (fun x28 h27 => ?_)
          refine J_istore_n (ls' := [some (.ref v0), some (.int v1), some (.int v2), some (.int x28)]) (pc' := 124) ok (dOf dX10_would 69 rfl) rfl rfl (Nat.le_of_ble_eq_true rfl) rfl rfl ?_
          refine J_aload_n (pc' := 125) ok (dOf dX10_would 70 rfl) rfl rfl rfl ?_
          refine J_getR (ci := 10) (kf := 2) (C := RX10) (T := TX10) (N := 14) (pc' := 128) ok (dOf dX10_would 71 rfl) rfl (by decide) rfl (by decide) win_10 wfl_X10_23 (fun a29 => ?_)
          refine J_getR (ci := 3) (kf := 1) (C := RX3) (T := TX3) (N := 12) (pc' := 131) ok (dOf dX10_would 72 rfl) rfl (by decide) rfl (by decide) win_3 wfl_X10_208 (fun a30 => ?_)
          refine J_iconst (v := 1) (pc' := 132) ok (dOf dX10_would 73 rfl) rfl (by decide) ?_
          refine J_putZ (ci := 1) (kf := 0) (C := RX1) (T := TX1) (N := 3) (pc' := 135) ok tyX1 (dOf dX10_would 74 rfl) rfl rfl (by decide) win_1 tyX1_ok nmX1 rfl rfl wfl_X10_212 (fun h31 _ => ?_)
          refine J_aload_n (pc' := 136) ok (dOf dX10_would 75 rfl) rfl rfl rfl ?_
          refine J_getR (ci := 10) (kf := 10) (C := RX10) (T := TX10) (N := 14) (pc' := 139) ok (dOf dX10_would 76 rfl) rfl (by decide) rfl (by decide) win_10 wfl_X10_71 (fun a33 => ?_)
          refine J_getI (ci := 7) (kf := 0) (C := RX7) (T := TX7) (N := 7) (pc' := 142) ok (dOf dX10_would 77 rfl) rfl (by decide) rfl (by decide) win_7 wfl_X10_190 (fun x34 => ?_)
          refine J_if_eq (tgt := 149) (pc' := 145) ok (dOf dX10_would 78 rfl) rfl (by decide) ?_ ?_
          · refine J_iconst (v := (-1)) (pc' := 150) ok (dOf dX10_would 81 rfl) rfl (by decide) ?_
            exact Sp_would_j150_J ok v0 v1 v2 x28 (-1) h31
          · refine J_iload_n (pc' := 146) ok (dOf dX10_would 79 rfl) rfl rfl rfl ?_
            refine J_goto (tgt := 150) ok (dOf dX10_would 80 rfl) (by decide) ?_
            exact Sp_would_j150_J ok v0 v1 v2 x28 x28 h31
        · exact Sp_would_j38_J ok v0 v1 v2 h
    · exact Sp_would_j18_J ok v0 v1 v2 h
-- X10_image
abbrev kSp_image : Cd := (yX10_image, cX10_image, 2, (some .int), 3, 87)
theorem dX10_image : dcheck cX10_image [(0, .iload_n 1, 1), (1, .ifCond .lt 8, 3), (4, .iload_n 1, 1), (5, .iconst 2, 1), (6, .if_icmp .lt 9, 3), (9, .aload_n 0, 1), (10, .iconst (-1), 1), (11, .invokevirtual 81, 3), (14, .ireturn, 1), (15, .aload_n 0, 1), (16, .getfield 48, 3), (19, .iload_n 1, 1), (20, .aaload, 1), (21, .aload_n 0, 1), (22, .getfield 10, 3), (25, .invokevirtual 335, 3), (28, .aload_n 0, 1), (29, .getfield 16, 3), (32, .iconst 0, 1), (33, .aload_n 0, 1), (34, .getfield 52, 3), (37, .iload_n 1, 1), (38, .iconst 4, 1), (39, .imul, 1), (40, .iconst 4, 1), (41, .invokestatic 338, 3), (44, .aload_n 0, 1), (45, .getfield 55, 3), (48, .iload_n 1, 1), (49, .iconst 1, 1), (50, .bastore, 1), (51, .aload_n 0, 1), (52, .iconst 0, 1), (53, .invokevirtual 91, 3), (56, .ireturn, 1)] = true := by decide +kernel
theorem cw_Sp_image {k : Cd} (h1 : kSp_image.2.2.2.2.1 + 1 ≤ k.2.2.2.2.1) (h2 : 8 + (kSp_image.2.2.1 + 11) + kSp_image.2.2.2.2.2 ≤ k.2.2.2.2.2) : Cw k kSp_image 1 := ⟨wcode_X10_image, wini_SplitProgram, ⟨by decide, by decide, by decide +kernel⟩, h1, h2⟩
def Sp_image_j9 (v0 : Nat) (v1 : Int32) (h : AHeap) : Option (Int32 × AHeap) :=
  (chk h v0 10).bind fun _ => bnd2 (Sp_refuse v0 (-1) h) fun x2 h1 => some (x2, h1)
theorem Sp_image_j9_J {E : JE} {l : Launch} {G : GX} {v : Int32} {h' : AHeap} (ok : JOK E l G kSp_image 0 0 (some (.int v)) h') (v0 : Nat) (v1 : Int32) (h : AHeap) : J E kSp_image (Sp_image_j9 v0 v1 h) (fun z => z = (v, h')) 9 [some (.ref v0), some (.int v1)] [] h 0 0 := by
  unfold Sp_image_j9
  refine J_aload_n (pc' := 10) ok (dOf dX10_image 5 rfl) rfl rfl rfl ?_
  refine J_iconst (v := (-1)) (pc' := 11) ok (dOf dX10_image 6 rfl) rfl (by decide) ?_
  refine J_callVi (k2 := kSp_refuse) (ci := 10) (T := TX10) (N := 14) (as := [.int (-1)]) (pc' := 14) ok (dOf dX10_image 7 rfl) rfl (cw_Sp_refuse (by decide) (by decide)) wml_X10_81 winst_X10_refuse wsel_X10_refuse rfl ⟨Nat.le_refl 0, Nat.le_refl 0⟩ (Nat.le_of_ble_eq_true rfl) rfl (fun _ _ hf => t_Sp_refuse hf) (fun x2 h1 => ?_)
  exact J_ireturn ok (dOf dX10_image 8 rfl) rfl (Eq.refl 0) (Nat.le_refl 0)
def Sp_image (v0 : Nat) (v1 : Int32) (h : AHeap) : Option (Int32 × AHeap) :=
  (if v1 < 0 then Sp_image_j9 v0 v1 h else (if v1 < 2 then (gfR h v0 10 6).bind fun a3 => (aldR h a3 v1).bind fun a4 => (gfR h v0 10 0).bind fun a5 => (chk h a4 8).bind fun _ => bnd2 (Stat_copyFrom a4 a5 h) fun _ h6 => (gfR h6 v0 10 1).bind fun a7 => (gfR h6 v0 10 7).bind fun a8 => (acp h6 a7 0 a8 (v1 * 4) 4).bind fun h9 => (gfR h9 v0 10 8).bind fun a10 => (ast 1 h9 a10 v1 1).bind fun h11 => (chk h11 v0 10).bind fun _ => bnd2 (Sp_accept v0 0 h11) fun x13 h12 => some (x13, h12) else Sp_image_j9 v0 v1 h))
theorem t_Sp_image {l : Launch} {G : GX} {v0 : Nat} {v1 : Int32} {h : AHeap} {v : Int32} {h1 : AHeap} (hf : Sp_image v0 v1 h = some (v, h1)) : CT l G kSp_image 0 0 [.ref v0, .int v1] h (some (.int v)) h1 := by
  refine CT_of (ls := [some (.ref v0), some (.int v1)]) (Z := fun z => z = (v, h1)) (by decide +kernel) (Nat.le_of_ble_eq_true rfl) hf rfl ⟨rfl, rfl, trivial⟩ (fun E ok => ?_)
  unfold Sp_image
  refine J_iload_n (pc' := 1) ok (dOf dX10_image 0 rfl) rfl rfl rfl ?_
  refine J_if_lt (tgt := 9) (pc' := 4) ok (dOf dX10_image 1 rfl) rfl (by decide) ?_ ?_
  · exact Sp_image_j9_J ok v0 v1 h
  · refine J_iload_n (pc' := 5) ok (dOf dX10_image 2 rfl) rfl rfl rfl ?_
    refine J_iconst (v := 2) (pc' := 6) ok (dOf dX10_image 3 rfl) rfl (by decide) ?_
    refine J_icmp_lt (tgt := 15) (pc' := 9) ok (dOf dX10_image 4 rfl) rfl (by decide) ?_ ?_
    · refine J_aload_n (pc' := 16) ok (dOf dX10_image 9 rfl) rfl rfl rfl ?_
      refine J_getR (ci := 10) (kf := 6) (C := RX10) (T := TX10) (N := 14) (pc' := 19) ok (dOf dX10_image 10 rfl) rfl (by decide) rfl (by decide) win_10 wfl_X10_48 (fun a3 => ?_)
      refine J_iload_n (pc' := 20) ok (dOf dX10_image 11 rfl) rfl rfl rfl ?_
      refine J_aldR (pc' := 21) ok (dOf dX10_image 12 rfl) rfl (fun a4 => ?_)
      refine J_aload_n (pc' := 22) ok (dOf dX10_image 13 rfl) rfl rfl rfl ?_
      refine J_getR (ci := 10) (kf := 0) (C := RX10) (T := TX10) (N := 14) (pc' := 25) ok (dOf dX10_image 14 rfl) rfl (by decide) rfl (by decide) win_10 wfl_X10_10 (fun a5 => ?_)
      refine J_callVv (k2 := kStat_copyFrom) (ci := 8) (T := TX8) (N := 3) (as := [.ref a5]) (pc' := 28) ok (dOf dX10_image 15 rfl) rfl (cw_Stat_copyFrom (by decide) (by decide)) wml_X10_335 winst_X8_copyFrom wsel_X8_copyFrom rfl ⟨Nat.le_refl 0, Nat.le_refl 0⟩ (Nat.le_of_ble_eq_true rfl) rfl (fun _ _ hf => t_Stat_copyFrom hf) (fun _ h6 => ?_)
      refine J_aload_n (pc' := 29) ok (dOf dX10_image 16 rfl) rfl rfl rfl ?_
      refine J_getR (ci := 10) (kf := 1) (C := RX10) (T := TX10) (N := 14) (pc' := 32) ok (dOf dX10_image 17 rfl) rfl (by decide) rfl (by decide) win_10 wfl_X10_16 (fun a7 => ?_)
      refine J_iconst (v := 0) (pc' := 33) ok (dOf dX10_image 18 rfl) rfl (by decide) ?_
      refine J_aload_n (pc' := 34) ok (dOf dX10_image 19 rfl) rfl rfl rfl ?_
      refine J_getR (ci := 10) (kf := 7) (C := RX10) (T := TX10) (N := 14) (pc' := 37) ok (dOf dX10_image 20 rfl) rfl (by decide) rfl (by decide) win_10 wfl_X10_52 (fun a8 => ?_)
      refine J_iload_n (pc' := 38) ok (dOf dX10_image 21 rfl) rfl rfl rfl ?_
      refine J_iconst (v := 4) (pc' := 39) ok (dOf dX10_image 22 rfl) rfl (by decide) ?_
      refine J_imul (pc' := 40) ok (dOf dX10_image 23 rfl) rfl ?_
      refine J_iconst (v := 4) (pc' := 41) ok (dOf dX10_image 24 rfl) rfl (by decide) ?_
      refine J_acp (pc' := 44) ok (dOf dX10_image 25 rfl) rfl wml_X10_338 wnat_java_lang_System_arraycopy wstat_java_lang_System_arraycopy wini_java_lang_System (Nat.le_of_ble_eq_true rfl) (Nat.le_of_ble_eq_true rfl) (fun h9 _ => ?_)
      refine J_aload_n (pc' := 45) ok (dOf dX10_image 26 rfl) rfl rfl rfl ?_
      refine J_getR (ci := 10) (kf := 8) (C := RX10) (T := TX10) (N := 14) (pc' := 48) ok (dOf dX10_image 27 rfl) rfl (by decide) rfl (by decide) win_10 wfl_X10_55 (fun a10 => ?_)
      refine J_iload_n (pc' := 49) ok (dOf dX10_image 28 rfl) rfl rfl rfl ?_
      refine J_iconst (v := 1) (pc' := 50) ok (dOf dX10_image 29 rfl) rfl (by decide) ?_
      refine J_zast (pc' := 51) ok (dOf dX10_image 30 rfl) rfl (fun h11 _ => ?_)
      refine J_aload_n (pc' := 52) ok (dOf dX10_image 31 rfl) rfl rfl rfl ?_
      refine J_iconst (v := 0) (pc' := 53) ok (dOf dX10_image 32 rfl) rfl (by decide) ?_
      refine J_callVi (k2 := kSp_accept) (ci := 10) (T := TX10) (N := 14) (as := [.int 0]) (pc' := 56) ok (dOf dX10_image 33 rfl) rfl (cw_Sp_accept (by decide) (by decide)) wml_X10_91 winst_X10_accept wsel_X10_accept rfl ⟨Nat.le_refl 0, Nat.le_refl 0⟩ (Nat.le_of_ble_eq_true rfl) rfl (fun _ _ hf => t_Sp_accept hf) (fun x13 h12 => ?_)
      exact J_ireturn ok (dOf dX10_image 34 rfl) rfl (Eq.refl 0) (Nat.le_refl 0)
    · exact Sp_image_j9_J ok v0 v1 h
-- X10_back
abbrev kSp_back : Cd := (yX10_back, cX10_back, 2, (some .int), 3, 87)
theorem dX10_back : dcheck cX10_back [(0, .iload_n 1, 1), (1, .ifCond .lt 8, 3), (4, .iload_n 1, 1), (5, .iconst 2, 1), (6, .if_icmp .lt 9, 3), (9, .aload_n 0, 1), (10, .iconst (-1), 1), (11, .invokevirtual 81, 3), (14, .ireturn, 1), (15, .aload_n 0, 1), (16, .getfield 55, 3), (19, .iload_n 1, 1), (20, .baload, 1), (21, .ifCond .ne 10, 3), (24, .aload_n 0, 1), (25, .bipush (-2), 2), (27, .invokevirtual 81, 3), (30, .ireturn, 1), (31, .aload_n 0, 1), (32, .getfield 10, 3), (35, .aload_n 0, 1), (36, .getfield 48, 3), (39, .iload_n 1, 1), (40, .aaload, 1), (41, .invokevirtual 335, 3), (44, .aload_n 0, 1), (45, .getfield 52, 3), (48, .iload_n 1, 1), (49, .iconst 4, 1), (50, .imul, 1), (51, .aload_n 0, 1), (52, .getfield 16, 3), (55, .iconst 0, 1), (56, .iconst 4, 1), (57, .invokestatic 338, 3), (60, .aload_n 0, 1), (61, .getfield 44, 3), (64, .iconst 0, 1), (65, .putfield 344, 3), (68, .aload_n 0, 1), (69, .invokevirtual 222, 3), (72, .aload_n 0, 1), (73, .iconst 0, 1), (74, .invokevirtual 91, 3), (77, .ireturn, 1)] = true := by decide +kernel
theorem cw_Sp_back {k : Cd} (h1 : kSp_back.2.2.2.2.1 + 1 ≤ k.2.2.2.2.1) (h2 : 8 + (kSp_back.2.2.1 + 11) + kSp_back.2.2.2.2.2 ≤ k.2.2.2.2.2) : Cw k kSp_back 1 := ⟨wcode_X10_back, wini_SplitProgram, ⟨by decide, by decide, by decide +kernel⟩, h1, h2⟩
def Sp_back_j9 (v0 : Nat) (v1 : Int32) (h : AHeap) : Option (Int32 × AHeap) :=
  (chk h v0 10).bind fun _ => bnd2 (Sp_refuse v0 (-1) h) fun x2 h1 => some (x2, h1)
theorem Sp_back_j9_J {E : JE} {l : Launch} {G : GX} {v : Int32} {h' : AHeap} (ok : JOK E l G kSp_back 0 0 (some (.int v)) h') (v0 : Nat) (v1 : Int32) (h : AHeap) : J E kSp_back (Sp_back_j9 v0 v1 h) (fun z => z = (v, h')) 9 [some (.ref v0), some (.int v1)] [] h 0 0 := by
  unfold Sp_back_j9
  refine J_aload_n (pc' := 10) ok (dOf dX10_back 5 rfl) rfl rfl rfl ?_
  refine J_iconst (v := (-1)) (pc' := 11) ok (dOf dX10_back 6 rfl) rfl (by decide) ?_
  refine J_callVi (k2 := kSp_refuse) (ci := 10) (T := TX10) (N := 14) (as := [.int (-1)]) (pc' := 14) ok (dOf dX10_back 7 rfl) rfl (cw_Sp_refuse (by decide) (by decide)) wml_X10_81 winst_X10_refuse wsel_X10_refuse rfl ⟨Nat.le_refl 0, Nat.le_refl 0⟩ (Nat.le_of_ble_eq_true rfl) rfl (fun _ _ hf => t_Sp_refuse hf) (fun x2 h1 => ?_)
  exact J_ireturn ok (dOf dX10_back 8 rfl) rfl (Eq.refl 0) (Nat.le_refl 0)
def Sp_back (v0 : Nat) (v1 : Int32) (h : AHeap) : Option (Int32 × AHeap) :=
  (if v1 < 0 then Sp_back_j9 v0 v1 h else (if v1 < 2 then (gfR h v0 10 8).bind fun a3 => (ald 1 h a3 v1).bind fun x4 => (if ¬ x4 = 0 then (gfR h v0 10 0).bind fun a5 => (gfR h v0 10 6).bind fun a6 => (aldR h a6 v1).bind fun a7 => (chk h a5 8).bind fun _ => bnd2 (Stat_copyFrom a5 a7 h) fun _ h8 => (gfR h8 v0 10 7).bind fun a9 => (gfR h8 v0 10 1).bind fun a10 => (acp h8 a9 (v1 * 4) a10 0 4).bind fun h11 => (gfR h11 v0 10 5).bind fun a12 => (pfV h11 a12 5 2 (.int 0)).bind fun h13 => (chk h13 v0 10).bind fun _ => bnd2 (Sp_forgetDerived v0 h13) fun _ h14 => (chk h14 v0 10).bind fun _ => bnd2 (Sp_accept v0 0 h14) fun x16 h15 => some (x16, h15) else (chk h v0 10).bind fun _ => bnd2 (Sp_refuse v0 (-2) h) fun x18 h17 => some (x18, h17)) else Sp_back_j9 v0 v1 h))
theorem t_Sp_back {l : Launch} {G : GX} {v0 : Nat} {v1 : Int32} {h : AHeap} {v : Int32} {h1 : AHeap} (hf : Sp_back v0 v1 h = some (v, h1)) : CT l G kSp_back 0 0 [.ref v0, .int v1] h (some (.int v)) h1 := by
  refine CT_of (ls := [some (.ref v0), some (.int v1)]) (Z := fun z => z = (v, h1)) (by decide +kernel) (Nat.le_of_ble_eq_true rfl) hf rfl ⟨rfl, rfl, trivial⟩ (fun E ok => ?_)
  unfold Sp_back
  refine J_iload_n (pc' := 1) ok (dOf dX10_back 0 rfl) rfl rfl rfl ?_
  refine J_if_lt (tgt := 9) (pc' := 4) ok (dOf dX10_back 1 rfl) rfl (by decide) ?_ ?_
  · exact Sp_back_j9_J ok v0 v1 h
  · refine J_iload_n (pc' := 5) ok (dOf dX10_back 2 rfl) rfl rfl rfl ?_
    refine J_iconst (v := 2) (pc' := 6) ok (dOf dX10_back 3 rfl) rfl (by decide) ?_
    refine J_icmp_lt (tgt := 15) (pc' := 9) ok (dOf dX10_back 4 rfl) rfl (by decide) ?_ ?_
    · refine J_aload_n (pc' := 16) ok (dOf dX10_back 9 rfl) rfl rfl rfl ?_
      refine J_getR (ci := 10) (kf := 8) (C := RX10) (T := TX10) (N := 14) (pc' := 19) ok (dOf dX10_back 10 rfl) rfl (by decide) rfl (by decide) win_10 wfl_X10_55 (fun a3 => ?_)
      refine J_iload_n (pc' := 20) ok (dOf dX10_back 11 rfl) rfl rfl rfl ?_
      refine J_zald (pc' := 21) ok (dOf dX10_back 12 rfl) rfl (fun x4 => ?_)
      refine J_if_ne (tgt := 31) (pc' := 24) ok (dOf dX10_back 13 rfl) rfl (by decide) ?_ ?_
      · refine J_aload_n (pc' := 32) ok (dOf dX10_back 18 rfl) rfl rfl rfl ?_
        refine J_getR (ci := 10) (kf := 0) (C := RX10) (T := TX10) (N := 14) (pc' := 35) ok (dOf dX10_back 19 rfl) rfl (by decide) rfl (by decide) win_10 wfl_X10_10 (fun a5 => ?_)
        refine J_aload_n (pc' := 36) ok (dOf dX10_back 20 rfl) rfl rfl rfl ?_
        refine J_getR (ci := 10) (kf := 6) (C := RX10) (T := TX10) (N := 14) (pc' := 39) ok (dOf dX10_back 21 rfl) rfl (by decide) rfl (by decide) win_10 wfl_X10_48 (fun a6 => ?_)
        refine J_iload_n (pc' := 40) ok (dOf dX10_back 22 rfl) rfl rfl rfl ?_
        refine J_aldR (pc' := 41) ok (dOf dX10_back 23 rfl) rfl (fun a7 => ?_)
        refine J_callVv (k2 := kStat_copyFrom) (ci := 8) (T := TX8) (N := 3) (as := [.ref a7]) (pc' := 44) ok (dOf dX10_back 24 rfl) rfl (cw_Stat_copyFrom (by decide) (by decide)) wml_X10_335 winst_X8_copyFrom wsel_X8_copyFrom rfl ⟨Nat.le_refl 0, Nat.le_refl 0⟩ (Nat.le_of_ble_eq_true rfl) rfl (fun _ _ hf => t_Stat_copyFrom hf) (fun _ h8 => ?_)
        refine J_aload_n (pc' := 45) ok (dOf dX10_back 25 rfl) rfl rfl rfl ?_
        refine J_getR (ci := 10) (kf := 7) (C := RX10) (T := TX10) (N := 14) (pc' := 48) ok (dOf dX10_back 26 rfl) rfl (by decide) rfl (by decide) win_10 wfl_X10_52 (fun a9 => ?_)
        refine J_iload_n (pc' := 49) ok (dOf dX10_back 27 rfl) rfl rfl rfl ?_
        refine J_iconst (v := 4) (pc' := 50) ok (dOf dX10_back 28 rfl) rfl (by decide) ?_
        refine J_imul (pc' := 51) ok (dOf dX10_back 29 rfl) rfl ?_
        refine J_aload_n (pc' := 52) ok (dOf dX10_back 30 rfl) rfl rfl rfl ?_
        refine J_getR (ci := 10) (kf := 1) (C := RX10) (T := TX10) (N := 14) (pc' := 55) ok (dOf dX10_back 31 rfl) rfl (by decide) rfl (by decide) win_10 wfl_X10_16 (fun a10 => ?_)
        refine J_iconst (v := 0) (pc' := 56) ok (dOf dX10_back 32 rfl) rfl (by decide) ?_
        refine J_iconst (v := 4) (pc' := 57) ok (dOf dX10_back 33 rfl) rfl (by decide) ?_
        refine J_acp (pc' := 60) ok (dOf dX10_back 34 rfl) rfl wml_X10_338 wnat_java_lang_System_arraycopy wstat_java_lang_System_arraycopy wini_java_lang_System (Nat.le_of_ble_eq_true rfl) (Nat.le_of_ble_eq_true rfl) (fun h11 _ => ?_)
        refine J_aload_n (pc' := 61) ok (dOf dX10_back 35 rfl) rfl rfl rfl ?_
        refine J_getR (ci := 10) (kf := 5) (C := RX10) (T := TX10) (N := 14) (pc' := 64) ok (dOf dX10_back 36 rfl) rfl (by decide) rfl (by decide) win_10 wfl_X10_44 (fun a12 => ?_)
        refine J_iconst (v := 0) (pc' := 65) ok (dOf dX10_back 37 rfl) rfl (by decide) ?_
        refine J_putI (ci := 5) (kf := 2) (C := RX5) (T := TX5) (N := 4) (pc' := 68) ok tyX5 (dOf dX10_back 38 rfl) rfl rfl (by decide) win_5 tyX5_ok nmX5 rfl rfl wfl_X10_344 (fun h13 _ => ?_)
        refine J_aload_n (pc' := 69) ok (dOf dX10_back 39 rfl) rfl rfl rfl ?_
        refine J_callVv (k2 := kSp_forgetDerived) (ci := 10) (T := TX10) (N := 14) (as := []) (pc' := 72) ok (dOf dX10_back 40 rfl) rfl (cw_Sp_forgetDerived (by decide) (by decide)) wml_X10_222 winst_X10_forgetDerived wsel_X10_forgetDerived rfl ⟨Nat.le_refl 0, Nat.le_refl 0⟩ (Nat.le_of_ble_eq_true rfl) rfl (fun _ _ hf => t_Sp_forgetDerived hf) (fun _ h14 => ?_)
        refine J_aload_n (pc' := 73) ok (dOf dX10_back 41 rfl) rfl rfl rfl ?_
        refine J_iconst (v := 0) (pc' := 74) ok (dOf dX10_back 42 rfl) rfl (by decide) ?_
        refine J_callVi (k2 := kSp_accept) (ci := 10) (T := TX10) (N := 14) (as := [.int 0]) (pc' := 77) ok (dOf dX10_back 43 rfl) rfl (cw_Sp_accept (by decide) (by decide)) wml_X10_91 winst_X10_accept wsel_X10_accept rfl ⟨Nat.le_refl 0, Nat.le_refl 0⟩ (Nat.le_of_ble_eq_true rfl) rfl (fun _ _ hf => t_Sp_accept hf) (fun x16 h15 => ?_)
        exact J_ireturn ok (dOf dX10_back 44 rfl) rfl (Eq.refl 0) (Nat.le_refl 0)
      · refine J_aload_n (pc' := 25) ok (dOf dX10_back 14 rfl) rfl rfl rfl ?_
        refine J_bipush (v := (-2)) (pc' := 27) ok (dOf dX10_back 15 rfl) rfl (by decide) ?_
        refine J_callVi (k2 := kSp_refuse) (ci := 10) (T := TX10) (N := 14) (as := [.int (-2)]) (pc' := 30) ok (dOf dX10_back 16 rfl) rfl (cw_Sp_refuse (by decide) (by decide)) wml_X10_81 winst_X10_refuse wsel_X10_refuse rfl ⟨Nat.le_refl 0, Nat.le_refl 0⟩ (Nat.le_of_ble_eq_true rfl) rfl (fun _ _ hf => t_Sp_refuse hf) (fun x18 h17 => ?_)
        exact J_ireturn ok (dOf dX10_back 17 rfl) rfl (Eq.refl 0) (Nat.le_refl 0)
    · exact Sp_back_j9_J ok v0 v1 h
-- X6_countRoads
abbrev kProg_countRoads : Cd := (yX6_countRoads, cX6_countRoads, 3, (some .int), 0, 0)
theorem dX6_countRoads : dcheck cX6_countRoads [(0, .iconst 0, 1), (1, .istore_n 1, 1), (2, .iconst 0, 1), (3, .istore_n 2, 1), (4, .iload_n 2, 1), (5, .bipush 24, 2), (7, .if_icmp .ge 22, 3), (10, .aload_n 0, 1), (11, .getfield 21, 3), (14, .iload_n 2, 1), (15, .iaload, 1), (16, .iconst (-1), 1), (17, .if_icmp .eq 6, 3), (20, .iinc 1 1, 3), (23, .iinc 2 1, 3), (26, .goto (-22), 3), (29, .iload_n 1, 1), (30, .ireturn, 1)] = true := by decide +kernel
theorem cw_Prog_countRoads {k : Cd} (h1 : kProg_countRoads.2.2.2.2.1 + 1 ≤ k.2.2.2.2.1) (h2 : 8 + (kProg_countRoads.2.2.1 + 11) + kProg_countRoads.2.2.2.2.2 ≤ k.2.2.2.2.2) : Cw k kProg_countRoads 0 := ⟨wcode_X6_countRoads, wini_SplitProgram_Program, ⟨by decide, by decide, by decide +kernel⟩, h1, h2⟩
def Prog_countRoads_j23 (v0 : Nat) (v1 : Int32) (v2 : Int32) (h : AHeap) : Option ((Int32 × Int32) ⊕ ((Int32 × Int32))) :=
  some (Sum.inl (v1, v2 + 1))
theorem Prog_countRoads_j23_J {E : JE} {l : Launch} {G : GX} {r : Option Value} {h' : AHeap} (ok : JOK E l G kProg_countRoads 0 0 r h') (v0 : Nat) (v1 : Int32) (v2 : Int32) (h : AHeap) {Y : (Int32 × Int32) ⊕ ((Int32 × Int32)) → Prop} (k1 : ∀ s' : Int32 × Int32, Y (.inl s') → JW E kProg_countRoads 4 [some (.ref v0), some (.int s'.1), some (.int s'.2)] [] h 0 0) (kx29 : ∀ q : Int32 × Int32, Y (.inr q) → JW E kProg_countRoads 29 [some (.ref v0), some (.int q.1), some (.int q.2)] [] h 0 0) : J E kProg_countRoads (Prog_countRoads_j23 v0 v1 v2 h) Y 23 [some (.ref v0), some (.int v1), some (.int v2)] [] h 0 0 := by
  unfold Prog_countRoads_j23
  refine J_iinc (v := v2 + 1) (ls' := [some (.ref v0), some (.int v1), some (.int (v2 + 1))]) (pc' := 26) ok (dOf dX6_countRoads 14 rfl) rfl rfl (by rfl) (Nat.le_of_ble_eq_true rfl) rfl rfl ?_
  refine J_goto (tgt := 4) ok (dOf dX6_countRoads 15 rfl) (by decide) ?_
  exact J_fin (k1 (v1, v2 + 1))
def Prog_countRoads_b4 (v0 : Nat) (h : AHeap) (s : Int32 × Int32) : Option ((Int32 × Int32) ⊕ ((Int32 × Int32))) :=
  (if 24 ≤ s.2 then some (Sum.inr (s.1, s.2)) else (gfR h v0 6 6).bind fun a1 => (ald 0 h a1 s.2).bind fun x2 => (if x2 = (-1) then Prog_countRoads_j23 v0 s.1 s.2 h else Prog_countRoads_j23 v0 (s.1 + 1) s.2 h))
theorem Prog_countRoads_b4_J {E : JE} {l : Launch} {G : GX} {r : Option Value} {h' : AHeap} (ok : JOK E l G kProg_countRoads 0 0 r h') (v0 : Nat) (h : AHeap) {Y : (Int32 × Int32) ⊕ ((Int32 × Int32)) → Prop} (k1 : ∀ s' : Int32 × Int32, Y (.inl s') → JW E kProg_countRoads 4 [some (.ref v0), some (.int s'.1), some (.int s'.2)] [] h 0 0) (kx29 : ∀ q : Int32 × Int32, Y (.inr q) → JW E kProg_countRoads 29 [some (.ref v0), some (.int q.1), some (.int q.2)] [] h 0 0) (s : Int32 × Int32) : J E kProg_countRoads (Prog_countRoads_b4 v0 h s) Y 4 [some (.ref v0), some (.int s.1), some (.int s.2)] [] h 0 0 := by
  unfold Prog_countRoads_b4
  refine J_iload_n (pc' := 5) ok (dOf dX6_countRoads 4 rfl) rfl rfl rfl ?_
  refine J_bipush (v := 24) (pc' := 7) ok (dOf dX6_countRoads 5 rfl) rfl (by decide) ?_
  refine J_icmp_ge (tgt := 29) (pc' := 10) ok (dOf dX6_countRoads 6 rfl) rfl (by decide) ?_ ?_
  · exact J_fin (kx29 (s.1, s.2))
  · refine J_aload_n (pc' := 11) ok (dOf dX6_countRoads 7 rfl) rfl rfl rfl ?_
    refine J_getR (ci := 6) (kf := 6) (C := RX6) (T := TX6) (N := 9) (pc' := 14) ok (dOf dX6_countRoads 8 rfl) rfl (by decide) rfl (by decide) win_6 wfl_X6_21 (fun a1 => ?_)
    refine J_iload_n (pc' := 15) ok (dOf dX6_countRoads 9 rfl) rfl rfl rfl ?_
    refine J_iald (pc' := 16) ok (dOf dX6_countRoads 10 rfl) rfl (fun x2 => ?_)
    refine J_iconst (v := (-1)) (pc' := 17) ok (dOf dX6_countRoads 11 rfl) rfl (by decide) ?_
    refine J_icmp_eq (tgt := 23) (pc' := 20) ok (dOf dX6_countRoads 12 rfl) rfl (by decide) ?_ ?_
    · exact Prog_countRoads_j23_J ok v0 s.1 s.2 h k1 kx29
    · refine J_iinc (v := s.1 + 1) (ls' := [some (.ref v0), some (.int (s.1 + 1)), some (.int s.2)]) (pc' := 23) ok (dOf dX6_countRoads 13 rfl) rfl rfl (by rfl) (Nat.le_of_ble_eq_true rfl) rfl rfl ?_
      exact Prog_countRoads_j23_J ok v0 (s.1 + 1) s.2 h k1 kx29
def Prog_countRoads_j29 (v0 : Nat) (v1 : Int32) (v2 : Int32) (h : AHeap) : Option (Int32 × AHeap) :=
  some (v1, h)
theorem Prog_countRoads_j29_J {E : JE} {l : Launch} {G : GX} {v : Int32} {h' : AHeap} (ok : JOK E l G kProg_countRoads 0 0 (some (.int v)) h') (v0 : Nat) (v1 : Int32) (v2 : Int32) (h : AHeap) : J E kProg_countRoads (Prog_countRoads_j29 v0 v1 v2 h) (fun z => z = (v, h')) 29 [some (.ref v0), some (.int v1), some (.int v2)] [] h 0 0 := by
  unfold Prog_countRoads_j29
  refine J_iload_n (pc' := 30) ok (dOf dX6_countRoads 16 rfl) rfl rfl rfl ?_
  exact J_ireturn ok (dOf dX6_countRoads 17 rfl) rfl (Eq.refl 0) (Nat.le_refl 0)
def Prog_countRoads (v0 : Nat) (h : AHeap) : Option (Int32 × AHeap) :=
  (iter (Prog_countRoads_b4 v0 h) Lmax (0, 0)).bind (fun (q4 : Int32 × Int32) => Prog_countRoads_j29 v0 q4.1 q4.2 h)
theorem t_Prog_countRoads {l : Launch} {G : GX} {v0 : Nat} {h : AHeap} {v : Int32} {h1 : AHeap} (hf : Prog_countRoads v0 h = some (v, h1)) : CT l G kProg_countRoads 0 0 [.ref v0] h (some (.int v)) h1 := by
  refine CT_of (ls := [some (.ref v0), none, none]) (Z := fun z => z = (v, h1)) (by decide +kernel) (Nat.le_of_ble_eq_true rfl) hf rfl ⟨rfl, trivial⟩ (fun E ok => ?_)
  unfold Prog_countRoads
  refine J_iconst (v := 0) (pc' := 1) ok (dOf dX6_countRoads 0 rfl) rfl (by decide) ?_
  refine J_istore_n (ls' := [some (.ref v0), some (.int 0), none]) (pc' := 2) ok (dOf dX6_countRoads 1 rfl) rfl rfl (Nat.le_of_ble_eq_true rfl) rfl rfl ?_
  refine J_iconst (v := 0) (pc' := 3) ok (dOf dX6_countRoads 2 rfl) rfl (by decide) ?_
  refine J_istore_n (ls' := [some (.ref v0), some (.int 0), some (.int 0)]) (pc' := 4) ok (dOf dX6_countRoads 3 rfl) rfl rfl (Nat.le_of_ble_eq_true rfl) rfl rfl ?_
  refine J_iter (lf := fun z4 => [some (.ref v0), some (.int z4.1), some (.int z4.2)]) (sf := fun _ => []) (hf := fun z4 => h) (px := (fun (q4 : Int32 × Int32) => 29)) (lx := (fun (q4 : Int32 × Int32) => [some (.ref v0), some (.int q4.1), some (.int q4.2)])) (sx := (fun (q4 : Int32 × Int32) => [])) (hx := (fun (q4 : Int32 × Int32) => h)) (fun Y2 z4 m1 m2 => Prog_countRoads_b4_J ok v0 h m1 m2 z4) (fun q4 => ?_) Lmax _
  exact Prog_countRoads_j29_J ok v0 q4.1 q4.2 h
