-- X6_countPlans
abbrev kProg_countPlans : Cd := (yX6_countPlans, cX6_countPlans, 3, (some .int), 0, 0)
theorem dX6_countPlans : dcheck cX6_countPlans [(0, .iconst 1, 1), (1, .istore_n 1, 1), (2, .iconst 0, 1), (3, .istore_n 2, 1), (4, .iload_n 2, 1), (5, .aload_n 0, 1), (6, .getfield 36, 3), (9, .if_icmp .ge 20, 3), (12, .iload_n 1, 1), (13, .aload_n 0, 1), (14, .getfield 18, 3), (17, .iload_n 2, 1), (18, .iaload, 1), (19, .iconst 1, 1), (20, .iadd, 1), (21, .imul, 1), (22, .istore_n 1, 1), (23, .iinc 2 1, 3), (26, .goto (-22), 3), (29, .iload_n 1, 1), (30, .ireturn, 1)] = true := by decide +kernel
theorem cw_Prog_countPlans {k : Cd} (h1 : kProg_countPlans.2.2.2.2.1 + 1 ≤ k.2.2.2.2.1) (h2 : 8 + (kProg_countPlans.2.2.1 + 11) + kProg_countPlans.2.2.2.2.2 ≤ k.2.2.2.2.2) : Cw k kProg_countPlans 0 := ⟨wcode_X6_countPlans, wini_SplitProgram_Program, ⟨by decide, by decide, by decide +kernel⟩, h1, h2⟩
def Prog_countPlans_b4 (v0 : Nat) (h : AHeap) (s : Int32 × Int32) : Option ((Int32 × Int32) ⊕ ((Int32 × Int32))) :=
  (gfI h v0 6 0).bind fun x1 => (if x1 ≤ s.2 then some (Sum.inr (s.1, s.2)) else (gfR h v0 6 5).bind fun a2 => (ald 0 h a2 s.2).bind fun x3 => some (Sum.inl (s.1 * (x3 + 1), s.2 + 1)))
theorem Prog_countPlans_b4_J {E : JE} {l : Launch} {G : GX} {r : Option Value} {h' : AHeap} (ok : JOK E l G kProg_countPlans 0 0 r h') (v0 : Nat) (h : AHeap) {Y : (Int32 × Int32) ⊕ ((Int32 × Int32)) → Prop} (k1 : ∀ s' : Int32 × Int32, Y (.inl s') → JW E kProg_countPlans 4 [some (.ref v0), some (.int s'.1), some (.int s'.2)] [] h 0 0) (kx29 : ∀ q : Int32 × Int32, Y (.inr q) → JW E kProg_countPlans 29 [some (.ref v0), some (.int q.1), some (.int q.2)] [] h 0 0) (s : Int32 × Int32) : J E kProg_countPlans (Prog_countPlans_b4 v0 h s) Y 4 [some (.ref v0), some (.int s.1), some (.int s.2)] [] h 0 0 := by
  unfold Prog_countPlans_b4
  refine J_iload_n (pc' := 5) ok (dOf dX6_countPlans 4 rfl) rfl rfl rfl ?_
  refine J_aload_n (pc' := 6) ok (dOf dX6_countPlans 5 rfl) rfl rfl rfl ?_
  refine J_getI (ci := 6) (kf := 0) (C := RX6) (T := TX6) (N := 9) (pc' := 9) ok (dOf dX6_countPlans 6 rfl) rfl (by decide) rfl (by decide) win_6 wfl_X6_36 (fun x1 => ?_)
  refine J_icmp_ge (tgt := 29) (pc' := 12) ok (dOf dX6_countPlans 7 rfl) rfl (by decide) ?_ ?_
  · exact J_fin (kx29 (s.1, s.2))
  · refine J_iload_n (pc' := 13) ok (dOf dX6_countPlans 8 rfl) rfl rfl rfl ?_
    refine J_aload_n (pc' := 14) ok (dOf dX6_countPlans 9 rfl) rfl rfl rfl ?_
    refine J_getR (ci := 6) (kf := 5) (C := RX6) (T := TX6) (N := 9) (pc' := 17) ok (dOf dX6_countPlans 10 rfl) rfl (by decide) rfl (by decide) win_6 wfl_X6_18 (fun a2 => ?_)
    refine J_iload_n (pc' := 18) ok (dOf dX6_countPlans 11 rfl) rfl rfl rfl ?_
    refine J_iald (pc' := 19) ok (dOf dX6_countPlans 12 rfl) rfl (fun x3 => ?_)
    refine J_iconst (v := 1) (pc' := 20) ok (dOf dX6_countPlans 13 rfl) rfl (by decide) ?_
    refine J_iadd (pc' := 21) ok (dOf dX6_countPlans 14 rfl) rfl ?_
    refine J_imul (pc' := 22) ok (dOf dX6_countPlans 15 rfl) rfl ?_
    refine J_istore_n (ls' := [some (.ref v0), some (.int (s.1 * (x3 + 1))), some (.int s.2)]) (pc' := 23) ok (dOf dX6_countPlans 16 rfl) rfl rfl (Nat.le_of_ble_eq_true rfl) rfl rfl ?_
    refine J_iinc (v := s.2 + 1) (ls' := [some (.ref v0), some (.int (s.1 * (x3 + 1))), some (.int (s.2 + 1))]) (pc' := 26) ok (dOf dX6_countPlans 17 rfl) rfl rfl (by rfl) (Nat.le_of_ble_eq_true rfl) rfl rfl ?_
    refine J_goto (tgt := 4) ok (dOf dX6_countPlans 18 rfl) (by decide) ?_
    exact J_fin (k1 (s.1 * (x3 + 1), s.2 + 1))
def Prog_countPlans_j29 (v0 : Nat) (v1 : Int32) (v2 : Int32) (h : AHeap) : Option (Int32 × AHeap) :=
  some (v1, h)
theorem Prog_countPlans_j29_J {E : JE} {l : Launch} {G : GX} {v : Int32} {h' : AHeap} (ok : JOK E l G kProg_countPlans 0 0 (some (.int v)) h') (v0 : Nat) (v1 : Int32) (v2 : Int32) (h : AHeap) : J E kProg_countPlans (Prog_countPlans_j29 v0 v1 v2 h) (fun z => z = (v, h')) 29 [some (.ref v0), some (.int v1), some (.int v2)] [] h 0 0 := by
  unfold Prog_countPlans_j29
  refine J_iload_n (pc' := 30) ok (dOf dX6_countPlans 19 rfl) rfl rfl rfl ?_
  exact J_ireturn ok (dOf dX6_countPlans 20 rfl) rfl (Eq.refl 0) (Nat.le_refl 0)
def Prog_countPlans (v0 : Nat) (h : AHeap) : Option (Int32 × AHeap) :=
  (iter (Prog_countPlans_b4 v0 h) Lmax (1, 0)).bind (fun (q4 : Int32 × Int32) => Prog_countPlans_j29 v0 q4.1 q4.2 h)
theorem t_Prog_countPlans {l : Launch} {G : GX} {v0 : Nat} {h : AHeap} {v : Int32} {h1 : AHeap} (hf : Prog_countPlans v0 h = some (v, h1)) : CT l G kProg_countPlans 0 0 [.ref v0] h (some (.int v)) h1 := by
  refine CT_of (ls := [some (.ref v0), none, none]) (Z := fun z => z = (v, h1)) (by decide +kernel) (Nat.le_of_ble_eq_true rfl) hf rfl ⟨rfl, trivial⟩ (fun E ok => ?_)
  unfold Prog_countPlans
  refine J_iconst (v := 1) (pc' := 1) ok (dOf dX6_countPlans 0 rfl) rfl (by decide) ?_
  refine J_istore_n (ls' := [some (.ref v0), some (.int 1), none]) (pc' := 2) ok (dOf dX6_countPlans 1 rfl) rfl rfl (Nat.le_of_ble_eq_true rfl) rfl rfl ?_
  refine J_iconst (v := 0) (pc' := 3) ok (dOf dX6_countPlans 2 rfl) rfl (by decide) ?_
  refine J_istore_n (ls' := [some (.ref v0), some (.int 1), some (.int 0)]) (pc' := 4) ok (dOf dX6_countPlans 3 rfl) rfl rfl (Nat.le_of_ble_eq_true rfl) rfl rfl ?_
  refine J_iter (lf := fun z4 => [some (.ref v0), some (.int z4.1), some (.int z4.2)]) (sf := fun _ => []) (hf := fun z4 => h) (px := (fun (q4 : Int32 × Int32) => 29)) (lx := (fun (q4 : Int32 × Int32) => [some (.ref v0), some (.int q4.1), some (.int q4.2)])) (sx := (fun (q4 : Int32 × Int32) => [])) (hx := (fun (q4 : Int32 × Int32) => h)) (fun Y2 z4 m1 m2 => Prog_countPlans_b4_J ok v0 h m1 m2 z4) (fun q4 => ?_) Lmax _
  exact Prog_countPlans_j29_J ok v0 q4.1 q4.2 h
-- X10_count
abbrev kSp_count : Cd := (yX10_count, cX10_count, 3, (some .int), 1, 22)
theorem dX10_count : dcheck cX10_count [(0, .aload_n 0, 1), (1, .getfield 10, 3), (4, .getfield 113, 3), (7, .astore_n 2, 1), (8, .iload_n 1, 1), (9, .bipush 7, 2), (11, .if_icmp .lt 19, 3), (14, .iload_n 1, 1), (15, .bipush 13, 2), (17, .if_icmp .ge 13, 3), (20, .aload_n 0, 1), (21, .getfield 78, 3), (24, .iload_n 1, 1), (25, .bipush 7, 2), (27, .isub, 1), (28, .iaload, 1), (29, .ireturn, 1), (30, .iload_n 1, 1), (31, .bipush 13, 2), (33, .if_icmp .lt 19, 3), (36, .iload_n 1, 1), (37, .bipush 17, 2), (39, .if_icmp .ge 13, 3), (42, .aload_n 0, 1), (43, .getfield 16, 3), (46, .iload_n 1, 1), (47, .bipush 13, 2), (49, .isub, 1), (50, .iaload, 1), (51, .ireturn, 1), (52, .iload_n 1, 1), (53, .tableswitch 84 0 6 #[43, 48, 53, 58, 63, 68, 76], 43), (96, .aload_n 2, 1), (97, .getfield 145, 3), (100, .ireturn, 1), (101, .aload_n 2, 1), (102, .getfield 152, 3), (105, .ireturn, 1), (106, .aload_n 2, 1), (107, .getfield 165, 3), (110, .ireturn, 1), (111, .aload_n 2, 1), (112, .invokevirtual 345, 3), (115, .ireturn, 1), (116, .aload_n 2, 1), (117, .invokevirtual 348, 3), (120, .ireturn, 1), (121, .aload_n 0, 1), (122, .getfield 44, 3), (125, .getfield 344, 3), (128, .ireturn, 1), (129, .aload_n 0, 1), (130, .getfield 30, 3), (133, .getfield 101, 3), (136, .ireturn, 1), (137, .iconst (-1), 1), (138, .ireturn, 1)] = true := by decide +kernel
theorem cw_Sp_count {k : Cd} (h1 : kSp_count.2.2.2.2.1 + 1 ≤ k.2.2.2.2.1) (h2 : 8 + (kSp_count.2.2.1 + 11) + kSp_count.2.2.2.2.2 ≤ k.2.2.2.2.2) : Cw k kSp_count 1 := ⟨wcode_X10_count, wini_SplitProgram, ⟨by decide, by decide, by decide +kernel⟩, h1, h2⟩
def Sp_count_j52 (v0 : Nat) (v1 : Int32) (v2 : Nat) (h : AHeap) : Option (Int32 × AHeap) :=
  swi v1 0 [(gfI h v2 6 0).bind fun x3 => some (x3, h), (gfI h v2 6 1).bind fun x4 => some (x4, h), (gfI h v2 6 2).bind fun x5 => some (x5, h), (chk h v2 6).bind fun _ => bnd2 (Prog_countRoads v2 h) fun x7 h6 => some (x7, h6), (chk h v2 6).bind fun _ => bnd2 (Prog_countPlans v2 h) fun x9 h8 => some (x9, h8), (gfR h v0 10 5).bind fun a10 => (gfI h a10 5 2).bind fun x11 => some (x11, h), (gfR h v0 10 3).bind fun a12 => (gfI h a12 9 1).bind fun x13 => some (x13, h)] (some ((-1), h))
theorem Sp_count_j52_J {E : JE} {l : Launch} {G : GX} {v : Int32} {h' : AHeap} (ok : JOK E l G kSp_count 0 0 (some (.int v)) h') (v0 : Nat) (v1 : Int32) (v2 : Nat) (h : AHeap) : J E kSp_count (Sp_count_j52 v0 v1 v2 h) (fun z => z = (v, h')) 52 [some (.ref v0), some (.int v1), some (.ref v2)] [] h 0 0 := by
  unfold Sp_count_j52
  refine J_iload_n (pc' := 53) ok (dOf dX10_count 30 rfl) rfl rfl rfl ?_
  refine J_tsw (tgd := 137) ok [96, 101, 106, 111, 116, 121, 129] (dOf dX10_count 31 rfl) rfl rfl (by decide) rfl ?_ (allJ_at _ _ ⟨?_, ?_, ?_, ?_, ?_, ?_, ?_, trivial⟩)
  · refine J_iconst (v := (-1)) (pc' := 138) ok (dOf dX10_count 55 rfl) rfl (by decide) ?_
    exact J_ireturn ok (dOf dX10_count 56 rfl) rfl (Eq.refl 0) (Nat.le_refl 0)
  · refine J_aload_n (pc' := 97) ok (dOf dX10_count 32 rfl) rfl rfl rfl ?_
    refine J_getI (ci := 6) (kf := 0) (C := RX6) (T := TX6) (N := 9) (pc' := 100) ok (dOf dX10_count 33 rfl) rfl (by decide) rfl (by decide) win_6 wfl_X10_145 (fun x3 => ?_)
    exact J_ireturn ok (dOf dX10_count 34 rfl) rfl (Eq.refl 0) (Nat.le_refl 0)
  · refine J_aload_n (pc' := 102) ok (dOf dX10_count 35 rfl) rfl rfl rfl ?_
    refine J_getI (ci := 6) (kf := 1) (C := RX6) (T := TX6) (N := 9) (pc' := 105) ok (dOf dX10_count 36 rfl) rfl (by decide) rfl (by decide) win_6 wfl_X10_152 (fun x4 => ?_)
    exact J_ireturn ok (dOf dX10_count 37 rfl) rfl (Eq.refl 0) (Nat.le_refl 0)
  · refine J_aload_n (pc' := 107) ok (dOf dX10_count 38 rfl) rfl rfl rfl ?_
    refine J_getI (ci := 6) (kf := 2) (C := RX6) (T := TX6) (N := 9) (pc' := 110) ok (dOf dX10_count 39 rfl) rfl (by decide) rfl (by decide) win_6 wfl_X10_165 (fun x5 => ?_)
    exact J_ireturn ok (dOf dX10_count 40 rfl) rfl (Eq.refl 0) (Nat.le_refl 0)
  · refine J_aload_n (pc' := 112) ok (dOf dX10_count 41 rfl) rfl rfl rfl ?_
    refine J_callVi (k2 := kProg_countRoads) (ci := 6) (T := TX6) (N := 9) (as := []) (pc' := 115) ok (dOf dX10_count 42 rfl) rfl (cw_Prog_countRoads (by decide) (by decide)) wml_X10_345 winst_X6_countRoads wsel_X6_countRoads rfl ⟨Nat.le_refl 0, Nat.le_refl 0⟩ (Nat.le_of_ble_eq_true rfl) rfl (fun _ _ hf => t_Prog_countRoads hf) (fun x7 h6 => ?_)
    exact J_ireturn ok (dOf dX10_count 43 rfl) rfl (Eq.refl 0) (Nat.le_refl 0)
  · refine J_aload_n (pc' := 117) ok (dOf dX10_count 44 rfl) rfl rfl rfl ?_
    refine J_callVi (k2 := kProg_countPlans) (ci := 6) (T := TX6) (N := 9) (as := []) (pc' := 120) ok (dOf dX10_count 45 rfl) rfl (cw_Prog_countPlans (by decide) (by decide)) wml_X10_348 winst_X6_countPlans wsel_X6_countPlans rfl ⟨Nat.le_refl 0, Nat.le_refl 0⟩ (Nat.le_of_ble_eq_true rfl) rfl (fun _ _ hf => t_Prog_countPlans hf) (fun x9 h8 => ?_)
    exact J_ireturn ok (dOf dX10_count 46 rfl) rfl (Eq.refl 0) (Nat.le_refl 0)
  · refine J_aload_n (pc' := 122) ok (dOf dX10_count 47 rfl) rfl rfl rfl ?_
    refine J_getR (ci := 10) (kf := 5) (C := RX10) (T := TX10) (N := 14) (pc' := 125) ok (dOf dX10_count 48 rfl) rfl (by decide) rfl (by decide) win_10 wfl_X10_44 (fun a10 => ?_)
    refine J_getI (ci := 5) (kf := 2) (C := RX5) (T := TX5) (N := 4) (pc' := 128) ok (dOf dX10_count 49 rfl) rfl (by decide) rfl (by decide) win_5 wfl_X10_344 (fun x11 => ?_)
    exact J_ireturn ok (dOf dX10_count 50 rfl) rfl (Eq.refl 0) (Nat.le_refl 0)
  · refine J_aload_n (pc' := 130) ok (dOf dX10_count 51 rfl) rfl rfl rfl ?_
    refine J_getR (ci := 10) (kf := 3) (C := RX10) (T := TX10) (N := 14) (pc' := 133) ok (dOf dX10_count 52 rfl) rfl (by decide) rfl (by decide) win_10 wfl_X10_30 (fun a12 => ?_)
    refine J_getI (ci := 9) (kf := 1) (C := RX9) (T := TX9) (N := 6) (pc' := 136) ok (dOf dX10_count 53 rfl) rfl (by decide) rfl (by decide) win_9 wfl_X10_101 (fun x13 => ?_)
    exact J_ireturn ok (dOf dX10_count 54 rfl) rfl (Eq.refl 0) (Nat.le_refl 0)
def Sp_count_j30 (v0 : Nat) (v1 : Int32) (v2 : Nat) (h : AHeap) : Option (Int32 × AHeap) :=
  (if v1 < 13 then Sp_count_j52 v0 v1 v2 h else (if 17 ≤ v1 then Sp_count_j52 v0 v1 v2 h else (gfR h v0 10 1).bind fun a14 => (ald 0 h a14 (v1 - 13)).bind fun x15 => some (x15, h)))
theorem Sp_count_j30_J {E : JE} {l : Launch} {G : GX} {v : Int32} {h' : AHeap} (ok : JOK E l G kSp_count 0 0 (some (.int v)) h') (v0 : Nat) (v1 : Int32) (v2 : Nat) (h : AHeap) : J E kSp_count (Sp_count_j30 v0 v1 v2 h) (fun z => z = (v, h')) 30 [some (.ref v0), some (.int v1), some (.ref v2)] [] h 0 0 := by
  unfold Sp_count_j30
  refine J_iload_n (pc' := 31) ok (dOf dX10_count 17 rfl) rfl rfl rfl ?_
  refine J_bipush (v := 13) (pc' := 33) ok (dOf dX10_count 18 rfl) rfl (by decide) ?_
  refine J_icmp_lt (tgt := 52) (pc' := 36) ok (dOf dX10_count 19 rfl) rfl (by decide) ?_ ?_
  · exact Sp_count_j52_J ok v0 v1 v2 h
  · refine J_iload_n (pc' := 37) ok (dOf dX10_count 20 rfl) rfl rfl rfl ?_
    refine J_bipush (v := 17) (pc' := 39) ok (dOf dX10_count 21 rfl) rfl (by decide) ?_
    refine J_icmp_ge (tgt := 52) (pc' := 42) ok (dOf dX10_count 22 rfl) rfl (by decide) ?_ ?_
    · exact Sp_count_j52_J ok v0 v1 v2 h
    · refine J_aload_n (pc' := 43) ok (dOf dX10_count 23 rfl) rfl rfl rfl ?_
      refine J_getR (ci := 10) (kf := 1) (C := RX10) (T := TX10) (N := 14) (pc' := 46) ok (dOf dX10_count 24 rfl) rfl (by decide) rfl (by decide) win_10 wfl_X10_16 (fun a14 => ?_)
      refine J_iload_n (pc' := 47) ok (dOf dX10_count 25 rfl) rfl rfl rfl ?_
      refine J_bipush (v := 13) (pc' := 49) ok (dOf dX10_count 26 rfl) rfl (by decide) ?_
      refine J_isub (pc' := 50) ok (dOf dX10_count 27 rfl) rfl ?_
      refine J_iald (pc' := 51) ok (dOf dX10_count 28 rfl) rfl (fun x15 => ?_)
      exact J_ireturn ok (dOf dX10_count 29 rfl) rfl (Eq.refl 0) (Nat.le_refl 0)
def Sp_count (v0 : Nat) (v1 : Int32) (h : AHeap) : Option (Int32 × AHeap) :=
  (gfR h v0 10 0).bind fun a1 => (gfR h a1 8 0).bind fun a2 => (if v1 < 7 then Sp_count_j30 v0 v1 a2 h else (if 13 ≤ v1 then Sp_count_j30 v0 v1 a2 h else (gfR h v0 10 12).bind fun a16 => (ald 0 h a16 (v1 - 7)).bind fun x17 => some (x17, h)))
theorem t_Sp_count {l : Launch} {G : GX} {v0 : Nat} {v1 : Int32} {h : AHeap} {v : Int32} {h1 : AHeap} (hf : Sp_count v0 v1 h = some (v, h1)) : CT l G kSp_count 0 0 [.ref v0, .int v1] h (some (.int v)) h1 := by
  refine CT_of (ls := [some (.ref v0), some (.int v1), none]) (Z := fun z => z = (v, h1)) (by decide +kernel) (Nat.le_of_ble_eq_true rfl) hf rfl ⟨rfl, rfl, trivial⟩ (fun E ok => ?_)
  unfold Sp_count
  refine J_aload_n (pc' := 1) ok (dOf dX10_count 0 rfl) rfl rfl rfl ?_
  refine J_getR (ci := 10) (kf := 0) (C := RX10) (T := TX10) (N := 14) (pc' := 4) ok (dOf dX10_count 1 rfl) rfl (by decide) rfl (by decide) win_10 wfl_X10_10 (fun a1 => ?_)
  refine J_getR (ci := 8) (kf := 0) (C := RX8) (T := TX8) (N := 3) (pc' := 7) ok (dOf dX10_count 2 rfl) rfl (by decide) rfl (by decide) win_8 wfl_X10_113 (fun a2 => ?_)
  refine J_astore_n (ls' := [some (.ref v0), some (.int v1), some (.ref a2)]) (pc' := 8) ok (dOf dX10_count 3 rfl) rfl rfl (Nat.le_of_ble_eq_true rfl) rfl rfl ?_
  refine J_iload_n (pc' := 9) ok (dOf dX10_count 4 rfl) rfl rfl rfl ?_
  refine J_bipush (v := 7) (pc' := 11) ok (dOf dX10_count 5 rfl) rfl (by decide) ?_
  refine J_icmp_lt (tgt := 30) (pc' := 14) ok (dOf dX10_count 6 rfl) rfl (by decide) ?_ ?_
  · exact Sp_count_j30_J ok v0 v1 a2 h
  · refine J_iload_n (pc' := 15) ok (dOf dX10_count 7 rfl) rfl rfl rfl ?_
    refine J_bipush (v := 13) (pc' := 17) ok (dOf dX10_count 8 rfl) rfl (by decide) ?_
    refine J_icmp_ge (tgt := 30) (pc' := 20) ok (dOf dX10_count 9 rfl) rfl (by decide) ?_ ?_
    · exact Sp_count_j30_J ok v0 v1 a2 h
    · refine J_aload_n (pc' := 21) ok (dOf dX10_count 10 rfl) rfl rfl rfl ?_
      refine J_getR (ci := 10) (kf := 12) (C := RX10) (T := TX10) (N := 14) (pc' := 24) ok (dOf dX10_count 11 rfl) rfl (by decide) rfl (by decide) win_10 wfl_X10_78 (fun a16 => ?_)
      refine J_iload_n (pc' := 25) ok (dOf dX10_count 12 rfl) rfl rfl rfl ?_
      refine J_bipush (v := 7) (pc' := 27) ok (dOf dX10_count 13 rfl) rfl (by decide) ?_
      refine J_isub (pc' := 28) ok (dOf dX10_count 14 rfl) rfl ?_
      refine J_iald (pc' := 29) ok (dOf dX10_count 15 rfl) rfl (fun x17 => ?_)
      exact J_ireturn ok (dOf dX10_count 16 rfl) rfl (Eq.refl 0) (Nat.le_refl 0)
-- X10_status
abbrev kSp_status : Cd := (yX10_status, cX10_status, 1, (some .int), 0, 0)
theorem dX10_status : dcheck cX10_status [(0, .aload_n 0, 1), (1, .getfield 351, 3), (4, .ireturn, 1)] = true := by decide +kernel
theorem cw_Sp_status {k : Cd} (h1 : kSp_status.2.2.2.2.1 + 1 ≤ k.2.2.2.2.1) (h2 : 8 + (kSp_status.2.2.1 + 11) + kSp_status.2.2.2.2.2 ≤ k.2.2.2.2.2) : Cw k kSp_status 0 := ⟨wcode_X10_status, wini_SplitProgram, ⟨by decide, by decide, by decide +kernel⟩, h1, h2⟩
def Sp_status (v0 : Nat) (h : AHeap) : Option (Int32 × AHeap) :=
  (gfI h v0 10 13).bind fun x1 => some (x1, h)
theorem t_Sp_status {l : Launch} {G : GX} {v0 : Nat} {h : AHeap} {v : Int32} {h1 : AHeap} (hf : Sp_status v0 h = some (v, h1)) : CT l G kSp_status 0 0 [.ref v0] h (some (.int v)) h1 := by
  refine CT_of (ls := [some (.ref v0)]) (Z := fun z => z = (v, h1)) (by decide +kernel) (Nat.le_of_ble_eq_true rfl) hf rfl ⟨rfl, trivial⟩ (fun E ok => ?_)
  unfold Sp_status
  refine J_aload_n (pc' := 1) ok (dOf dX10_status 0 rfl) rfl rfl rfl ?_
  refine J_getI (ci := 10) (kf := 13) (C := RX10) (T := TX10) (N := 14) (pc' := 4) ok (dOf dX10_status 1 rfl) rfl (by decide) rfl (by decide) win_10 wfl_X10_351 (fun x1 => ?_)
  exact J_ireturn ok (dOf dX10_status 2 rfl) rfl (Eq.refl 0) (Nat.le_refl 0)
-- X6_init
abbrev kProg_init : Cd := (yX6_init, cX6_init, 1, none, 1, 23)
theorem dX6_init : dcheck cX6_init [(0, .aload_n 0, 1), (1, .invokespecial 3, 3), (4, .aload_n 0, 1), (5, .iconst 4, 1), (6, .newarray .int, 2), (8, .putfield 9, 3), (11, .aload_n 0, 1), (12, .iconst 4, 1), (13, .newarray .int, 2), (15, .putfield 15, 3), (18, .aload_n 0, 1), (19, .iconst 4, 1), (20, .newarray .int, 2), (22, .putfield 18, 3), (25, .aload_n 0, 1), (26, .bipush 24, 2), (28, .newarray .int, 2), (30, .putfield 21, 3), (33, .aload_n 0, 1), (34, .iconst 4, 1), (35, .newarray .int, 2), (37, .putfield 24, 3), (40, .aload_n 0, 1), (41, .bipush 24, 2), (43, .newarray .int, 2), (45, .putfield 27, 3), (48, .aload_n 0, 1), (49, .getfield 21, 3), (52, .iconst (-1), 1), (53, .invokestatic 30, 3), (56, .return_, 1)] = true := by decide +kernel
theorem cw_Prog_init {k : Cd} (h1 : kProg_init.2.2.2.2.1 + 1 ≤ k.2.2.2.2.1) (h2 : 8 + (kProg_init.2.2.1 + 11) + kProg_init.2.2.2.2.2 ≤ k.2.2.2.2.2) : Cw k kProg_init 0 := ⟨wcode_X6_init, wini_SplitProgram_Program, ⟨by decide, by decide, by decide +kernel⟩, h1, h2⟩
def Prog_init (v0 : Nat) (h : AHeap) : Option (Unit × AHeap) :=
  bnd2 (alc h (.inr (.inl (0, List.replicate 4 0)))) fun a1 h2 => (pfV h2 v0 6 3 (.ref a1)).bind fun h3 => bnd2 (alc h3 (.inr (.inl (0, List.replicate 4 0)))) fun a4 h5 => (pfV h5 v0 6 4 (.ref a4)).bind fun h6 => bnd2 (alc h6 (.inr (.inl (0, List.replicate 4 0)))) fun a7 h8 => (pfV h8 v0 6 5 (.ref a7)).bind fun h9 => bnd2 (alc h9 (.inr (.inl (0, List.replicate 24 0)))) fun a10 h11 => (pfV h11 v0 6 6 (.ref a10)).bind fun h12 => bnd2 (alc h12 (.inr (.inl (0, List.replicate 4 0)))) fun a13 h14 => (pfV h14 v0 6 7 (.ref a13)).bind fun h15 => bnd2 (alc h15 (.inr (.inl (0, List.replicate 24 0)))) fun a16 h17 => (pfV h17 v0 6 8 (.ref a16)).bind fun h18 => (gfR h18 v0 6 6).bind fun a19 => bnd2 (J7_fill a19 (-1) h18) fun _ h20 => some ((), h20)
theorem t_Prog_init {l : Launch} {G : GX} {v0 : Nat} {h h1 : AHeap} (hf : Prog_init v0 h = some ((), h1)) : CT l G kProg_init 6 64 [.ref v0] h none h1 := by
  refine CT_of (ls := [some (.ref v0)]) (Z := fun z => z = ((), h1)) (by decide +kernel) (Nat.le_of_ble_eq_true rfl) hf rfl ⟨rfl, trivial⟩ (fun E ok => ?_)
  unfold Prog_init
  refine J_aload_n (pc' := 1) ok (dOf dX6_init 0 rfl) rfl rfl rfl ?_
  refine J_objInit (pc' := 4) ok (dOf dX6_init 1 rfl) rfl wml_X6_3 winst_java_lang_Object__init_ wcode_java_lang_Object__init_ (Nat.le_of_ble_eq_true rfl) (Nat.le_of_ble_eq_true rfl) ?_
  refine J_aload_n (pc' := 5) ok (dOf dX6_init 2 rfl) rfl rfl rfl ?_
  refine J_iconst (v := 4) (pc' := 6) ok (dOf dX6_init 3 rfl) rfl (by decide) ?_
  refine J_newa0 (n := 4) (N := 4) (pc' := 8) ok (dOf dX6_init 4 rfl) rfl warr_int (by decide) (by decide) (by decide) (by decide) (by decide) (fun a1 h2 => ?_)
  refine J_putFR (ci := 6) (kf := 3) (C := RX6) (T := TX6) (N := 9) (pc' := 11) ok tyX6 (dOf dX6_init 5 rfl) rfl rfl (by decide) win_6 tyX6_ok nmX6 (fun _ => ⟨rfl, rfl⟩) rfl rfl rfl wfl_X6_9 (fun h3 _ => ?_)
  refine J_aload_n (pc' := 12) ok (dOf dX6_init 6 rfl) rfl rfl rfl ?_
  refine J_iconst (v := 4) (pc' := 13) ok (dOf dX6_init 7 rfl) rfl (by decide) ?_
  refine J_newa0 (n := 4) (N := 4) (pc' := 15) ok (dOf dX6_init 8 rfl) rfl warr_int (by decide) (by decide) (by decide) (by decide) (by decide) (fun a4 h5 => ?_)
  refine J_putFR (ci := 6) (kf := 4) (C := RX6) (T := TX6) (N := 9) (pc' := 18) ok tyX6 (dOf dX6_init 9 rfl) rfl rfl (by decide) win_6 tyX6_ok nmX6 (fun _ => ⟨rfl, rfl⟩) rfl rfl rfl wfl_X6_15 (fun h6 _ => ?_)
  refine J_aload_n (pc' := 19) ok (dOf dX6_init 10 rfl) rfl rfl rfl ?_
  refine J_iconst (v := 4) (pc' := 20) ok (dOf dX6_init 11 rfl) rfl (by decide) ?_
  refine J_newa0 (n := 4) (N := 4) (pc' := 22) ok (dOf dX6_init 12 rfl) rfl warr_int (by decide) (by decide) (by decide) (by decide) (by decide) (fun a7 h8 => ?_)
  refine J_putFR (ci := 6) (kf := 5) (C := RX6) (T := TX6) (N := 9) (pc' := 25) ok tyX6 (dOf dX6_init 13 rfl) rfl rfl (by decide) win_6 tyX6_ok nmX6 (fun _ => ⟨rfl, rfl⟩) rfl rfl rfl wfl_X6_18 (fun h9 _ => ?_)
  refine J_aload_n (pc' := 26) ok (dOf dX6_init 14 rfl) rfl rfl rfl ?_
  refine J_bipush (v := 24) (pc' := 28) ok (dOf dX6_init 15 rfl) rfl (by decide) ?_
  refine J_newa0 (n := 24) (N := 24) (pc' := 30) ok (dOf dX6_init 16 rfl) rfl warr_int (by decide) (by decide) (by decide) (by decide) (by decide) (fun a10 h11 => ?_)
  refine J_putFR (ci := 6) (kf := 6) (C := RX6) (T := TX6) (N := 9) (pc' := 33) ok tyX6 (dOf dX6_init 17 rfl) rfl rfl (by decide) win_6 tyX6_ok nmX6 (fun _ => ⟨rfl, rfl⟩) rfl rfl rfl wfl_X6_21 (fun h12 _ => ?_)
  refine J_aload_n (pc' := 34) ok (dOf dX6_init 18 rfl) rfl rfl rfl ?_
  refine J_iconst (v := 4) (pc' := 35) ok (dOf dX6_init 19 rfl) rfl (by decide) ?_
  refine J_newa0 (n := 4) (N := 4) (pc' := 37) ok (dOf dX6_init 20 rfl) rfl warr_int (by decide) (by decide) (by decide) (by decide) (by decide) (fun a13 h14 => ?_)
  refine J_putFR (ci := 6) (kf := 7) (C := RX6) (T := TX6) (N := 9) (pc' := 40) ok tyX6 (dOf dX6_init 21 rfl) rfl rfl (by decide) win_6 tyX6_ok nmX6 (fun _ => ⟨rfl, rfl⟩) rfl rfl rfl wfl_X6_24 (fun h15 _ => ?_)
  refine J_aload_n (pc' := 41) ok (dOf dX6_init 22 rfl) rfl rfl rfl ?_
  refine J_bipush (v := 24) (pc' := 43) ok (dOf dX6_init 23 rfl) rfl (by decide) ?_
  refine J_newa0 (n := 24) (N := 24) (pc' := 45) ok (dOf dX6_init 24 rfl) rfl warr_int (by decide) (by decide) (by decide) (by decide) (by decide) (fun a16 h17 => ?_)
  refine J_putFR (ci := 6) (kf := 8) (C := RX6) (T := TX6) (N := 9) (pc' := 48) ok tyX6 (dOf dX6_init 25 rfl) rfl rfl (by decide) win_6 tyX6_ok nmX6 (fun _ => ⟨rfl, rfl⟩) rfl rfl rfl wfl_X6_27 (fun h18 _ => ?_)
  refine J_aload_n (pc' := 49) ok (dOf dX6_init 26 rfl) rfl rfl rfl ?_
  refine J_getR (ci := 6) (kf := 6) (C := RX6) (T := TX6) (N := 9) (pc' := 52) ok (dOf dX6_init 27 rfl) rfl (by decide) rfl (by decide) win_6 wfl_X6_21 (fun a19 => ?_)
  refine J_iconst (v := (-1)) (pc' := 53) ok (dOf dX6_init 28 rfl) rfl (by decide) ?_
  refine J_callSv (k2 := kJ7_fill) (as := [.ref a19, .int (-1)]) (pc' := 56) ok (dOf dX6_init 29 rfl) rfl (cw_J7_fill (by decide) (by decide)) wml_X6_30 wstat_J7_fill_53178 ⟨by decide, by decide⟩ (Nat.le_of_ble_eq_true rfl) rfl (fun _ _ hf => t_J7_fill hf) (fun _ h20 => ?_)
  exact J_vreturn ok (dOf dX6_init 30 rfl) rfl (by decide) (by decide)
-- X2_init
abbrev kCuts_init : Cd := (yX2_init, cX2_init, 2, none, 1, 20)
theorem dX2_init : dcheck cX2_init [(0, .aload_n 0, 1), (1, .invokespecial 3, 3), (4, .aload_n 0, 1), (5, .iload_n 1, 1), (6, .ifCond .ge 7, 3), (9, .iconst 0, 1), (10, .goto 4, 3), (13, .iload_n 1, 1), (14, .putfield 9, 3), (17, .aload_n 0, 1), (18, .aload_n 0, 1), (19, .getfield 9, 3), (22, .newarray .int, 2), (24, .putfield 15, 3), (27, .aload_n 0, 1), (28, .aload_n 0, 1), (29, .getfield 9, 3), (32, .newarray .int, 2), (34, .putfield 19, 3), (37, .aload_n 0, 1), (38, .aload_n 0, 1), (39, .getfield 9, 3), (42, .newarray .int, 2), (44, .putfield 22, 3), (47, .aload_n 0, 1), (48, .aload_n 0, 1), (49, .getfield 9, 3), (52, .iconst 4, 1), (53, .imul, 1), (54, .newarray .int, 2), (56, .putfield 25, 3), (59, .aload_n 0, 1), (60, .aload_n 0, 1), (61, .getfield 9, 3), (64, .bipush 6, 2), (66, .imul, 1), (67, .newarray .int, 2), (69, .putfield 28, 3), (72, .return_, 1)] = true := by decide +kernel
theorem cw_Cuts_init40 {k : Cd} (h1 : kCuts_init.2.2.2.2.1 + 1 ≤ k.2.2.2.2.1) (h2 : 8 + (kCuts_init.2.2.1 + 11) + kCuts_init.2.2.2.2.2 ≤ k.2.2.2.2.2) : Cw k kCuts_init 1 := ⟨wcode_X2_init, wini_SplitProgram_Cuts, ⟨by decide, by decide, by decide +kernel⟩, h1, h2⟩
def Cuts_init40 (v0 : Nat) (h : AHeap) : Option (Unit × AHeap) :=
  (pfV h v0 2 0 (.int 40)).bind fun h1 => (gfI h1 v0 2 0).bind fun x2 => (eqc x2 40).bind fun _ => bnd2 (alc h1 (.inr (.inl (0, List.replicate 40 0)))) fun a3 h4 => (pfV h4 v0 2 2 (.ref a3)).bind fun h5 => (gfI h5 v0 2 0).bind fun x6 => (eqc x6 40).bind fun _ => bnd2 (alc h5 (.inr (.inl (0, List.replicate 40 0)))) fun a7 h8 => (pfV h8 v0 2 3 (.ref a7)).bind fun h9 => (gfI h9 v0 2 0).bind fun x10 => (eqc x10 40).bind fun _ => bnd2 (alc h9 (.inr (.inl (0, List.replicate 40 0)))) fun a11 h12 => (pfV h12 v0 2 4 (.ref a11)).bind fun h13 => (gfI h13 v0 2 0).bind fun x14 => (eqc x14 40).bind fun _ => bnd2 (alc h13 (.inr (.inl (0, List.replicate 160 0)))) fun a15 h16 => (pfV h16 v0 2 5 (.ref a15)).bind fun h17 => (gfI h17 v0 2 0).bind fun x18 => (eqc x18 40).bind fun _ => bnd2 (alc h17 (.inr (.inl (0, List.replicate 240 0)))) fun a19 h20 => (pfV h20 v0 2 6 (.ref a19)).bind fun h21 => some ((), h21)
theorem t_Cuts_init40 {l : Launch} {G : GX} {v0 : Nat} {h h1 : AHeap} (hf : Cuts_init40 v0 h = some ((), h1)) : CT l G kCuts_init 5 520 [.ref v0, .int 40] h none h1 := by
  refine CT_of (ls := [some (.ref v0), some (.int 40)]) (Z := fun z => z = ((), h1)) (by decide +kernel) (Nat.le_of_ble_eq_true rfl) hf rfl ⟨rfl, rfl, trivial⟩ (fun E ok => ?_)
  unfold Cuts_init40
  refine J_aload_n (pc' := 1) ok (dOf dX2_init 0 rfl) rfl rfl rfl ?_
  refine J_objInit (pc' := 4) ok (dOf dX2_init 1 rfl) rfl wml_X2_3 winst_java_lang_Object__init_ wcode_java_lang_Object__init_ (Nat.le_of_ble_eq_true rfl) (Nat.le_of_ble_eq_true rfl) ?_
  refine J_aload_n (pc' := 5) ok (dOf dX2_init 2 rfl) rfl rfl rfl ?_
  refine J_iload_n (pc' := 6) ok (dOf dX2_init 3 rfl) rfl rfl rfl ?_
  refine J_if_ge_t (tgt := 13) ok (dOf dX2_init 4 rfl) (by decide) (by decide) ?_
  refine J_iload_n (pc' := 14) ok (dOf dX2_init 7 rfl) rfl rfl rfl ?_
  refine J_putFI (ci := 2) (kf := 0) (C := RX2) (T := TX2) (N := 7) (pc' := 17) ok tyX2 (dOf dX2_init 8 rfl) rfl rfl (by decide) win_2 tyX2_ok nmX2 rfl rfl rfl rfl wfl_X2_9 (fun h1 _ => ?_)
  refine J_aload_n (pc' := 18) ok (dOf dX2_init 9 rfl) rfl rfl rfl ?_
  refine J_aload_n (pc' := 19) ok (dOf dX2_init 10 rfl) rfl rfl rfl ?_
  refine J_getI (ci := 2) (kf := 0) (C := RX2) (T := TX2) (N := 7) (pc' := 22) ok (dOf dX2_init 11 rfl) rfl (by decide) rfl (by decide) win_2 wfl_X2_9 (fun x2 => ?_)
  refine J_eqc ?_
  refine J_newa0 (n := 40) (N := 40) (pc' := 24) ok (dOf dX2_init 12 rfl) rfl warr_int (by decide) (by decide) (by decide) (by decide) (by decide) (fun a3 h4 => ?_)
  refine J_putFR (ci := 2) (kf := 2) (C := RX2) (T := TX2) (N := 7) (pc' := 27) ok tyX2 (dOf dX2_init 13 rfl) rfl rfl (by decide) win_2 tyX2_ok nmX2 (fun _ => ⟨rfl, rfl⟩) rfl rfl rfl wfl_X2_15 (fun h5 _ => ?_)
  refine J_aload_n (pc' := 28) ok (dOf dX2_init 14 rfl) rfl rfl rfl ?_
  refine J_aload_n (pc' := 29) ok (dOf dX2_init 15 rfl) rfl rfl rfl ?_
  refine J_getI (ci := 2) (kf := 0) (C := RX2) (T := TX2) (N := 7) (pc' := 32) ok (dOf dX2_init 16 rfl) rfl (by decide) rfl (by decide) win_2 wfl_X2_9 (fun x6 => ?_)
  refine J_eqc ?_
  refine J_newa0 (n := 40) (N := 40) (pc' := 34) ok (dOf dX2_init 17 rfl) rfl warr_int (by decide) (by decide) (by decide) (by decide) (by decide) (fun a7 h8 => ?_)
  refine J_putFR (ci := 2) (kf := 3) (C := RX2) (T := TX2) (N := 7) (pc' := 37) ok tyX2 (dOf dX2_init 18 rfl) rfl rfl (by decide) win_2 tyX2_ok nmX2 (fun _ => ⟨rfl, rfl⟩) rfl rfl rfl wfl_X2_19 (fun h9 _ => ?_)
  refine J_aload_n (pc' := 38) ok (dOf dX2_init 19 rfl) rfl rfl rfl ?_
  refine J_aload_n (pc' := 39) ok (dOf dX2_init 20 rfl) rfl rfl rfl ?_
  refine J_getI (ci := 2) (kf := 0) (C := RX2) (T := TX2) (N := 7) (pc' := 42) ok (dOf dX2_init 21 rfl) rfl (by decide) rfl (by decide) win_2 wfl_X2_9 (fun x10 => ?_)
  refine J_eqc ?_
  refine J_newa0 (n := 40) (N := 40) (pc' := 44) ok (dOf dX2_init 22 rfl) rfl warr_int (by decide) (by decide) (by decide) (by decide) (by decide) (fun a11 h12 => ?_)
  refine J_putFR (ci := 2) (kf := 4) (C := RX2) (T := TX2) (N := 7) (pc' := 47) ok tyX2 (dOf dX2_init 23 rfl) rfl rfl (by decide) win_2 tyX2_ok nmX2 (fun _ => ⟨rfl, rfl⟩) rfl rfl rfl wfl_X2_22 (fun h13 _ => ?_)
  refine J_aload_n (pc' := 48) ok (dOf dX2_init 24 rfl) rfl rfl rfl ?_
  refine J_aload_n (pc' := 49) ok (dOf dX2_init 25 rfl) rfl rfl rfl ?_
  refine J_getI (ci := 2) (kf := 0) (C := RX2) (T := TX2) (N := 7) (pc' := 52) ok (dOf dX2_init 26 rfl) rfl (by decide) rfl (by decide) win_2 wfl_X2_9 (fun x14 => ?_)
  refine J_eqc ?_
  refine J_iconst (v := 4) (pc' := 53) ok (dOf dX2_init 27 rfl) rfl (by decide) ?_
  refine J_imul (pc' := 54) ok (dOf dX2_init 28 rfl) rfl ?_
  refine J_newa0 (n := 40 * 4) (N := 160) (pc' := 56) ok (dOf dX2_init 29 rfl) rfl warr_int (by decide) (by decide) (by decide) (by decide) (by decide) (fun a15 h16 => ?_)
  refine J_putFR (ci := 2) (kf := 5) (C := RX2) (T := TX2) (N := 7) (pc' := 59) ok tyX2 (dOf dX2_init 30 rfl) rfl rfl (by decide) win_2 tyX2_ok nmX2 (fun _ => ⟨rfl, rfl⟩) rfl rfl rfl wfl_X2_25 (fun h17 _ => ?_)
  refine J_aload_n (pc' := 60) ok (dOf dX2_init 31 rfl) rfl rfl rfl ?_
  refine J_aload_n (pc' := 61) ok (dOf dX2_init 32 rfl) rfl rfl rfl ?_
  refine J_getI (ci := 2) (kf := 0) (C := RX2) (T := TX2) (N := 7) (pc' := 64) ok (dOf dX2_init 33 rfl) rfl (by decide) rfl (by decide) win_2 wfl_X2_9 (fun x18 => ?_)
  refine J_eqc ?_
  refine J_bipush (v := 6) (pc' := 66) ok (dOf dX2_init 34 rfl) rfl (by decide) ?_
  refine J_imul (pc' := 67) ok (dOf dX2_init 35 rfl) rfl ?_
  refine J_newa0 (n := 40 * 6) (N := 240) (pc' := 69) ok (dOf dX2_init 36 rfl) rfl warr_int (by decide) (by decide) (by decide) (by decide) (by decide) (fun a19 h20 => ?_)
  refine J_putFR (ci := 2) (kf := 6) (C := RX2) (T := TX2) (N := 7) (pc' := 72) ok tyX2 (dOf dX2_init 37 rfl) rfl rfl (by decide) win_2 tyX2_ok nmX2 (fun _ => ⟨rfl, rfl⟩) rfl rfl rfl wfl_X2_28 (fun h21 _ => ?_)
  exact J_vreturn ok (dOf dX2_init 38 rfl) rfl (by decide) (by decide)
-- X2_init
theorem cw_Cuts_init99 {k : Cd} (h1 : kCuts_init.2.2.2.2.1 + 1 ≤ k.2.2.2.2.1) (h2 : 8 + (kCuts_init.2.2.1 + 11) + kCuts_init.2.2.2.2.2 ≤ k.2.2.2.2.2) : Cw k kCuts_init 1 := ⟨wcode_X2_init, wini_SplitProgram_Cuts, ⟨by decide, by decide, by decide +kernel⟩, h1, h2⟩
def Cuts_init99 (v0 : Nat) (h : AHeap) : Option (Unit × AHeap) :=
  (pfV h v0 2 0 (.int 99)).bind fun h1 => (gfI h1 v0 2 0).bind fun x2 => (eqc x2 99).bind fun _ => bnd2 (alc h1 (.inr (.inl (0, List.replicate 99 0)))) fun a3 h4 => (pfV h4 v0 2 2 (.ref a3)).bind fun h5 => (gfI h5 v0 2 0).bind fun x6 => (eqc x6 99).bind fun _ => bnd2 (alc h5 (.inr (.inl (0, List.replicate 99 0)))) fun a7 h8 => (pfV h8 v0 2 3 (.ref a7)).bind fun h9 => (gfI h9 v0 2 0).bind fun x10 => (eqc x10 99).bind fun _ => bnd2 (alc h9 (.inr (.inl (0, List.replicate 99 0)))) fun a11 h12 => (pfV h12 v0 2 4 (.ref a11)).bind fun h13 => (gfI h13 v0 2 0).bind fun x14 => (eqc x14 99).bind fun _ => bnd2 (alc h13 (.inr (.inl (0, List.replicate 396 0)))) fun a15 h16 => (pfV h16 v0 2 5 (.ref a15)).bind fun h17 => (gfI h17 v0 2 0).bind fun x18 => (eqc x18 99).bind fun _ => bnd2 (alc h17 (.inr (.inl (0, List.replicate 594 0)))) fun a19 h20 => (pfV h20 v0 2 6 (.ref a19)).bind fun h21 => some ((), h21)
theorem t_Cuts_init99 {l : Launch} {G : GX} {v0 : Nat} {h h1 : AHeap} (hf : Cuts_init99 v0 h = some ((), h1)) : CT l G kCuts_init 5 1287 [.ref v0, .int 99] h none h1 := by
  refine CT_of (ls := [some (.ref v0), some (.int 99)]) (Z := fun z => z = ((), h1)) (by decide +kernel) (Nat.le_of_ble_eq_true rfl) hf rfl ⟨rfl, rfl, trivial⟩ (fun E ok => ?_)
  unfold Cuts_init99
  refine J_aload_n (pc' := 1) ok (dOf dX2_init 0 rfl) rfl rfl rfl ?_
  refine J_objInit (pc' := 4) ok (dOf dX2_init 1 rfl) rfl wml_X2_3 winst_java_lang_Object__init_ wcode_java_lang_Object__init_ (Nat.le_of_ble_eq_true rfl) (Nat.le_of_ble_eq_true rfl) ?_
  refine J_aload_n (pc' := 5) ok (dOf dX2_init 2 rfl) rfl rfl rfl ?_
  refine J_iload_n (pc' := 6) ok (dOf dX2_init 3 rfl) rfl rfl rfl ?_
  refine J_if_ge_t (tgt := 13) ok (dOf dX2_init 4 rfl) (by decide) (by decide) ?_
  refine J_iload_n (pc' := 14) ok (dOf dX2_init 7 rfl) rfl rfl rfl ?_
  refine J_putFI (ci := 2) (kf := 0) (C := RX2) (T := TX2) (N := 7) (pc' := 17) ok tyX2 (dOf dX2_init 8 rfl) rfl rfl (by decide) win_2 tyX2_ok nmX2 rfl rfl rfl rfl wfl_X2_9 (fun h1 _ => ?_)
  refine J_aload_n (pc' := 18) ok (dOf dX2_init 9 rfl) rfl rfl rfl ?_
  refine J_aload_n (pc' := 19) ok (dOf dX2_init 10 rfl) rfl rfl rfl ?_
  refine J_getI (ci := 2) (kf := 0) (C := RX2) (T := TX2) (N := 7) (pc' := 22) ok (dOf dX2_init 11 rfl) rfl (by decide) rfl (by decide) win_2 wfl_X2_9 (fun x2 => ?_)
  refine J_eqc ?_
  refine J_newa0 (n := 99) (N := 99) (pc' := 24) ok (dOf dX2_init 12 rfl) rfl warr_int (by decide) (by decide) (by decide) (by decide) (by decide) (fun a3 h4 => ?_)
  refine J_putFR (ci := 2) (kf := 2) (C := RX2) (T := TX2) (N := 7) (pc' := 27) ok tyX2 (dOf dX2_init 13 rfl) rfl rfl (by decide) win_2 tyX2_ok nmX2 (fun _ => ⟨rfl, rfl⟩) rfl rfl rfl wfl_X2_15 (fun h5 _ => ?_)
  refine J_aload_n (pc' := 28) ok (dOf dX2_init 14 rfl) rfl rfl rfl ?_
  refine J_aload_n (pc' := 29) ok (dOf dX2_init 15 rfl) rfl rfl rfl ?_
  refine J_getI (ci := 2) (kf := 0) (C := RX2) (T := TX2) (N := 7) (pc' := 32) ok (dOf dX2_init 16 rfl) rfl (by decide) rfl (by decide) win_2 wfl_X2_9 (fun x6 => ?_)
  refine J_eqc ?_
  refine J_newa0 (n := 99) (N := 99) (pc' := 34) ok (dOf dX2_init 17 rfl) rfl warr_int (by decide) (by decide) (by decide) (by decide) (by decide) (fun a7 h8 => ?_)
  refine J_putFR (ci := 2) (kf := 3) (C := RX2) (T := TX2) (N := 7) (pc' := 37) ok tyX2 (dOf dX2_init 18 rfl) rfl rfl (by decide) win_2 tyX2_ok nmX2 (fun _ => ⟨rfl, rfl⟩) rfl rfl rfl wfl_X2_19 (fun h9 _ => ?_)
  refine J_aload_n (pc' := 38) ok (dOf dX2_init 19 rfl) rfl rfl rfl ?_
  refine J_aload_n (pc' := 39) ok (dOf dX2_init 20 rfl) rfl rfl rfl ?_
  refine J_getI (ci := 2) (kf := 0) (C := RX2) (T := TX2) (N := 7) (pc' := 42) ok (dOf dX2_init 21 rfl) rfl (by decide) rfl (by decide) win_2 wfl_X2_9 (fun x10 => ?_)
  refine J_eqc ?_
  refine J_newa0 (n := 99) (N := 99) (pc' := 44) ok (dOf dX2_init 22 rfl) rfl warr_int (by decide) (by decide) (by decide) (by decide) (by decide) (fun a11 h12 => ?_)
  refine J_putFR (ci := 2) (kf := 4) (C := RX2) (T := TX2) (N := 7) (pc' := 47) ok tyX2 (dOf dX2_init 23 rfl) rfl rfl (by decide) win_2 tyX2_ok nmX2 (fun _ => ⟨rfl, rfl⟩) rfl rfl rfl wfl_X2_22 (fun h13 _ => ?_)
  refine J_aload_n (pc' := 48) ok (dOf dX2_init 24 rfl) rfl rfl rfl ?_
  refine J_aload_n (pc' := 49) ok (dOf dX2_init 25 rfl) rfl rfl rfl ?_
  refine J_getI (ci := 2) (kf := 0) (C := RX2) (T := TX2) (N := 7) (pc' := 52) ok (dOf dX2_init 26 rfl) rfl (by decide) rfl (by decide) win_2 wfl_X2_9 (fun x14 => ?_)
  refine J_eqc ?_
  refine J_iconst (v := 4) (pc' := 53) ok (dOf dX2_init 27 rfl) rfl (by decide) ?_
  refine J_imul (pc' := 54) ok (dOf dX2_init 28 rfl) rfl ?_
  refine J_newa0 (n := 99 * 4) (N := 396) (pc' := 56) ok (dOf dX2_init 29 rfl) rfl warr_int (by decide) (by decide) (by decide) (by decide) (by decide) (fun a15 h16 => ?_)
  refine J_putFR (ci := 2) (kf := 5) (C := RX2) (T := TX2) (N := 7) (pc' := 59) ok tyX2 (dOf dX2_init 30 rfl) rfl rfl (by decide) win_2 tyX2_ok nmX2 (fun _ => ⟨rfl, rfl⟩) rfl rfl rfl wfl_X2_25 (fun h17 _ => ?_)
  refine J_aload_n (pc' := 60) ok (dOf dX2_init 31 rfl) rfl rfl rfl ?_
  refine J_aload_n (pc' := 61) ok (dOf dX2_init 32 rfl) rfl rfl rfl ?_
  refine J_getI (ci := 2) (kf := 0) (C := RX2) (T := TX2) (N := 7) (pc' := 64) ok (dOf dX2_init 33 rfl) rfl (by decide) rfl (by decide) win_2 wfl_X2_9 (fun x18 => ?_)
  refine J_eqc ?_
  refine J_bipush (v := 6) (pc' := 66) ok (dOf dX2_init 34 rfl) rfl (by decide) ?_
  refine J_imul (pc' := 67) ok (dOf dX2_init 35 rfl) rfl ?_
  refine J_newa0 (n := 99 * 6) (N := 594) (pc' := 69) ok (dOf dX2_init 36 rfl) rfl warr_int (by decide) (by decide) (by decide) (by decide) (by decide) (fun a19 h20 => ?_)
  refine J_putFR (ci := 2) (kf := 6) (C := RX2) (T := TX2) (N := 7) (pc' := 72) ok tyX2 (dOf dX2_init 37 rfl) rfl rfl (by decide) win_2 tyX2_ok nmX2 (fun _ => ⟨rfl, rfl⟩) rfl rfl rfl wfl_X2_28 (fun h21 _ => ?_)
  exact J_vreturn ok (dOf dX2_init 38 rfl) rfl (by decide) (by decide)
-- X7_init
abbrev kSrch_init : Cd := (yX7_init, cX7_init, 1, none, 1, 20)
theorem dX7_init : dcheck cX7_init [(0, .aload_n 0, 1), (1, .invokespecial 3, 3), (4, .aload_n 0, 1), (5, .iconst (-1), 1), (6, .putfield 9, 3), (9, .aload_n 0, 1), (10, .iconst (-1), 1), (11, .putfield 15, 3), (14, .aload_n 0, 1), (15, .iconst (-1), 1), (16, .putfield 18, 3), (19, .aload_n 0, 1), (20, .iconst (-1), 1), (21, .putfield 21, 3), (24, .return_, 1)] = true := by decide +kernel
theorem cw_Srch_init {k : Cd} (h1 : kSrch_init.2.2.2.2.1 + 1 ≤ k.2.2.2.2.1) (h2 : 8 + (kSrch_init.2.2.1 + 11) + kSrch_init.2.2.2.2.2 ≤ k.2.2.2.2.2) : Cw k kSrch_init 0 := ⟨wcode_X7_init, wini_SplitProgram_Search, ⟨by decide, by decide, by decide +kernel⟩, h1, h2⟩
def Srch_init (v0 : Nat) (h : AHeap) : Option (Unit × AHeap) :=
  (pfV h v0 7 1 (.int (-1))).bind fun h1 => (pfV h1 v0 7 2 (.int (-1))).bind fun h2 => (pfV h2 v0 7 3 (.int (-1))).bind fun h3 => (pfV h3 v0 7 4 (.int (-1))).bind fun h4 => some ((), h4)
theorem t_Srch_init {l : Launch} {G : GX} {v0 : Nat} {h h1 : AHeap} (hf : Srch_init v0 h = some ((), h1)) : CT l G kSrch_init 0 0 [.ref v0] h none h1 := by
  refine CT_of (ls := [some (.ref v0)]) (Z := fun z => z = ((), h1)) (by decide +kernel) (Nat.le_of_ble_eq_true rfl) hf rfl ⟨rfl, trivial⟩ (fun E ok => ?_)
  unfold Srch_init
  refine J_aload_n (pc' := 1) ok (dOf dX7_init 0 rfl) rfl rfl rfl ?_
  refine J_objInit (pc' := 4) ok (dOf dX7_init 1 rfl) rfl wml_X7_3 winst_java_lang_Object__init_ wcode_java_lang_Object__init_ (Nat.le_of_ble_eq_true rfl) (Nat.le_of_ble_eq_true rfl) ?_
  refine J_aload_n (pc' := 5) ok (dOf dX7_init 2 rfl) rfl rfl rfl ?_
  refine J_iconst (v := (-1)) (pc' := 6) ok (dOf dX7_init 3 rfl) rfl (by decide) ?_
  refine J_putI (ci := 7) (kf := 1) (C := RX7) (T := TX7) (N := 7) (pc' := 9) ok tyX7 (dOf dX7_init 4 rfl) rfl rfl (by decide) win_7 tyX7_ok nmX7 rfl rfl wfl_X7_9 (fun h1 _ => ?_)
  refine J_aload_n (pc' := 10) ok (dOf dX7_init 5 rfl) rfl rfl rfl ?_
  refine J_iconst (v := (-1)) (pc' := 11) ok (dOf dX7_init 6 rfl) rfl (by decide) ?_
  refine J_putI (ci := 7) (kf := 2) (C := RX7) (T := TX7) (N := 7) (pc' := 14) ok tyX7 (dOf dX7_init 7 rfl) rfl rfl (by decide) win_7 tyX7_ok nmX7 rfl rfl wfl_X7_15 (fun h2 _ => ?_)
  refine J_aload_n (pc' := 15) ok (dOf dX7_init 8 rfl) rfl rfl rfl ?_
  refine J_iconst (v := (-1)) (pc' := 16) ok (dOf dX7_init 9 rfl) rfl (by decide) ?_
  refine J_putI (ci := 7) (kf := 3) (C := RX7) (T := TX7) (N := 7) (pc' := 19) ok tyX7 (dOf dX7_init 10 rfl) rfl rfl (by decide) win_7 tyX7_ok nmX7 rfl rfl wfl_X7_18 (fun h3 _ => ?_)
  refine J_aload_n (pc' := 20) ok (dOf dX7_init 11 rfl) rfl rfl rfl ?_
  refine J_iconst (v := (-1)) (pc' := 21) ok (dOf dX7_init 12 rfl) rfl (by decide) ?_
  refine J_putI (ci := 7) (kf := 4) (C := RX7) (T := TX7) (N := 7) (pc' := 24) ok tyX7 (dOf dX7_init 13 rfl) rfl rfl (by decide) win_7 tyX7_ok nmX7 rfl rfl wfl_X7_21 (fun h4 _ => ?_)
  exact J_vreturn ok (dOf dX7_init 14 rfl) rfl (by decide) (by decide)
-- X8_init
abbrev kStat_init : Cd := (yX8_init, cX8_init, 1, none, 2, 43)
theorem dX8_init : dcheck cX8_init [(0, .aload_n 0, 1), (1, .invokespecial 3, 3), (4, .aload_n 0, 1), (5, .new 9, 3), (8, .dup, 1), (9, .invokespecial 11, 3), (12, .putfield 12, 3), (15, .aload_n 0, 1), (16, .new 18, 3), (19, .dup, 1), (20, .bipush 40, 2), (22, .invokespecial 20, 3), (25, .putfield 23, 3), (28, .aload_n 0, 1), (29, .new 27, 3), (32, .dup, 1), (33, .invokespecial 29, 3), (36, .putfield 30, 3), (39, .return_, 1)] = true := by decide +kernel
theorem cw_Stat_init {k : Cd} (h1 : kStat_init.2.2.2.2.1 + 1 ≤ k.2.2.2.2.1) (h2 : 8 + (kStat_init.2.2.1 + 11) + kStat_init.2.2.2.2.2 ≤ k.2.2.2.2.2) : Cw k kStat_init 0 := ⟨wcode_X8_init, wini_SplitProgram_State, ⟨by decide, by decide, by decide +kernel⟩, h1, h2⟩
def Stat_init (v0 : Nat) (h : AHeap) : Option (Unit × AHeap) :=
  bnd2 (alc h (.inl (6, [.int 0, .int 0, .int 0, .null, .null, .null, .null, .null, .null]))) fun a1 h2 => bnd2 (Prog_init a1 h2) fun _ h3 => (pfV h3 v0 8 0 (.ref a1)).bind fun h4 => bnd2 (alc h4 (.inl (2, [.int 0, .int 0, .null, .null, .null, .null, .null]))) fun a5 h6 => bnd2 (Cuts_init40 a5 h6) fun _ h7 => (pfV h7 v0 8 1 (.ref a5)).bind fun h8 => bnd2 (alc h8 (.inl (7, [.int 0, .int 0, .int 0, .int 0, .int 0, .int 0, .int 0]))) fun a9 h10 => bnd2 (Srch_init a9 h10) fun _ h11 => (pfV h11 v0 8 2 (.ref a9)).bind fun h12 => some ((), h12)
theorem t_Stat_init {l : Launch} {G : GX} {v0 : Nat} {h h1 : AHeap} (hf : Stat_init v0 h = some ((), h1)) : CT l G kStat_init 14 607 [.ref v0] h none h1 := by
  refine CT_of (ls := [some (.ref v0)]) (Z := fun z => z = ((), h1)) (by decide +kernel) (Nat.le_of_ble_eq_true rfl) hf rfl ⟨rfl, trivial⟩ (fun E ok => ?_)
  unfold Stat_init
  refine J_aload_n (pc' := 1) ok (dOf dX8_init 0 rfl) rfl rfl rfl ?_
  refine J_objInit (pc' := 4) ok (dOf dX8_init 1 rfl) rfl wml_X8_3 winst_java_lang_Object__init_ wcode_java_lang_Object__init_ (Nat.le_of_ble_eq_true rfl) (Nat.le_of_ble_eq_true rfl) ?_
  refine J_aload_n (pc' := 5) ok (dOf dX8_init 2 rfl) rfl rfl rfl ?_
  refine J_new (ci := 6) (C := RX6) (T := TX6) (N := 9) (fs := [.int 0, .int 0, .int 0, .null, .null, .null, .null, .null, .null]) (pc' := 8) ok tyX6 (dOf dX8_init 3 rfl) rfl rfl win_6 tyX6_ok wcl_X8_9 wins_X6 wini_SplitProgram_Program (by decide +kernel) (by decide +kernel) (by decide) (by decide) (fun a1 h2 => ?_)
  refine J_dup (pc' := 9) ok (dOf dX8_init 4 rfl) rfl rfl ?_
  refine J_callIv (k2 := kProg_init) (mc2 := 6) (ms2 := 64) (as := []) (pc' := 12) ok (dOf dX8_init 5 rfl) rfl (cw_Prog_init (by decide) (by decide)) wml_X8_11 winst_X6_init rfl rfl ⟨by decide, by decide⟩ (Nat.le_of_ble_eq_true rfl) rfl (fun _ _ hf => t_Prog_init hf) (fun _ h3 => ?_)
  refine J_putFR (ci := 8) (kf := 0) (C := RX8) (T := TX8) (N := 3) (pc' := 15) ok tyX8 (dOf dX8_init 6 rfl) rfl rfl (by decide) win_8 tyX8_ok nmX8 (fun _ => ⟨rfl, rfl⟩) rfl rfl rfl wfl_X8_12 (fun h4 _ => ?_)
  refine J_aload_n (pc' := 16) ok (dOf dX8_init 7 rfl) rfl rfl rfl ?_
  refine J_new (ci := 2) (C := RX2) (T := TX2) (N := 7) (fs := [.int 0, .int 0, .null, .null, .null, .null, .null]) (pc' := 19) ok tyX2 (dOf dX8_init 8 rfl) rfl rfl win_2 tyX2_ok wcl_X8_18 wins_X2 wini_SplitProgram_Cuts (by decide +kernel) (by decide +kernel) (by decide) (by decide) (fun a5 h6 => ?_)
  refine J_dup (pc' := 20) ok (dOf dX8_init 9 rfl) rfl rfl ?_
  refine J_bipush (v := 40) (pc' := 22) ok (dOf dX8_init 10 rfl) rfl (by decide) ?_
  refine J_callIv (k2 := kCuts_init) (mc2 := 5) (ms2 := 520) (as := [.int 40]) (pc' := 25) ok (dOf dX8_init 11 rfl) rfl (cw_Cuts_init40 (by decide) (by decide)) wml_X8_20 winst_X2_init rfl rfl ⟨by decide, by decide⟩ (Nat.le_of_ble_eq_true rfl) rfl (fun _ _ hf => t_Cuts_init40 hf) (fun _ h7 => ?_)
  refine J_putFR (ci := 8) (kf := 1) (C := RX8) (T := TX8) (N := 3) (pc' := 28) ok tyX8 (dOf dX8_init 12 rfl) rfl rfl (by decide) win_8 tyX8_ok nmX8 (fun _ => ⟨rfl, rfl⟩) rfl rfl rfl wfl_X8_23 (fun h8 _ => ?_)
  refine J_aload_n (pc' := 29) ok (dOf dX8_init 13 rfl) rfl rfl rfl ?_
  refine J_new (ci := 7) (C := RX7) (T := TX7) (N := 7) (fs := [.int 0, .int 0, .int 0, .int 0, .int 0, .int 0, .int 0]) (pc' := 32) ok tyX7 (dOf dX8_init 14 rfl) rfl rfl win_7 tyX7_ok wcl_X8_27 wins_X7 wini_SplitProgram_Search (by decide +kernel) (by decide +kernel) (by decide) (by decide) (fun a9 h10 => ?_)
  refine J_dup (pc' := 33) ok (dOf dX8_init 15 rfl) rfl rfl ?_
  refine J_callINv (k2 := kSrch_init) (mc2 := 0) (ms2 := 0) (as := []) (pc' := 36) ok (dOf dX8_init 16 rfl) rfl (cw_Srch_init (by decide) (by decide)) wmn_X8_29 winst_X7_init rfl rfl ⟨by decide, by decide⟩ (Nat.le_of_ble_eq_true rfl) rfl (fun _ _ hf => t_Srch_init hf) (fun _ h11 => ?_)
  refine J_putFR (ci := 8) (kf := 2) (C := RX8) (T := TX8) (N := 3) (pc' := 39) ok tyX8 (dOf dX8_init 17 rfl) rfl rfl (by decide) win_8 tyX8_ok nmX8 (fun _ => ⟨rfl, rfl⟩) rfl rfl rfl wfl_X8_30 (fun h12 _ => ?_)
  exact J_vreturn ok (dOf dX8_init 18 rfl) rfl (by decide) (by decide)
-- X4_init
abbrev kFrt_init : Cd := (yX4_init, cX4_init, 1, none, 1, 20)
theorem dX4_init : dcheck cX4_init [(0, .aload_n 0, 1), (1, .invokespecial 3, 3), (4, .aload_n 0, 1), (5, .iconst 4, 1), (6, .newarray .int, 2), (8, .putfield 9, 3), (11, .aload_n 0, 1), (12, .bipush 16, 2), (14, .newarray .int, 2), (16, .putfield 15, 3), (19, .aload_n 0, 1), (20, .bipush 64, 2), (22, .newarray .int, 2), (24, .putfield 18, 3), (27, .aload_n 0, 1), (28, .iconst 4, 1), (29, .newarray .boolean, 2), (31, .putfield 21, 3), (34, .aload_n 0, 1), (35, .iconst 4, 1), (36, .newarray .int, 2), (38, .putfield 25, 3), (41, .aload_n 0, 1), (42, .bipush 24, 2), (44, .newarray .int, 2), (46, .putfield 28, 3), (49, .aload_n 0, 1), (50, .bipush 16, 2), (52, .newarray .int, 2), (54, .putfield 31, 3), (57, .aload_n 0, 1), (58, .bipush 16, 2), (60, .newarray .int, 2), (62, .putfield 34, 3), (65, .aload_n 0, 1), (66, .iconst 4, 1), (67, .newarray .int, 2), (69, .putfield 37, 3), (72, .aload_n 0, 1), (73, .iconst 4, 1), (74, .newarray .int, 2), (76, .putfield 40, 3), (79, .aload_n 0, 1), (80, .iconst 4, 1), (81, .newarray .int, 2), (83, .putfield 43, 3), (86, .aload_n 0, 1), (87, .bipush 6, 2), (89, .newarray .int, 2), (91, .putfield 46, 3), (94, .return_, 1)] = true := by decide +kernel
theorem cw_Frt_init {k : Cd} (h1 : kFrt_init.2.2.2.2.1 + 1 ≤ k.2.2.2.2.1) (h2 : 8 + (kFrt_init.2.2.1 + 11) + kFrt_init.2.2.2.2.2 ≤ k.2.2.2.2.2) : Cw k kFrt_init 0 := ⟨wcode_X4_init, wini_SplitProgram_Freight, ⟨by decide, by decide, by decide +kernel⟩, h1, h2⟩
def Frt_init (v0 : Nat) (h : AHeap) : Option (Unit × AHeap) :=
  bnd2 (alc h (.inr (.inl (0, List.replicate 4 0)))) fun a1 h2 => (pfV h2 v0 4 0 (.ref a1)).bind fun h3 => bnd2 (alc h3 (.inr (.inl (0, List.replicate 16 0)))) fun a4 h5 => (pfV h5 v0 4 1 (.ref a4)).bind fun h6 => bnd2 (alc h6 (.inr (.inl (0, List.replicate 64 0)))) fun a7 h8 => (pfV h8 v0 4 2 (.ref a7)).bind fun h9 => bnd2 (alc h9 (.inr (.inl (1, List.replicate 4 0)))) fun a10 h11 => (pfV h11 v0 4 3 (.ref a10)).bind fun h12 => bnd2 (alc h12 (.inr (.inl (0, List.replicate 4 0)))) fun a13 h14 => (pfV h14 v0 4 4 (.ref a13)).bind fun h15 => bnd2 (alc h15 (.inr (.inl (0, List.replicate 24 0)))) fun a16 h17 => (pfV h17 v0 4 5 (.ref a16)).bind fun h18 => bnd2 (alc h18 (.inr (.inl (0, List.replicate 16 0)))) fun a19 h20 => (pfV h20 v0 4 6 (.ref a19)).bind fun h21 => bnd2 (alc h21 (.inr (.inl (0, List.replicate 16 0)))) fun a22 h23 => (pfV h23 v0 4 7 (.ref a22)).bind fun h24 => bnd2 (alc h24 (.inr (.inl (0, List.replicate 4 0)))) fun a25 h26 => (pfV h26 v0 4 8 (.ref a25)).bind fun h27 => bnd2 (alc h27 (.inr (.inl (0, List.replicate 4 0)))) fun a28 h29 => (pfV h29 v0 4 9 (.ref a28)).bind fun h30 => bnd2 (alc h30 (.inr (.inl (0, List.replicate 4 0)))) fun a31 h32 => (pfV h32 v0 4 10 (.ref a31)).bind fun h33 => bnd2 (alc h33 (.inr (.inl (0, List.replicate 6 0)))) fun a34 h35 => (pfV h35 v0 4 11 (.ref a34)).bind fun h36 => some ((), h36)
theorem t_Frt_init {l : Launch} {G : GX} {v0 : Nat} {h h1 : AHeap} (hf : Frt_init v0 h = some ((), h1)) : CT l G kFrt_init 12 166 [.ref v0] h none h1 := by
  refine CT_of (ls := [some (.ref v0)]) (Z := fun z => z = ((), h1)) (by decide +kernel) (Nat.le_of_ble_eq_true rfl) hf rfl ⟨rfl, trivial⟩ (fun E ok => ?_)
  unfold Frt_init
  refine J_aload_n (pc' := 1) ok (dOf dX4_init 0 rfl) rfl rfl rfl ?_
  refine J_objInit (pc' := 4) ok (dOf dX4_init 1 rfl) rfl wml_X4_3 winst_java_lang_Object__init_ wcode_java_lang_Object__init_ (Nat.le_of_ble_eq_true rfl) (Nat.le_of_ble_eq_true rfl) ?_
  refine J_aload_n (pc' := 5) ok (dOf dX4_init 2 rfl) rfl rfl rfl ?_
  refine J_iconst (v := 4) (pc' := 6) ok (dOf dX4_init 3 rfl) rfl (by decide) ?_
  refine J_newa0 (n := 4) (N := 4) (pc' := 8) ok (dOf dX4_init 4 rfl) rfl warr_int (by decide) (by decide) (by decide) (by decide) (by decide) (fun a1 h2 => ?_)
  refine J_putFR (ci := 4) (kf := 0) (C := RX4) (T := TX4) (N := 12) (pc' := 11) ok tyX4 (dOf dX4_init 5 rfl) rfl rfl (by decide) win_4 tyX4_ok nmX4 (fun _ => ⟨rfl, rfl⟩) rfl rfl rfl wfl_X4_9 (fun h3 _ => ?_)
  refine J_aload_n (pc' := 12) ok (dOf dX4_init 6 rfl) rfl rfl rfl ?_
  refine J_bipush (v := 16) (pc' := 14) ok (dOf dX4_init 7 rfl) rfl (by decide) ?_
  refine J_newa0 (n := 16) (N := 16) (pc' := 16) ok (dOf dX4_init 8 rfl) rfl warr_int (by decide) (by decide) (by decide) (by decide) (by decide) (fun a4 h5 => ?_)
  refine J_putFR (ci := 4) (kf := 1) (C := RX4) (T := TX4) (N := 12) (pc' := 19) ok tyX4 (dOf dX4_init 9 rfl) rfl rfl (by decide) win_4 tyX4_ok nmX4 (fun _ => ⟨rfl, rfl⟩) rfl rfl rfl wfl_X4_15 (fun h6 _ => ?_)
  refine J_aload_n (pc' := 20) ok (dOf dX4_init 10 rfl) rfl rfl rfl ?_
  refine J_bipush (v := 64) (pc' := 22) ok (dOf dX4_init 11 rfl) rfl (by decide) ?_
  refine J_newa0 (n := 64) (N := 64) (pc' := 24) ok (dOf dX4_init 12 rfl) rfl warr_int (by decide) (by decide) (by decide) (by decide) (by decide) (fun a7 h8 => ?_)
  refine J_putFR (ci := 4) (kf := 2) (C := RX4) (T := TX4) (N := 12) (pc' := 27) ok tyX4 (dOf dX4_init 13 rfl) rfl rfl (by decide) win_4 tyX4_ok nmX4 (fun _ => ⟨rfl, rfl⟩) rfl rfl rfl wfl_X4_18 (fun h9 _ => ?_)
  refine J_aload_n (pc' := 28) ok (dOf dX4_init 14 rfl) rfl rfl rfl ?_
  refine J_iconst (v := 4) (pc' := 29) ok (dOf dX4_init 15 rfl) rfl (by decide) ?_
  refine J_newa1 (n := 4) (N := 4) (pc' := 31) ok (dOf dX4_init 16 rfl) rfl warr_boolean (by decide) (by decide) (by decide) (by decide) (by decide) (fun a10 h11 => ?_)
  refine J_putFR (ci := 4) (kf := 3) (C := RX4) (T := TX4) (N := 12) (pc' := 34) ok tyX4 (dOf dX4_init 17 rfl) rfl rfl (by decide) win_4 tyX4_ok nmX4 (fun _ => ⟨rfl, rfl⟩) rfl rfl rfl wfl_X4_21 (fun h12 _ => ?_)
  refine J_aload_n (pc' := 35) ok (dOf dX4_init 18 rfl) rfl rfl rfl ?_
  refine J_iconst (v := 4) (pc' := 36) ok (dOf dX4_init 19 rfl) rfl (by decide) ?_
  refine J_newa0 (n := 4) (N := 4) (pc' := 38) ok (dOf dX4_init 20 rfl) rfl warr_int (by decide) (by decide) (by decide) (by decide) (by decide) (fun a13 h14 => ?_)
  refine J_putFR (ci := 4) (kf := 4) (C := RX4) (T := TX4) (N := 12) (pc' := 41) ok tyX4 (dOf dX4_init 21 rfl) rfl rfl (by decide) win_4 tyX4_ok nmX4 (fun _ => ⟨rfl, rfl⟩) rfl rfl rfl wfl_X4_25 (fun h15 _ => ?_)
  refine J_aload_n (pc' := 42) ok (dOf dX4_init 22 rfl) rfl rfl rfl ?_
  refine J_bipush (v := 24) (pc' := 44) ok (dOf dX4_init 23 rfl) rfl (by decide) ?_
  refine J_newa0 (n := 24) (N := 24) (pc' := 46) ok (dOf dX4_init 24 rfl) rfl warr_int (by decide) (by decide) (by decide) (by decide) (by decide) (fun a16 h17 => ?_)
  refine J_putFR (ci := 4) (kf := 5) (C := RX4) (T := TX4) (N := 12) (pc' := 49) ok tyX4 (dOf dX4_init 25 rfl) rfl rfl (by decide) win_4 tyX4_ok nmX4 (fun _ => ⟨rfl, rfl⟩) rfl rfl rfl wfl_X4_28 (fun h18 _ => ?_)
  refine J_aload_n (pc' := 50) ok (dOf dX4_init 26 rfl) rfl rfl rfl ?_
  refine J_bipush (v := 16) (pc' := 52) ok (dOf dX4_init 27 rfl) rfl (by decide) ?_
  refine J_newa0 (n := 16) (N := 16) (pc' := 54) ok (dOf dX4_init 28 rfl) rfl warr_int (by decide) (by decide) (by decide) (by decide) (by decide) (fun a19 h20 => ?_)
  refine J_putFR (ci := 4) (kf := 6) (C := RX4) (T := TX4) (N := 12) (pc' := 57) ok tyX4 (dOf dX4_init 29 rfl) rfl rfl (by decide) win_4 tyX4_ok nmX4 (fun _ => ⟨rfl, rfl⟩) rfl rfl rfl wfl_X4_31 (fun h21 _ => ?_)
  refine J_aload_n (pc' := 58) ok (dOf dX4_init 30 rfl) rfl rfl rfl ?_
  refine J_bipush (v := 16) (pc' := 60) ok (dOf dX4_init 31 rfl) rfl (by decide) ?_
  refine J_newa0 (n := 16) (N := 16) (pc' := 62) ok (dOf dX4_init 32 rfl) rfl warr_int (by decide) (by decide) (by decide) (by decide) (by decide) (fun a22 h23 => ?_)
  refine J_putFR (ci := 4) (kf := 7) (C := RX4) (T := TX4) (N := 12) (pc' := 65) ok tyX4 (dOf dX4_init 33 rfl) rfl rfl (by decide) win_4 tyX4_ok nmX4 (fun _ => ⟨rfl, rfl⟩) rfl rfl rfl wfl_X4_34 (fun h24 _ => ?_)
  refine J_aload_n (pc' := 66) ok (dOf dX4_init 34 rfl) rfl rfl rfl ?_
  refine J_iconst (v := 4) (pc' := 67) ok (dOf dX4_init 35 rfl) rfl (by decide) ?_
  refine J_newa0 (n := 4) (N := 4) (pc' := 69) ok (dOf dX4_init 36 rfl) rfl warr_int (by decide) (by decide) (by decide) (by decide) (by decide) (fun a25 h26 => ?_)
  refine J_putFR (ci := 4) (kf := 8) (C := RX4) (T := TX4) (N := 12) (pc' := 72) ok tyX4 (dOf dX4_init 37 rfl) rfl rfl (by decide) win_4 tyX4_ok nmX4 (fun _ => ⟨rfl, rfl⟩) rfl rfl rfl wfl_X4_37 (fun h27 _ => ?_)
  refine J_aload_n (pc' := 73) ok (dOf dX4_init 38 rfl) rfl rfl rfl ?_
  refine J_iconst (v := 4) (pc' := 74) ok (dOf dX4_init 39 rfl) rfl (by decide) ?_
  refine J_newa0 (n := 4) (N := 4) (pc' := 76) ok (dOf dX4_init 40 rfl) rfl warr_int (by decide) (by decide) (by decide) (by decide) (by decide) (fun a28 h29 => ?_)
  refine J_putFR (ci := 4) (kf := 9) (C := RX4) (T := TX4) (N := 12) (pc' := 79) ok tyX4 (dOf dX4_init 41 rfl) rfl rfl (by decide) win_4 tyX4_ok nmX4 (fun _ => ⟨rfl, rfl⟩) rfl rfl rfl wfl_X4_40 (fun h30 _ => ?_)
  refine J_aload_n (pc' := 80) ok (dOf dX4_init 42 rfl) rfl rfl rfl ?_
  refine J_iconst (v := 4) (pc' := 81) ok (dOf dX4_init 43 rfl) rfl (by decide) ?_
  refine J_newa0 (n := 4) (N := 4) (pc' := 83) ok (dOf dX4_init 44 rfl) rfl warr_int (by decide) (by decide) (by decide) (by decide) (by decide) (fun a31 h32 => ?_)
  refine J_putFR (ci := 4) (kf := 10) (C := RX4) (T := TX4) (N := 12) (pc' := 86) ok tyX4 (dOf dX4_init 45 rfl) rfl rfl (by decide) win_4 tyX4_ok nmX4 (fun _ => ⟨rfl, rfl⟩) rfl rfl rfl wfl_X4_43 (fun h33 _ => ?_)
  refine J_aload_n (pc' := 87) ok (dOf dX4_init 46 rfl) rfl rfl rfl ?_
  refine J_bipush (v := 6) (pc' := 89) ok (dOf dX4_init 47 rfl) rfl (by decide) ?_
  refine J_newa0 (n := 6) (N := 6) (pc' := 91) ok (dOf dX4_init 48 rfl) rfl warr_int (by decide) (by decide) (by decide) (by decide) (by decide) (fun a34 h35 => ?_)
  refine J_putFR (ci := 4) (kf := 11) (C := RX4) (T := TX4) (N := 12) (pc' := 94) ok tyX4 (dOf dX4_init 49 rfl) rfl rfl (by decide) win_4 tyX4_ok nmX4 (fun _ => ⟨rfl, rfl⟩) rfl rfl rfl wfl_X4_46 (fun h36 _ => ?_)
  exact J_vreturn ok (dOf dX4_init 50 rfl) rfl (by decide) (by decide)
-- X0_init
abbrev kBook_init : Cd := (yX0_init, cX0_init, 1, none, 2, 40)
theorem dX0_init : dcheck cX0_init [(0, .aload_n 0, 1), (1, .invokespecial 3, 3), (4, .aload_n 0, 1), (5, .new 9, 3), (8, .dup, 1), (9, .invokespecial 11, 3), (12, .putfield 12, 3), (15, .aload_n 0, 1), (16, .sipush 1024, 3), (19, .newarray .int, 2), (21, .putfield 18, 3), (24, .aload_n 0, 1), (25, .getfield 18, 3), (28, .bipush (-2), 2), (30, .invokestatic 22, 3), (33, .return_, 1)] = true := by decide +kernel
theorem cw_Book_init {k : Cd} (h1 : kBook_init.2.2.2.2.1 + 1 ≤ k.2.2.2.2.1) (h2 : 8 + (kBook_init.2.2.1 + 11) + kBook_init.2.2.2.2.2 ≤ k.2.2.2.2.2) : Cw k kBook_init 0 := ⟨wcode_X0_init, wini_SplitProgram_Book, ⟨by decide, by decide, by decide +kernel⟩, h1, h2⟩
def Book_init (v0 : Nat) (h : AHeap) : Option (Unit × AHeap) :=
  bnd2 (alc h (.inl (4, [.null, .null, .null, .null, .null, .null, .null, .null, .null, .null, .null, .null]))) fun a1 h2 => bnd2 (Frt_init a1 h2) fun _ h3 => (pfV h3 v0 0 0 (.ref a1)).bind fun h4 => bnd2 (alc h4 (.inr (.inl (0, List.replicate 1024 0)))) fun a5 h6 => (pfV h6 v0 0 1 (.ref a5)).bind fun h7 => (gfR h7 v0 0 1).bind fun a8 => bnd2 (J7_fill a8 (-2) h7) fun _ h9 => some ((), h9)
theorem t_Book_init {l : Launch} {G : GX} {v0 : Nat} {h h1 : AHeap} (hf : Book_init v0 h = some ((), h1)) : CT l G kBook_init 14 1202 [.ref v0] h none h1 := by
  refine CT_of (ls := [some (.ref v0)]) (Z := fun z => z = ((), h1)) (by decide +kernel) (Nat.le_of_ble_eq_true rfl) hf rfl ⟨rfl, trivial⟩ (fun E ok => ?_)
  unfold Book_init
  refine J_aload_n (pc' := 1) ok (dOf dX0_init 0 rfl) rfl rfl rfl ?_
  refine J_objInit (pc' := 4) ok (dOf dX0_init 1 rfl) rfl wml_X0_3 winst_java_lang_Object__init_ wcode_java_lang_Object__init_ (Nat.le_of_ble_eq_true rfl) (Nat.le_of_ble_eq_true rfl) ?_
  refine J_aload_n (pc' := 5) ok (dOf dX0_init 2 rfl) rfl rfl rfl ?_
  refine J_new (ci := 4) (C := RX4) (T := TX4) (N := 12) (fs := [.null, .null, .null, .null, .null, .null, .null, .null, .null, .null, .null, .null]) (pc' := 8) ok tyX4 (dOf dX0_init 3 rfl) rfl rfl win_4 tyX4_ok wcl_X0_9 wins_X4 wini_SplitProgram_Freight (by decide +kernel) (by decide +kernel) (by decide) (by decide) (fun a1 h2 => ?_)
  refine J_dup (pc' := 9) ok (dOf dX0_init 4 rfl) rfl rfl ?_
  refine J_callINv (k2 := kFrt_init) (mc2 := 12) (ms2 := 166) (as := []) (pc' := 12) ok (dOf dX0_init 5 rfl) rfl (cw_Frt_init (by decide) (by decide)) wmn_X0_11 winst_X4_init rfl rfl ⟨by decide, by decide⟩ (Nat.le_of_ble_eq_true rfl) rfl (fun _ _ hf => t_Frt_init hf) (fun _ h3 => ?_)
  refine J_putFR (ci := 0) (kf := 0) (C := RX0) (T := TX0) (N := 2) (pc' := 15) ok tyX0 (dOf dX0_init 6 rfl) rfl rfl (by decide) win_0 tyX0_ok nmX0 (fun _ => ⟨rfl, rfl⟩) rfl rfl rfl wfl_X0_12 (fun h4 _ => ?_)
  refine J_aload_n (pc' := 16) ok (dOf dX0_init 7 rfl) rfl rfl rfl ?_
  refine J_sipush (v := 1024) (pc' := 19) ok (dOf dX0_init 8 rfl) rfl (by decide) ?_
  refine J_newa0 (n := 1024) (N := 1024) (pc' := 21) ok (dOf dX0_init 9 rfl) rfl warr_int (by decide) (by decide) (by decide) (by decide) (by decide) (fun a5 h6 => ?_)
  refine J_putFR (ci := 0) (kf := 1) (C := RX0) (T := TX0) (N := 2) (pc' := 24) ok tyX0 (dOf dX0_init 10 rfl) rfl rfl (by decide) win_0 tyX0_ok nmX0 (fun _ => ⟨rfl, rfl⟩) rfl rfl rfl wfl_X0_18 (fun h7 _ => ?_)
  refine J_aload_n (pc' := 25) ok (dOf dX0_init 11 rfl) rfl rfl rfl ?_
  refine J_getR (ci := 0) (kf := 1) (C := RX0) (T := TX0) (N := 2) (pc' := 28) ok (dOf dX0_init 12 rfl) rfl (by decide) rfl (by decide) win_0 wfl_X0_18 (fun a8 => ?_)
  refine J_bipush (v := (-2)) (pc' := 30) ok (dOf dX0_init 13 rfl) rfl (by decide) ?_
  refine J_callSv (k2 := kJ7_fill) (as := [.ref a8, .int (-2)]) (pc' := 33) ok (dOf dX0_init 14 rfl) rfl (cw_J7_fill (by decide) (by decide)) wml_X0_22 wstat_J7_fill_53178 ⟨by decide, by decide⟩ (Nat.le_of_ble_eq_true rfl) rfl (fun _ _ hf => t_J7_fill hf) (fun _ h9 => ?_)
  exact J_vreturn ok (dOf dX0_init 15 rfl) rfl (by decide) (by decide)
-- X1_init
abbrev kBnds_init : Cd := (yX1_init, cX1_init, 1, none, 1, 20)
theorem dX1_init : dcheck cX1_init [(0, .aload_n 0, 1), (1, .invokespecial 3, 3), (4, .aload_n 0, 1), (5, .iconst 1, 1), (6, .putfield 9, 3), (9, .aload_n 0, 1), (10, .sipush 1024, 3), (13, .newarray .int, 2), (15, .putfield 15, 3), (18, .aload_n 0, 1), (19, .sipush 256, 3), (22, .newarray .boolean, 2), (24, .putfield 19, 3), (27, .return_, 1)] = true := by decide +kernel
theorem cw_Bnds_init {k : Cd} (h1 : kBnds_init.2.2.2.2.1 + 1 ≤ k.2.2.2.2.1) (h2 : 8 + (kBnds_init.2.2.1 + 11) + kBnds_init.2.2.2.2.2 ≤ k.2.2.2.2.2) : Cw k kBnds_init 0 := ⟨wcode_X1_init, wini_SplitProgram_Bounds, ⟨by decide, by decide, by decide +kernel⟩, h1, h2⟩
def Bnds_init (v0 : Nat) (h : AHeap) : Option (Unit × AHeap) :=
  (bz 1).bind fun x2 => (pfV h v0 1 0 (.int x2)).bind fun h1 => bnd2 (alc h1 (.inr (.inl (0, List.replicate 1024 0)))) fun a3 h4 => (pfV h4 v0 1 1 (.ref a3)).bind fun h5 => bnd2 (alc h5 (.inr (.inl (1, List.replicate 256 0)))) fun a6 h7 => (pfV h7 v0 1 2 (.ref a6)).bind fun h8 => some ((), h8)
theorem t_Bnds_init {l : Launch} {G : GX} {v0 : Nat} {h h1 : AHeap} (hf : Bnds_init v0 h = some ((), h1)) : CT l G kBnds_init 2 1280 [.ref v0] h none h1 := by
  refine CT_of (ls := [some (.ref v0)]) (Z := fun z => z = ((), h1)) (by decide +kernel) (Nat.le_of_ble_eq_true rfl) hf rfl ⟨rfl, trivial⟩ (fun E ok => ?_)
  unfold Bnds_init
  refine J_aload_n (pc' := 1) ok (dOf dX1_init 0 rfl) rfl rfl rfl ?_
  refine J_objInit (pc' := 4) ok (dOf dX1_init 1 rfl) rfl wml_X1_3 winst_java_lang_Object__init_ wcode_java_lang_Object__init_ (Nat.le_of_ble_eq_true rfl) (Nat.le_of_ble_eq_true rfl) ?_
  refine J_aload_n (pc' := 5) ok (dOf dX1_init 2 rfl) rfl rfl rfl ?_
  refine J_iconst (v := 1) (pc' := 6) ok (dOf dX1_init 3 rfl) rfl (by decide) ?_
  refine J_putZ (ci := 1) (kf := 0) (C := RX1) (T := TX1) (N := 3) (pc' := 9) ok tyX1 (dOf dX1_init 4 rfl) rfl rfl (by decide) win_1 tyX1_ok nmX1 rfl rfl wfl_X1_9 (fun h1 _ => ?_)
  refine J_aload_n (pc' := 10) ok (dOf dX1_init 5 rfl) rfl rfl rfl ?_
  refine J_sipush (v := 1024) (pc' := 13) ok (dOf dX1_init 6 rfl) rfl (by decide) ?_
  refine J_newa0 (n := 1024) (N := 1024) (pc' := 15) ok (dOf dX1_init 7 rfl) rfl warr_int (by decide) (by decide) (by decide) (by decide) (by decide) (fun a3 h4 => ?_)
  refine J_putFR (ci := 1) (kf := 1) (C := RX1) (T := TX1) (N := 3) (pc' := 18) ok tyX1 (dOf dX1_init 8 rfl) rfl rfl (by decide) win_1 tyX1_ok nmX1 (fun _ => ⟨rfl, rfl⟩) rfl rfl rfl wfl_X1_15 (fun h5 _ => ?_)
  refine J_aload_n (pc' := 19) ok (dOf dX1_init 9 rfl) rfl rfl rfl ?_
  refine J_sipush (v := 256) (pc' := 22) ok (dOf dX1_init 10 rfl) rfl (by decide) ?_
  refine J_newa1 (n := 256) (N := 256) (pc' := 24) ok (dOf dX1_init 11 rfl) rfl warr_boolean (by decide) (by decide) (by decide) (by decide) (by decide) (fun a6 h7 => ?_)
  refine J_putFR (ci := 1) (kf := 2) (C := RX1) (T := TX1) (N := 3) (pc' := 27) ok tyX1 (dOf dX1_init 12 rfl) rfl rfl (by decide) win_1 tyX1_ok nmX1 (fun _ => ⟨rfl, rfl⟩) rfl rfl rfl wfl_X1_19 (fun h8 _ => ?_)
  exact J_vreturn ok (dOf dX1_init 13 rfl) rfl (by decide) (by decide)
-- X3_init
abbrev kEng_init : Cd := (yX3_init, cX3_init, 1, none, 3, 60)
theorem dX3_init : dcheck cX3_init [(0, .aload_n 0, 1), (1, .invokespecial 3, 3), (4, .aload_n 0, 1), (5, .new 9, 3), (8, .dup, 1), (9, .invokespecial 11, 3), (12, .putfield 12, 3), (15, .aload_n 0, 1), (16, .new 18, 3), (19, .dup, 1), (20, .invokespecial 20, 3), (23, .putfield 21, 3), (26, .aload_n 0, 1), (27, .iconst 4, 1), (28, .newarray .int, 2), (30, .putfield 25, 3), (33, .aload_n 0, 1), (34, .iconst 4, 1), (35, .newarray .int, 2), (37, .putfield 29, 3), (40, .aload_n 0, 1), (41, .iconst 4, 1), (42, .newarray .boolean, 2), (44, .putfield 32, 3), (47, .aload_n 0, 1), (48, .bipush 99, 2), (50, .newarray .int, 2), (52, .putfield 36, 3), (55, .return_, 1)] = true := by decide +kernel
theorem cw_Eng_init {k : Cd} (h1 : kEng_init.2.2.2.2.1 + 1 ≤ k.2.2.2.2.1) (h2 : 8 + (kEng_init.2.2.1 + 11) + kEng_init.2.2.2.2.2 ≤ k.2.2.2.2.2) : Cw k kEng_init 0 := ⟨wcode_X3_init, wini_SplitProgram_Engine, ⟨by decide, by decide, by decide +kernel⟩, h1, h2⟩
def Eng_init (v0 : Nat) (h : AHeap) : Option (Unit × AHeap) :=
  bnd2 (alc h (.inl (0, [.null, .null]))) fun a1 h2 => bnd2 (Book_init a1 h2) fun _ h3 => (pfV h3 v0 3 0 (.ref a1)).bind fun h4 => bnd2 (alc h4 (.inl (1, [.int 0, .null, .null]))) fun a5 h6 => bnd2 (Bnds_init a5 h6) fun _ h7 => (pfV h7 v0 3 1 (.ref a5)).bind fun h8 => bnd2 (alc h8 (.inr (.inl (0, List.replicate 4 0)))) fun a9 h10 => (pfV h10 v0 3 2 (.ref a9)).bind fun h11 => bnd2 (alc h11 (.inr (.inl (0, List.replicate 4 0)))) fun a12 h13 => (pfV h13 v0 3 3 (.ref a12)).bind fun h14 => bnd2 (alc h14 (.inr (.inl (1, List.replicate 4 0)))) fun a15 h16 => (pfV h16 v0 3 4 (.ref a15)).bind fun h17 => bnd2 (alc h17 (.inr (.inl (0, List.replicate 99 0)))) fun a18 h19 => (pfV h19 v0 3 5 (.ref a18)).bind fun h20 => some ((), h20)
theorem t_Eng_init {l : Launch} {G : GX} {v0 : Nat} {h h1 : AHeap} (hf : Eng_init v0 h = some ((), h1)) : CT l G kEng_init 22 2598 [.ref v0] h none h1 := by
  refine CT_of (ls := [some (.ref v0)]) (Z := fun z => z = ((), h1)) (by decide +kernel) (Nat.le_of_ble_eq_true rfl) hf rfl ⟨rfl, trivial⟩ (fun E ok => ?_)
  unfold Eng_init
  refine J_aload_n (pc' := 1) ok (dOf dX3_init 0 rfl) rfl rfl rfl ?_
  refine J_objInit (pc' := 4) ok (dOf dX3_init 1 rfl) rfl wml_X3_3 winst_java_lang_Object__init_ wcode_java_lang_Object__init_ (Nat.le_of_ble_eq_true rfl) (Nat.le_of_ble_eq_true rfl) ?_
  refine J_aload_n (pc' := 5) ok (dOf dX3_init 2 rfl) rfl rfl rfl ?_
  refine J_new (ci := 0) (C := RX0) (T := TX0) (N := 2) (fs := [.null, .null]) (pc' := 8) ok tyX0 (dOf dX3_init 3 rfl) rfl rfl win_0 tyX0_ok wcl_X3_9 wins_X0 wini_SplitProgram_Book (by decide +kernel) (by decide +kernel) (by decide) (by decide) (fun a1 h2 => ?_)
  refine J_dup (pc' := 9) ok (dOf dX3_init 4 rfl) rfl rfl ?_
  refine J_callIv (k2 := kBook_init) (mc2 := 14) (ms2 := 1202) (as := []) (pc' := 12) ok (dOf dX3_init 5 rfl) rfl (cw_Book_init (by decide) (by decide)) wml_X3_11 winst_X0_init rfl rfl ⟨by decide, by decide⟩ (Nat.le_of_ble_eq_true rfl) rfl (fun _ _ hf => t_Book_init hf) (fun _ h3 => ?_)
  refine J_putFR (ci := 3) (kf := 0) (C := RX3) (T := TX3) (N := 12) (pc' := 15) ok tyX3 (dOf dX3_init 6 rfl) rfl rfl (by decide) win_3 tyX3_ok nmX3 (fun _ => ⟨rfl, rfl⟩) rfl rfl rfl wfl_X3_12 (fun h4 _ => ?_)
  refine J_aload_n (pc' := 16) ok (dOf dX3_init 7 rfl) rfl rfl rfl ?_
  refine J_new (ci := 1) (C := RX1) (T := TX1) (N := 3) (fs := [.int 0, .null, .null]) (pc' := 19) ok tyX1 (dOf dX3_init 8 rfl) rfl rfl win_1 tyX1_ok wcl_X3_18 wins_X1 wini_SplitProgram_Bounds (by decide +kernel) (by decide +kernel) (by decide) (by decide) (fun a5 h6 => ?_)
  refine J_dup (pc' := 20) ok (dOf dX3_init 9 rfl) rfl rfl ?_
  refine J_callINv (k2 := kBnds_init) (mc2 := 2) (ms2 := 1280) (as := []) (pc' := 23) ok (dOf dX3_init 10 rfl) rfl (cw_Bnds_init (by decide) (by decide)) wmn_X3_20 winst_X1_init rfl rfl ⟨by decide, by decide⟩ (Nat.le_of_ble_eq_true rfl) rfl (fun _ _ hf => t_Bnds_init hf) (fun _ h7 => ?_)
  refine J_putFR (ci := 3) (kf := 1) (C := RX3) (T := TX3) (N := 12) (pc' := 26) ok tyX3 (dOf dX3_init 11 rfl) rfl rfl (by decide) win_3 tyX3_ok nmX3 (fun _ => ⟨rfl, rfl⟩) rfl rfl rfl wfl_X3_21 (fun h8 _ => ?_)
  refine J_aload_n (pc' := 27) ok (dOf dX3_init 12 rfl) rfl rfl rfl ?_
  refine J_iconst (v := 4) (pc' := 28) ok (dOf dX3_init 13 rfl) rfl (by decide) ?_
  refine J_newa0 (n := 4) (N := 4) (pc' := 30) ok (dOf dX3_init 14 rfl) rfl warr_int (by decide) (by decide) (by decide) (by decide) (by decide) (fun a9 h10 => ?_)
  refine J_putFR (ci := 3) (kf := 2) (C := RX3) (T := TX3) (N := 12) (pc' := 33) ok tyX3 (dOf dX3_init 15 rfl) rfl rfl (by decide) win_3 tyX3_ok nmX3 (fun _ => ⟨rfl, rfl⟩) rfl rfl rfl wfl_X3_25 (fun h11 _ => ?_)
  refine J_aload_n (pc' := 34) ok (dOf dX3_init 16 rfl) rfl rfl rfl ?_
  refine J_iconst (v := 4) (pc' := 35) ok (dOf dX3_init 17 rfl) rfl (by decide) ?_
  refine J_newa0 (n := 4) (N := 4) (pc' := 37) ok (dOf dX3_init 18 rfl) rfl warr_int (by decide) (by decide) (by decide) (by decide) (by decide) (fun a12 h13 => ?_)
  refine J_putFR (ci := 3) (kf := 3) (C := RX3) (T := TX3) (N := 12) (pc' := 40) ok tyX3 (dOf dX3_init 19 rfl) rfl rfl (by decide) win_3 tyX3_ok nmX3 (fun _ => ⟨rfl, rfl⟩) rfl rfl rfl wfl_X3_29 (fun h14 _ => ?_)
  refine J_aload_n (pc' := 41) ok (dOf dX3_init 20 rfl) rfl rfl rfl ?_
  refine J_iconst (v := 4) (pc' := 42) ok (dOf dX3_init 21 rfl) rfl (by decide) ?_
  refine J_newa1 (n := 4) (N := 4) (pc' := 44) ok (dOf dX3_init 22 rfl) rfl warr_boolean (by decide) (by decide) (by decide) (by decide) (by decide) (fun a15 h16 => ?_)
  refine J_putFR (ci := 3) (kf := 4) (C := RX3) (T := TX3) (N := 12) (pc' := 47) ok tyX3 (dOf dX3_init 23 rfl) rfl rfl (by decide) win_3 tyX3_ok nmX3 (fun _ => ⟨rfl, rfl⟩) rfl rfl rfl wfl_X3_32 (fun h17 _ => ?_)
  refine J_aload_n (pc' := 48) ok (dOf dX3_init 24 rfl) rfl rfl rfl ?_
  refine J_bipush (v := 99) (pc' := 50) ok (dOf dX3_init 25 rfl) rfl (by decide) ?_
  refine J_newa0 (n := 99) (N := 99) (pc' := 52) ok (dOf dX3_init 26 rfl) rfl warr_int (by decide) (by decide) (by decide) (by decide) (by decide) (fun a18 h19 => ?_)
  refine J_putFR (ci := 3) (kf := 5) (C := RX3) (T := TX3) (N := 12) (pc' := 55) ok tyX3 (dOf dX3_init 27 rfl) rfl rfl (by decide) win_3 tyX3_ok nmX3 (fun _ => ⟨rfl, rfl⟩) rfl rfl rfl wfl_X3_36 (fun h20 _ => ?_)
  exact J_vreturn ok (dOf dX3_init 28 rfl) rfl (by decide) (by decide)
-- X9_init
abbrev kTape_init : Cd := (yX9_init, cX9_init, 1, none, 1, 20)
theorem dX9_init : dcheck cX9_init [(0, .aload_n 0, 1), (1, .invokespecial 3, 3), (4, .aload_n 0, 1), (5, .sipush 400, 3), (8, .newarray .byte, 2), (10, .putfield 11, 3), (13, .aload_n 0, 1), (14, .iconst (-1), 1), (15, .putfield 15, 3), (18, .return_, 1)] = true := by decide +kernel
theorem cw_Tape_init {k : Cd} (h1 : kTape_init.2.2.2.2.1 + 1 ≤ k.2.2.2.2.1) (h2 : 8 + (kTape_init.2.2.1 + 11) + kTape_init.2.2.2.2.2 ≤ k.2.2.2.2.2) : Cw k kTape_init 0 := ⟨wcode_X9_init, wini_SplitProgram_Tape, ⟨by decide, by decide, by decide +kernel⟩, h1, h2⟩
def Tape_init (v0 : Nat) (h : AHeap) : Option (Unit × AHeap) :=
  bnd2 (alc h (.inr (.inl (2, List.replicate 400 0)))) fun a1 h2 => (pfV h2 v0 9 0 (.ref a1)).bind fun h3 => (pfV h3 v0 9 2 (.int (-1))).bind fun h4 => some ((), h4)
theorem t_Tape_init {l : Launch} {G : GX} {v0 : Nat} {h h1 : AHeap} (hf : Tape_init v0 h = some ((), h1)) : CT l G kTape_init 1 400 [.ref v0] h none h1 := by
  refine CT_of (ls := [some (.ref v0)]) (Z := fun z => z = ((), h1)) (by decide +kernel) (Nat.le_of_ble_eq_true rfl) hf rfl ⟨rfl, trivial⟩ (fun E ok => ?_)
  unfold Tape_init
  refine J_aload_n (pc' := 1) ok (dOf dX9_init 0 rfl) rfl rfl rfl ?_
  refine J_objInit (pc' := 4) ok (dOf dX9_init 1 rfl) rfl wml_X9_3 winst_java_lang_Object__init_ wcode_java_lang_Object__init_ (Nat.le_of_ble_eq_true rfl) (Nat.le_of_ble_eq_true rfl) ?_
  refine J_aload_n (pc' := 5) ok (dOf dX9_init 2 rfl) rfl rfl rfl ?_
  refine J_sipush (v := 400) (pc' := 8) ok (dOf dX9_init 3 rfl) rfl (by decide) ?_
  refine J_newa2 (n := 400) (N := 400) (pc' := 10) ok (dOf dX9_init 4 rfl) rfl warr_byte (by decide) (by decide) (by decide) (by decide) (by decide) (fun a1 h2 => ?_)
  refine J_putFR (ci := 9) (kf := 0) (C := RX9) (T := TX9) (N := 6) (pc' := 13) ok tyX9 (dOf dX9_init 5 rfl) rfl rfl (by decide) win_9 tyX9_ok nmX9 (fun _ => ⟨rfl, rfl⟩) rfl rfl rfl wfl_X9_11 (fun h3 _ => ?_)
  refine J_aload_n (pc' := 14) ok (dOf dX9_init 6 rfl) rfl rfl rfl ?_
  refine J_iconst (v := (-1)) (pc' := 15) ok (dOf dX9_init 7 rfl) rfl (by decide) ?_
  refine J_putI (ci := 9) (kf := 2) (C := RX9) (T := TX9) (N := 6) (pc' := 18) ok tyX9 (dOf dX9_init 8 rfl) rfl rfl (by decide) win_9 tyX9_ok nmX9 rfl rfl wfl_X9_15 (fun h4 _ => ?_)
  exact J_vreturn ok (dOf dX9_init 9 rfl) rfl (by decide) (by decide)
-- X5_init
abbrev kHist_init : Cd := (yX5_init, cX5_init, 2, none, 3, 63)
theorem dX5_init : dcheck cX5_init [(0, .aload_n 0, 1), (1, .invokespecial 3, 3), (4, .aload_n 0, 1), (5, .bipush 12, 2), (7, .anewarray 9, 3), (10, .putfield 11, 3), (13, .aload_n 0, 1), (14, .bipush 12, 2), (16, .newarray .int, 2), (18, .putfield 17, 3), (21, .iconst 0, 1), (22, .istore_n 1, 1), (23, .iload_n 1, 1), (24, .bipush 12, 2), (26, .if_icmp .ge 22, 3), (29, .aload_n 0, 1), (30, .getfield 11, 3), (33, .iload_n 1, 1), (34, .new 9, 3), (37, .dup, 1), (38, .invokespecial 21, 3), (41, .aastore, 1), (42, .iinc 1 1, 3), (45, .goto (-22), 3), (48, .return_, 1)] = true := by decide +kernel
theorem cw_Hist_init {k : Cd} (h1 : kHist_init.2.2.2.2.1 + 1 ≤ k.2.2.2.2.1) (h2 : 8 + (kHist_init.2.2.1 + 11) + kHist_init.2.2.2.2.2 ≤ k.2.2.2.2.2) : Cw k kHist_init 0 := ⟨wcode_X5_init, wini_SplitProgram_History, ⟨by decide, by decide, by decide +kernel⟩, h1, h2⟩
def Hist_init (v0 : Nat) (h : AHeap) : Option (Unit × AHeap) :=
  bnd2 (alc h (.inr (.inr (List.replicate 12 none)))) fun a1 h2 => (pfV h2 v0 5 0 (.ref a1)).bind fun h3 => bnd2 (alc h3 (.inr (.inl (0, List.replicate 12 0)))) fun a4 h5 => (pfV h5 v0 5 1 (.ref a4)).bind fun h6 => (gfR h6 v0 5 0).bind fun a7 => bnd2 (alc h6 (.inl (8, [.null, .null, .null]))) fun a8 h9 => bnd2 (Stat_init a8 h9) fun _ h10 => (astR h10 a7 0 a8).bind fun h11 => (gfR h11 v0 5 0).bind fun a12 => bnd2 (alc h11 (.inl (8, [.null, .null, .null]))) fun a13 h14 => bnd2 (Stat_init a13 h14) fun _ h15 => (astR h15 a12 (0 + 1) a13).bind fun h16 => (gfR h16 v0 5 0).bind fun a17 => bnd2 (alc h16 (.inl (8, [.null, .null, .null]))) fun a18 h19 => bnd2 (Stat_init a18 h19) fun _ h20 => (astR h20 a17 ((0 + 1) + 1) a18).bind fun h21 => (gfR h21 v0 5 0).bind fun a22 => bnd2 (alc h21 (.inl (8, [.null, .null, .null]))) fun a23 h24 => bnd2 (Stat_init a23 h24) fun _ h25 => (astR h25 a22 (((0 + 1) + 1) + 1) a23).bind fun h26 => (gfR h26 v0 5 0).bind fun a27 => bnd2 (alc h26 (.inl (8, [.null, .null, .null]))) fun a28 h29 => bnd2 (Stat_init a28 h29) fun _ h30 => (astR h30 a27 ((((0 + 1) + 1) + 1) + 1) a28).bind fun h31 => (gfR h31 v0 5 0).bind fun a32 => bnd2 (alc h31 (.inl (8, [.null, .null, .null]))) fun a33 h34 => bnd2 (Stat_init a33 h34) fun _ h35 => (astR h35 a32 (((((0 + 1) + 1) + 1) + 1) + 1) a33).bind fun h36 => (gfR h36 v0 5 0).bind fun a37 => bnd2 (alc h36 (.inl (8, [.null, .null, .null]))) fun a38 h39 => bnd2 (Stat_init a38 h39) fun _ h40 => (astR h40 a37 ((((((0 + 1) + 1) + 1) + 1) + 1) + 1) a38).bind fun h41 => (gfR h41 v0 5 0).bind fun a42 => bnd2 (alc h41 (.inl (8, [.null, .null, .null]))) fun a43 h44 => bnd2 (Stat_init a43 h44) fun _ h45 => (astR h45 a42 (((((((0 + 1) + 1) + 1) + 1) + 1) + 1) + 1) a43).bind fun h46 => (gfR h46 v0 5 0).bind fun a47 => bnd2 (alc h46 (.inl (8, [.null, .null, .null]))) fun a48 h49 => bnd2 (Stat_init a48 h49) fun _ h50 => (astR h50 a47 ((((((((0 + 1) + 1) + 1) + 1) + 1) + 1) + 1) + 1) a48).bind fun h51 => (gfR h51 v0 5 0).bind fun a52 => bnd2 (alc h51 (.inl (8, [.null, .null, .null]))) fun a53 h54 => bnd2 (Stat_init a53 h54) fun _ h55 => (astR h55 a52 (((((((((0 + 1) + 1) + 1) + 1) + 1) + 1) + 1) + 1) + 1) a53).bind fun h56 => (gfR h56 v0 5 0).bind fun a57 => bnd2 (alc h56 (.inl (8, [.null, .null, .null]))) fun a58 h59 => bnd2 (Stat_init a58 h59) fun _ h60 => (astR h60 a57 ((((((((((0 + 1) + 1) + 1) + 1) + 1) + 1) + 1) + 1) + 1) + 1) a58).bind fun h61 => (gfR h61 v0 5 0).bind fun a62 => bnd2 (alc h61 (.inl (8, [.null, .null, .null]))) fun a63 h64 => bnd2 (Stat_init a63 h64) fun _ h65 => (astR h65 a62 (((((((((((0 + 1) + 1) + 1) + 1) + 1) + 1) + 1) + 1) + 1) + 1) + 1) a63).bind fun h66 => some ((), h66)
theorem t_Hist_init {l : Launch} {G : GX} {v0 : Nat} {h h1 : AHeap} (hf : Hist_init v0 h = some ((), h1)) : CT l G kHist_init 182 7344 [.ref v0] h none h1 := by
  refine CT_of (ls := [some (.ref v0), none]) (Z := fun z => z = ((), h1)) (by decide +kernel) (Nat.le_of_ble_eq_true rfl) hf rfl ⟨rfl, trivial⟩ (fun E ok => ?_)
  unfold Hist_init
  refine J_aload_n (pc' := 1) ok (dOf dX5_init 0 rfl) rfl rfl rfl ?_
  refine J_objInit (pc' := 4) ok (dOf dX5_init 1 rfl) rfl wml_X5_3 winst_java_lang_Object__init_ wcode_java_lang_Object__init_ (Nat.le_of_ble_eq_true rfl) (Nat.le_of_ble_eq_true rfl) ?_
  refine J_aload_n (pc' := 5) ok (dOf dX5_init 2 rfl) rfl rfl rfl ?_
  refine J_bipush (v := 12) (pc' := 7) ok (dOf dX5_init 3 rfl) rfl (by decide) ?_
  refine J_anew (n := 12) (N := 12) (pc' := 10) ok (dOf dX5_init 4 rfl) rfl wcl_X5_9 (by decide) (by decide) (by decide) (by decide) (by decide) (fun a1 h2 => ?_)
  refine J_putFR (ci := 5) (kf := 0) (C := RX5) (T := TX5) (N := 4) (pc' := 13) ok tyX5 (dOf dX5_init 5 rfl) rfl rfl (by decide) win_5 tyX5_ok nmX5 (fun _ => ⟨rfl, rfl⟩) rfl rfl rfl wfl_X5_11 (fun h3 _ => ?_)
  refine J_aload_n (pc' := 14) ok (dOf dX5_init 6 rfl) rfl rfl rfl ?_
  refine J_bipush (v := 12) (pc' := 16) ok (dOf dX5_init 7 rfl) rfl (by decide) ?_
  refine J_newa0 (n := 12) (N := 12) (pc' := 18) ok (dOf dX5_init 8 rfl) rfl warr_int (by decide) (by decide) (by decide) (by decide) (by decide) (fun a4 h5 => ?_)
  refine J_putFR (ci := 5) (kf := 1) (C := RX5) (T := TX5) (N := 4) (pc' := 21) ok tyX5 (dOf dX5_init 9 rfl) rfl rfl (by decide) win_5 tyX5_ok nmX5 (fun _ => ⟨rfl, rfl⟩) rfl rfl rfl wfl_X5_17 (fun h6 _ => ?_)
  refine J_iconst (v := 0) (pc' := 22) ok (dOf dX5_init 10 rfl) rfl (by decide) ?_
  refine J_istore_n (ls' := [some (.ref v0), some (.int 0)]) (pc' := 23) ok (dOf dX5_init 11 rfl) rfl rfl (Nat.le_of_ble_eq_true rfl) rfl rfl ?_
  refine J_iload_n (pc' := 24) ok (dOf dX5_init 12 rfl) rfl rfl rfl ?_
  refine J_bipush (v := 12) (pc' := 26) ok (dOf dX5_init 13 rfl) rfl (by decide) ?_
  refine J_icmp_ge_f (tgt := 48) (pc' := 29) ok (dOf dX5_init 14 rfl) rfl (by decide) (by decide) ?_
  refine J_aload_n (pc' := 30) ok (dOf dX5_init 15 rfl) rfl rfl rfl ?_
  refine J_getR (ci := 5) (kf := 0) (C := RX5) (T := TX5) (N := 4) (pc' := 33) ok (dOf dX5_init 16 rfl) rfl (by decide) rfl (by decide) win_5 wfl_X5_11 (fun a7 => ?_)
  refine J_iload_n (pc' := 34) ok (dOf dX5_init 17 rfl) rfl rfl rfl ?_
  refine J_new (ci := 8) (C := RX8) (T := TX8) (N := 3) (fs := [.null, .null, .null]) (pc' := 37) ok tyX8 (dOf dX5_init 18 rfl) rfl rfl win_8 tyX8_ok wcl_X5_9 wins_X8 wini_SplitProgram_State (by decide +kernel) (by decide +kernel) (by decide) (by decide) (fun a8 h9 => ?_)
  refine J_dup (pc' := 38) ok (dOf dX5_init 19 rfl) rfl rfl ?_
  refine J_callINv (k2 := kStat_init) (mc2 := 14) (ms2 := 607) (as := []) (pc' := 41) ok (dOf dX5_init 20 rfl) rfl (cw_Stat_init (by decide) (by decide)) wmn_X5_21 winst_X8_init rfl rfl ⟨by decide, by decide⟩ (Nat.le_of_ble_eq_true rfl) rfl (fun _ _ hf => t_Stat_init hf) (fun _ h10 => ?_)
  refine J_astR (pc' := 42) ok (dOf dX5_init 21 rfl) rfl (fun h11 _ => ?_)
  refine J_iinc (v := 0 + 1) (ls' := [some (.ref v0), some (.int (0 + 1))]) (pc' := 45) ok (dOf dX5_init 22 rfl) rfl rfl (by rfl) (Nat.le_of_ble_eq_true rfl) rfl rfl ?_
  refine J_goto (tgt := 23) ok (dOf dX5_init 23 rfl) (by decide) ?_
  refine J_iload_n (pc' := 24) ok (dOf dX5_init 12 rfl) rfl rfl rfl ?_
  refine J_bipush (v := 12) (pc' := 26) ok (dOf dX5_init 13 rfl) rfl (by decide) ?_
  refine J_icmp_ge_f (tgt := 48) (pc' := 29) ok (dOf dX5_init 14 rfl) rfl (by decide) (by decide) ?_
  refine J_aload_n (pc' := 30) ok (dOf dX5_init 15 rfl) rfl rfl rfl ?_
  refine J_getR (ci := 5) (kf := 0) (C := RX5) (T := TX5) (N := 4) (pc' := 33) ok (dOf dX5_init 16 rfl) rfl (by decide) rfl (by decide) win_5 wfl_X5_11 (fun a12 => ?_)
  refine J_iload_n (pc' := 34) ok (dOf dX5_init 17 rfl) rfl rfl rfl ?_
  refine J_new (ci := 8) (C := RX8) (T := TX8) (N := 3) (fs := [.null, .null, .null]) (pc' := 37) ok tyX8 (dOf dX5_init 18 rfl) rfl rfl win_8 tyX8_ok wcl_X5_9 wins_X8 wini_SplitProgram_State (by decide +kernel) (by decide +kernel) (by decide) (by decide) (fun a13 h14 => ?_)
  refine J_dup (pc' := 38) ok (dOf dX5_init 19 rfl) rfl rfl ?_
  refine J_callINv (k2 := kStat_init) (mc2 := 14) (ms2 := 607) (as := []) (pc' := 41) ok (dOf dX5_init 20 rfl) rfl (cw_Stat_init (by decide) (by decide)) wmn_X5_21 winst_X8_init rfl rfl ⟨by decide, by decide⟩ (Nat.le_of_ble_eq_true rfl) rfl (fun _ _ hf => t_Stat_init hf) (fun _ h15 => ?_)
  refine J_astR (pc' := 42) ok (dOf dX5_init 21 rfl) rfl (fun h16 _ => ?_)
  refine J_iinc (v := (0 + 1) + 1) (ls' := [some (.ref v0), some (.int ((0 + 1) + 1))]) (pc' := 45) ok (dOf dX5_init 22 rfl) rfl rfl (by rfl) (Nat.le_of_ble_eq_true rfl) rfl rfl ?_
  refine J_goto (tgt := 23) ok (dOf dX5_init 23 rfl) (by decide) ?_
  refine J_iload_n (pc' := 24) ok (dOf dX5_init 12 rfl) rfl rfl rfl ?_
  refine J_bipush (v := 12) (pc' := 26) ok (dOf dX5_init 13 rfl) rfl (by decide) ?_
  refine J_icmp_ge_f (tgt := 48) (pc' := 29) ok (dOf dX5_init 14 rfl) rfl (by decide) (by decide) ?_
  refine J_aload_n (pc' := 30) ok (dOf dX5_init 15 rfl) rfl rfl rfl ?_
  refine J_getR (ci := 5) (kf := 0) (C := RX5) (T := TX5) (N := 4) (pc' := 33) ok (dOf dX5_init 16 rfl) rfl (by decide) rfl (by decide) win_5 wfl_X5_11 (fun a17 => ?_)
  refine J_iload_n (pc' := 34) ok (dOf dX5_init 17 rfl) rfl rfl rfl ?_
  refine J_new (ci := 8) (C := RX8) (T := TX8) (N := 3) (fs := [.null, .null, .null]) (pc' := 37) ok tyX8 (dOf dX5_init 18 rfl) rfl rfl win_8 tyX8_ok wcl_X5_9 wins_X8 wini_SplitProgram_State (by decide +kernel) (by decide +kernel) (by decide) (by decide) (fun a18 h19 => ?_)
  refine J_dup (pc' := 38) ok (dOf dX5_init 19 rfl) rfl rfl ?_
  refine J_callINv (k2 := kStat_init) (mc2 := 14) (ms2 := 607) (as := []) (pc' := 41) ok (dOf dX5_init 20 rfl) rfl (cw_Stat_init (by decide) (by decide)) wmn_X5_21 winst_X8_init rfl rfl ⟨by decide, by decide⟩ (Nat.le_of_ble_eq_true rfl) rfl (fun _ _ hf => t_Stat_init hf) (fun _ h20 => ?_)
  refine J_astR (pc' := 42) ok (dOf dX5_init 21 rfl) rfl (fun h21 _ => ?_)
  refine J_iinc (v := ((0 + 1) + 1) + 1) (ls' := [some (.ref v0), some (.int (((0 + 1) + 1) + 1))]) (pc' := 45) ok (dOf dX5_init 22 rfl) rfl rfl (by rfl) (Nat.le_of_ble_eq_true rfl) rfl rfl ?_
  refine J_goto (tgt := 23) ok (dOf dX5_init 23 rfl) (by decide) ?_
  refine J_iload_n (pc' := 24) ok (dOf dX5_init 12 rfl) rfl rfl rfl ?_
  refine J_bipush (v := 12) (pc' := 26) ok (dOf dX5_init 13 rfl) rfl (by decide) ?_
  refine J_icmp_ge_f (tgt := 48) (pc' := 29) ok (dOf dX5_init 14 rfl) rfl (by decide) (by decide) ?_
  refine J_aload_n (pc' := 30) ok (dOf dX5_init 15 rfl) rfl rfl rfl ?_
  refine J_getR (ci := 5) (kf := 0) (C := RX5) (T := TX5) (N := 4) (pc' := 33) ok (dOf dX5_init 16 rfl) rfl (by decide) rfl (by decide) win_5 wfl_X5_11 (fun a22 => ?_)
  refine J_iload_n (pc' := 34) ok (dOf dX5_init 17 rfl) rfl rfl rfl ?_
  refine J_new (ci := 8) (C := RX8) (T := TX8) (N := 3) (fs := [.null, .null, .null]) (pc' := 37) ok tyX8 (dOf dX5_init 18 rfl) rfl rfl win_8 tyX8_ok wcl_X5_9 wins_X8 wini_SplitProgram_State (by decide +kernel) (by decide +kernel) (by decide) (by decide) (fun a23 h24 => ?_)
  refine J_dup (pc' := 38) ok (dOf dX5_init 19 rfl) rfl rfl ?_
  refine J_callINv (k2 := kStat_init) (mc2 := 14) (ms2 := 607) (as := []) (pc' := 41) ok (dOf dX5_init 20 rfl) rfl (cw_Stat_init (by decide) (by decide)) wmn_X5_21 winst_X8_init rfl rfl ⟨by decide, by decide⟩ (Nat.le_of_ble_eq_true rfl) rfl (fun _ _ hf => t_Stat_init hf) (fun _ h25 => ?_)
  refine J_astR (pc' := 42) ok (dOf dX5_init 21 rfl) rfl (fun h26 _ => ?_)
  refine J_iinc (v := (((0 + 1) + 1) + 1) + 1) (ls' := [some (.ref v0), some (.int ((((0 + 1) + 1) + 1) + 1))]) (pc' := 45) ok (dOf dX5_init 22 rfl) rfl rfl (by rfl) (Nat.le_of_ble_eq_true rfl) rfl rfl ?_
  refine J_goto (tgt := 23) ok (dOf dX5_init 23 rfl) (by decide) ?_
  refine J_iload_n (pc' := 24) ok (dOf dX5_init 12 rfl) rfl rfl rfl ?_
  refine J_bipush (v := 12) (pc' := 26) ok (dOf dX5_init 13 rfl) rfl (by decide) ?_
  refine J_icmp_ge_f (tgt := 48) (pc' := 29) ok (dOf dX5_init 14 rfl) rfl (by decide) (by decide) ?_
  refine J_aload_n (pc' := 30) ok (dOf dX5_init 15 rfl) rfl rfl rfl ?_
  refine J_getR (ci := 5) (kf := 0) (C := RX5) (T := TX5) (N := 4) (pc' := 33) ok (dOf dX5_init 16 rfl) rfl (by decide) rfl (by decide) win_5 wfl_X5_11 (fun a27 => ?_)
  refine J_iload_n (pc' := 34) ok (dOf dX5_init 17 rfl) rfl rfl rfl ?_
  refine J_new (ci := 8) (C := RX8) (T := TX8) (N := 3) (fs := [.null, .null, .null]) (pc' := 37) ok tyX8 (dOf dX5_init 18 rfl) rfl rfl win_8 tyX8_ok wcl_X5_9 wins_X8 wini_SplitProgram_State (by decide +kernel) (by decide +kernel) (by decide) (by decide) (fun a28 h29 => ?_)
  refine J_dup (pc' := 38) ok (dOf dX5_init 19 rfl) rfl rfl ?_
  refine J_callINv (k2 := kStat_init) (mc2 := 14) (ms2 := 607) (as := []) (pc' := 41) ok (dOf dX5_init 20 rfl) rfl (cw_Stat_init (by decide) (by decide)) wmn_X5_21 winst_X8_init rfl rfl ⟨by decide, by decide⟩ (Nat.le_of_ble_eq_true rfl) rfl (fun _ _ hf => t_Stat_init hf) (fun _ h30 => ?_)
  refine J_astR (pc' := 42) ok (dOf dX5_init 21 rfl) rfl (fun h31 _ => ?_)
  refine J_iinc (v := ((((0 + 1) + 1) + 1) + 1) + 1) (ls' := [some (.ref v0), some (.int (((((0 + 1) + 1) + 1) + 1) + 1))]) (pc' := 45) ok (dOf dX5_init 22 rfl) rfl rfl (by rfl) (Nat.le_of_ble_eq_true rfl) rfl rfl ?_
  refine J_goto (tgt := 23) ok (dOf dX5_init 23 rfl) (by decide) ?_
  refine J_iload_n (pc' := 24) ok (dOf dX5_init 12 rfl) rfl rfl rfl ?_
  refine J_bipush (v := 12) (pc' := 26) ok (dOf dX5_init 13 rfl) rfl (by decide) ?_
  refine J_icmp_ge_f (tgt := 48) (pc' := 29) ok (dOf dX5_init 14 rfl) rfl (by decide) (by decide) ?_
  refine J_aload_n (pc' := 30) ok (dOf dX5_init 15 rfl) rfl rfl rfl ?_
  refine J_getR (ci := 5) (kf := 0) (C := RX5) (T := TX5) (N := 4) (pc' := 33) ok (dOf dX5_init 16 rfl) rfl (by decide) rfl (by decide) win_5 wfl_X5_11 (fun a32 => ?_)
  refine J_iload_n (pc' := 34) ok (dOf dX5_init 17 rfl) rfl rfl rfl ?_
  refine J_new (ci := 8) (C := RX8) (T := TX8) (N := 3) (fs := [.null, .null, .null]) (pc' := 37) ok tyX8 (dOf dX5_init 18 rfl) rfl rfl win_8 tyX8_ok wcl_X5_9 wins_X8 wini_SplitProgram_State (by decide +kernel) (by decide +kernel) (by decide) (by decide) (fun a33 h34 => ?_)
  refine J_dup (pc' := 38) ok (dOf dX5_init 19 rfl) rfl rfl ?_
  refine J_callINv (k2 := kStat_init) (mc2 := 14) (ms2 := 607) (as := []) (pc' := 41) ok (dOf dX5_init 20 rfl) rfl (cw_Stat_init (by decide) (by decide)) wmn_X5_21 winst_X8_init rfl rfl ⟨by decide, by decide⟩ (Nat.le_of_ble_eq_true rfl) rfl (fun _ _ hf => t_Stat_init hf) (fun _ h35 => ?_)
  refine J_astR (pc' := 42) ok (dOf dX5_init 21 rfl) rfl (fun h36 _ => ?_)
  refine J_iinc (v := (((((0 + 1) + 1) + 1) + 1) + 1) + 1) (ls' := [some (.ref v0), some (.int ((((((0 + 1) + 1) + 1) + 1) + 1) + 1))]) (pc' := 45) ok (dOf dX5_init 22 rfl) rfl rfl (by rfl) (Nat.le_of_ble_eq_true rfl) rfl rfl ?_
  refine J_goto (tgt := 23) ok (dOf dX5_init 23 rfl) (by decide) ?_
  refine J_iload_n (pc' := 24) ok (dOf dX5_init 12 rfl) rfl rfl rfl ?_
  refine J_bipush (v := 12) (pc' := 26) ok (dOf dX5_init 13 rfl) rfl (by decide) ?_
  refine J_icmp_ge_f (tgt := 48) (pc' := 29) ok (dOf dX5_init 14 rfl) rfl (by decide) (by decide) ?_
  refine J_aload_n (pc' := 30) ok (dOf dX5_init 15 rfl) rfl rfl rfl ?_
  refine J_getR (ci := 5) (kf := 0) (C := RX5) (T := TX5) (N := 4) (pc' := 33) ok (dOf dX5_init 16 rfl) rfl (by decide) rfl (by decide) win_5 wfl_X5_11 (fun a37 => ?_)
  refine J_iload_n (pc' := 34) ok (dOf dX5_init 17 rfl) rfl rfl rfl ?_
  refine J_new (ci := 8) (C := RX8) (T := TX8) (N := 3) (fs := [.null, .null, .null]) (pc' := 37) ok tyX8 (dOf dX5_init 18 rfl) rfl rfl win_8 tyX8_ok wcl_X5_9 wins_X8 wini_SplitProgram_State (by decide +kernel) (by decide +kernel) (by decide) (by decide) (fun a38 h39 => ?_)
  refine J_dup (pc' := 38) ok (dOf dX5_init 19 rfl) rfl rfl ?_
  refine J_callINv (k2 := kStat_init) (mc2 := 14) (ms2 := 607) (as := []) (pc' := 41) ok (dOf dX5_init 20 rfl) rfl (cw_Stat_init (by decide) (by decide)) wmn_X5_21 winst_X8_init rfl rfl ⟨by decide, by decide⟩ (Nat.le_of_ble_eq_true rfl) rfl (fun _ _ hf => t_Stat_init hf) (fun _ h40 => ?_)
  refine J_astR (pc' := 42) ok (dOf dX5_init 21 rfl) rfl (fun h41 _ => ?_)
  refine J_iinc (v := ((((((0 + 1) + 1) + 1) + 1) + 1) + 1) + 1) (ls' := [some (.ref v0), some (.int (((((((0 + 1) + 1) + 1) + 1) + 1) + 1) + 1))]) (pc' := 45) ok (dOf dX5_init 22 rfl) rfl rfl (by rfl) (Nat.le_of_ble_eq_true rfl) rfl rfl ?_
  refine J_goto (tgt := 23) ok (dOf dX5_init 23 rfl) (by decide) ?_
  refine J_iload_n (pc' := 24) ok (dOf dX5_init 12 rfl) rfl rfl rfl ?_
  refine J_bipush (v := 12) (pc' := 26) ok (dOf dX5_init 13 rfl) rfl (by decide) ?_
  refine J_icmp_ge_f (tgt := 48) (pc' := 29) ok (dOf dX5_init 14 rfl) rfl (by decide) (by decide) ?_
  refine J_aload_n (pc' := 30) ok (dOf dX5_init 15 rfl) rfl rfl rfl ?_
  refine J_getR (ci := 5) (kf := 0) (C := RX5) (T := TX5) (N := 4) (pc' := 33) ok (dOf dX5_init 16 rfl) rfl (by decide) rfl (by decide) win_5 wfl_X5_11 (fun a42 => ?_)
  refine J_iload_n (pc' := 34) ok (dOf dX5_init 17 rfl) rfl rfl rfl ?_
  refine J_new (ci := 8) (C := RX8) (T := TX8) (N := 3) (fs := [.null, .null, .null]) (pc' := 37) ok tyX8 (dOf dX5_init 18 rfl) rfl rfl win_8 tyX8_ok wcl_X5_9 wins_X8 wini_SplitProgram_State (by decide +kernel) (by decide +kernel) (by decide) (by decide) (fun a43 h44 => ?_)
  refine J_dup (pc' := 38) ok (dOf dX5_init 19 rfl) rfl rfl ?_
  refine J_callINv (k2 := kStat_init) (mc2 := 14) (ms2 := 607) (as := []) (pc' := 41) ok (dOf dX5_init 20 rfl) rfl (cw_Stat_init (by decide) (by decide)) wmn_X5_21 winst_X8_init rfl rfl ⟨by decide, by decide⟩ (Nat.le_of_ble_eq_true rfl) rfl (fun _ _ hf => t_Stat_init hf) (fun _ h45 => ?_)
  refine J_astR (pc' := 42) ok (dOf dX5_init 21 rfl) rfl (fun h46 _ => ?_)
  refine J_iinc (v := (((((((0 + 1) + 1) + 1) + 1) + 1) + 1) + 1) + 1) (ls' := [some (.ref v0), some (.int ((((((((0 + 1) + 1) + 1) + 1) + 1) + 1) + 1) + 1))]) (pc' := 45) ok (dOf dX5_init 22 rfl) rfl rfl (by rfl) (Nat.le_of_ble_eq_true rfl) rfl rfl ?_
  refine J_goto (tgt := 23) ok (dOf dX5_init 23 rfl) (by decide) ?_
  refine J_iload_n (pc' := 24) ok (dOf dX5_init 12 rfl) rfl rfl rfl ?_
  refine J_bipush (v := 12) (pc' := 26) ok (dOf dX5_init 13 rfl) rfl (by decide) ?_
  refine J_icmp_ge_f (tgt := 48) (pc' := 29) ok (dOf dX5_init 14 rfl) rfl (by decide) (by decide) ?_
  refine J_aload_n (pc' := 30) ok (dOf dX5_init 15 rfl) rfl rfl rfl ?_
  refine J_getR (ci := 5) (kf := 0) (C := RX5) (T := TX5) (N := 4) (pc' := 33) ok (dOf dX5_init 16 rfl) rfl (by decide) rfl (by decide) win_5 wfl_X5_11 (fun a47 => ?_)
  refine J_iload_n (pc' := 34) ok (dOf dX5_init 17 rfl) rfl rfl rfl ?_
  refine J_new (ci := 8) (C := RX8) (T := TX8) (N := 3) (fs := [.null, .null, .null]) (pc' := 37) ok tyX8 (dOf dX5_init 18 rfl) rfl rfl win_8 tyX8_ok wcl_X5_9 wins_X8 wini_SplitProgram_State (by decide +kernel) (by decide +kernel) (by decide) (by decide) (fun a48 h49 => ?_)
  refine J_dup (pc' := 38) ok (dOf dX5_init 19 rfl) rfl rfl ?_
  refine J_callINv (k2 := kStat_init) (mc2 := 14) (ms2 := 607) (as := []) (pc' := 41) ok (dOf dX5_init 20 rfl) rfl (cw_Stat_init (by decide) (by decide)) wmn_X5_21 winst_X8_init rfl rfl ⟨by decide, by decide⟩ (Nat.le_of_ble_eq_true rfl) rfl (fun _ _ hf => t_Stat_init hf) (fun _ h50 => ?_)
  refine J_astR (pc' := 42) ok (dOf dX5_init 21 rfl) rfl (fun h51 _ => ?_)
  refine J_iinc (v := ((((((((0 + 1) + 1) + 1) + 1) + 1) + 1) + 1) + 1) + 1) (ls' := [some (.ref v0), some (.int (((((((((0 + 1) + 1) + 1) + 1) + 1) + 1) + 1) + 1) + 1))]) (pc' := 45) ok (dOf dX5_init 22 rfl) rfl rfl (by rfl) (Nat.le_of_ble_eq_true rfl) rfl rfl ?_
  refine J_goto (tgt := 23) ok (dOf dX5_init 23 rfl) (by decide) ?_
  refine J_iload_n (pc' := 24) ok (dOf dX5_init 12 rfl) rfl rfl rfl ?_
  refine J_bipush (v := 12) (pc' := 26) ok (dOf dX5_init 13 rfl) rfl (by decide) ?_
  refine J_icmp_ge_f (tgt := 48) (pc' := 29) ok (dOf dX5_init 14 rfl) rfl (by decide) (by decide) ?_
  refine J_aload_n (pc' := 30) ok (dOf dX5_init 15 rfl) rfl rfl rfl ?_
  refine J_getR (ci := 5) (kf := 0) (C := RX5) (T := TX5) (N := 4) (pc' := 33) ok (dOf dX5_init 16 rfl) rfl (by decide) rfl (by decide) win_5 wfl_X5_11 (fun a52 => ?_)
  refine J_iload_n (pc' := 34) ok (dOf dX5_init 17 rfl) rfl rfl rfl ?_
  refine J_new (ci := 8) (C := RX8) (T := TX8) (N := 3) (fs := [.null, .null, .null]) (pc' := 37) ok tyX8 (dOf dX5_init 18 rfl) rfl rfl win_8 tyX8_ok wcl_X5_9 wins_X8 wini_SplitProgram_State (by decide +kernel) (by decide +kernel) (by decide) (by decide) (fun a53 h54 => ?_)
  refine J_dup (pc' := 38) ok (dOf dX5_init 19 rfl) rfl rfl ?_
  refine J_callINv (k2 := kStat_init) (mc2 := 14) (ms2 := 607) (as := []) (pc' := 41) ok (dOf dX5_init 20 rfl) rfl (cw_Stat_init (by decide) (by decide)) wmn_X5_21 winst_X8_init rfl rfl ⟨by decide, by decide⟩ (Nat.le_of_ble_eq_true rfl) rfl (fun _ _ hf => t_Stat_init hf) (fun _ h55 => ?_)
  refine J_astR (pc' := 42) ok (dOf dX5_init 21 rfl) rfl (fun h56 _ => ?_)
  refine J_iinc (v := (((((((((0 + 1) + 1) + 1) + 1) + 1) + 1) + 1) + 1) + 1) + 1) (ls' := [some (.ref v0), some (.int ((((((((((0 + 1) + 1) + 1) + 1) + 1) + 1) + 1) + 1) + 1) + 1))]) (pc' := 45) ok (dOf dX5_init 22 rfl) rfl rfl (by rfl) (Nat.le_of_ble_eq_true rfl) rfl rfl ?_
  refine J_goto (tgt := 23) ok (dOf dX5_init 23 rfl) (by decide) ?_
  refine J_iload_n (pc' := 24) ok (dOf dX5_init 12 rfl) rfl rfl rfl ?_
  refine J_bipush (v := 12) (pc' := 26) ok (dOf dX5_init 13 rfl) rfl (by decide) ?_
  refine J_icmp_ge_f (tgt := 48) (pc' := 29) ok (dOf dX5_init 14 rfl) rfl (by decide) (by decide) ?_
  refine J_aload_n (pc' := 30) ok (dOf dX5_init 15 rfl) rfl rfl rfl ?_
  refine J_getR (ci := 5) (kf := 0) (C := RX5) (T := TX5) (N := 4) (pc' := 33) ok (dOf dX5_init 16 rfl) rfl (by decide) rfl (by decide) win_5 wfl_X5_11 (fun a57 => ?_)
  refine J_iload_n (pc' := 34) ok (dOf dX5_init 17 rfl) rfl rfl rfl ?_
  refine J_new (ci := 8) (C := RX8) (T := TX8) (N := 3) (fs := [.null, .null, .null]) (pc' := 37) ok tyX8 (dOf dX5_init 18 rfl) rfl rfl win_8 tyX8_ok wcl_X5_9 wins_X8 wini_SplitProgram_State (by decide +kernel) (by decide +kernel) (by decide) (by decide) (fun a58 h59 => ?_)
  refine J_dup (pc' := 38) ok (dOf dX5_init 19 rfl) rfl rfl ?_
  refine J_callINv (k2 := kStat_init) (mc2 := 14) (ms2 := 607) (as := []) (pc' := 41) ok (dOf dX5_init 20 rfl) rfl (cw_Stat_init (by decide) (by decide)) wmn_X5_21 winst_X8_init rfl rfl ⟨by decide, by decide⟩ (Nat.le_of_ble_eq_true rfl) rfl (fun _ _ hf => t_Stat_init hf) (fun _ h60 => ?_)
  refine J_astR (pc' := 42) ok (dOf dX5_init 21 rfl) rfl (fun h61 _ => ?_)
  refine J_iinc (v := ((((((((((0 + 1) + 1) + 1) + 1) + 1) + 1) + 1) + 1) + 1) + 1) + 1) (ls' := [some (.ref v0), some (.int (((((((((((0 + 1) + 1) + 1) + 1) + 1) + 1) + 1) + 1) + 1) + 1) + 1))]) (pc' := 45) ok (dOf dX5_init 22 rfl) rfl rfl (by rfl) (Nat.le_of_ble_eq_true rfl) rfl rfl ?_
  refine J_goto (tgt := 23) ok (dOf dX5_init 23 rfl) (by decide) ?_
  refine J_iload_n (pc' := 24) ok (dOf dX5_init 12 rfl) rfl rfl rfl ?_
  refine J_bipush (v := 12) (pc' := 26) ok (dOf dX5_init 13 rfl) rfl (by decide) ?_
  refine J_icmp_ge_f (tgt := 48) (pc' := 29) ok (dOf dX5_init 14 rfl) rfl (by decide) (by decide) ?_
  refine J_aload_n (pc' := 30) ok (dOf dX5_init 15 rfl) rfl rfl rfl ?_
  refine J_getR (ci := 5) (kf := 0) (C := RX5) (T := TX5) (N := 4) (pc' := 33) ok (dOf dX5_init 16 rfl) rfl (by decide) rfl (by decide) win_5 wfl_X5_11 (fun a62 => ?_)
  refine J_iload_n (pc' := 34) ok (dOf dX5_init 17 rfl) rfl rfl rfl ?_
  refine J_new (ci := 8) (C := RX8) (T := TX8) (N := 3) (fs := [.null, .null, .null]) (pc' := 37) ok tyX8 (dOf dX5_init 18 rfl) rfl rfl win_8 tyX8_ok wcl_X5_9 wins_X8 wini_SplitProgram_State (by decide +kernel) (by decide +kernel) (by decide) (by decide) (fun a63 h64 => ?_)
  refine J_dup (pc' := 38) ok (dOf dX5_init 19 rfl) rfl rfl ?_
  refine J_callINv (k2 := kStat_init) (mc2 := 14) (ms2 := 607) (as := []) (pc' := 41) ok (dOf dX5_init 20 rfl) rfl (cw_Stat_init (by decide) (by decide)) wmn_X5_21 winst_X8_init rfl rfl ⟨by decide, by decide⟩ (Nat.le_of_ble_eq_true rfl) rfl (fun _ _ hf => t_Stat_init hf) (fun _ h65 => ?_)
  refine J_astR (pc' := 42) ok (dOf dX5_init 21 rfl) rfl (fun h66 _ => ?_)
  refine J_iinc (v := (((((((((((0 + 1) + 1) + 1) + 1) + 1) + 1) + 1) + 1) + 1) + 1) + 1) + 1) (ls' := [some (.ref v0), some (.int ((((((((((((0 + 1) + 1) + 1) + 1) + 1) + 1) + 1) + 1) + 1) + 1) + 1) + 1))]) (pc' := 45) ok (dOf dX5_init 22 rfl) rfl rfl (by rfl) (Nat.le_of_ble_eq_true rfl) rfl rfl ?_
  refine J_goto (tgt := 23) ok (dOf dX5_init 23 rfl) (by decide) ?_
  refine J_iload_n (pc' := 24) ok (dOf dX5_init 12 rfl) rfl rfl rfl ?_
  refine J_bipush (v := 12) (pc' := 26) ok (dOf dX5_init 13 rfl) rfl (by decide) ?_
  refine J_icmp_ge_t (tgt := 48) ok (dOf dX5_init 14 rfl) (by decide) (by decide) ?_
  exact J_vreturn ok (dOf dX5_init 24 rfl) rfl (by decide) (by decide)
-- X10_init
abbrev kSp_init : Cd := (yX10_init, cX10_init, 2, none, 4, 84)
theorem dX10_init : dcheck cX10_init [(0, .aload_n 0, 1), (1, .invokespecial 1, 3), (4, .aload_n 0, 1), (5, .new 7, 3), (8, .dup, 1), (9, .invokespecial 9, 3), (12, .putfield 10, 3), (15, .aload_n 0, 1), (16, .iconst 4, 1), (17, .newarray .int, 2), (19, .putfield 16, 3), (22, .aload_n 0, 1), (23, .new 20, 3), (26, .dup, 1), (27, .invokespecial 22, 3), (30, .putfield 23, 3), (33, .aload_n 0, 1), (34, .new 27, 3), (37, .dup, 1), (38, .invokespecial 29, 3), (41, .putfield 30, 3), (44, .aload_n 0, 1), (45, .new 34, 3), (48, .dup, 1), (49, .invokespecial 36, 3), (52, .putfield 37, 3), (55, .aload_n 0, 1), (56, .new 41, 3), (59, .dup, 1), (60, .invokespecial 43, 3), (63, .putfield 44, 3), (66, .aload_n 0, 1), (67, .iconst 2, 1), (68, .anewarray 7, 3), (71, .putfield 48, 3), (74, .aload_n 0, 1), (75, .bipush 8, 2), (77, .newarray .int, 2), (79, .putfield 52, 3), (82, .aload_n 0, 1), (83, .iconst 2, 1), (84, .newarray .boolean, 2), (86, .putfield 55, 3), (89, .aload_n 0, 1), (90, .new 59, 3), (93, .dup, 1), (94, .bipush 99, 2), (96, .invokespecial 61, 3), (99, .putfield 64, 3), (102, .aload_n 0, 1), (103, .new 68, 3), (106, .dup, 1), (107, .invokespecial 70, 3), (110, .putfield 71, 3), (113, .aload_n 0, 1), (114, .iconst 4, 1), (115, .newarray .int, 2), (117, .putfield 75, 3), (120, .aload_n 0, 1), (121, .bipush 6, 2), (123, .newarray .int, 2), (125, .putfield 78, 3), (128, .aload_n 0, 1), (129, .getfield 16, 3), (132, .iconst 3, 1), (133, .bipush 40, 2), (135, .iastore, 1), (136, .iconst 0, 1), (137, .istore_n 1, 1), (138, .iload_n 1, 1), (139, .iconst 2, 1), (140, .if_icmp .ge 22, 3), (143, .aload_n 0, 1), (144, .getfield 48, 3), (147, .iload_n 1, 1), (148, .new 7, 3), (151, .dup, 1), (152, .invokespecial 9, 3), (155, .aastore, 1), (156, .iinc 1 1, 3), (159, .goto (-21), 3), (162, .return_, 1)] = true := by decide +kernel
theorem cw_Sp_init {k : Cd} (h1 : kSp_init.2.2.2.2.1 + 1 ≤ k.2.2.2.2.1) (h2 : 8 + (kSp_init.2.2.1 + 11) + kSp_init.2.2.2.2.2 ≤ k.2.2.2.2.2) : Cw k kSp_init 0 := ⟨wcode_X10_init, wini_SplitProgram, ⟨by decide, by decide, by decide +kernel⟩, h1, h2⟩
def Sp_init (v0 : Nat) (h : AHeap) : Option (Unit × AHeap) :=
  bnd2 (alc h (.inl (8, [.null, .null, .null]))) fun a1 h2 => bnd2 (Stat_init a1 h2) fun _ h3 => (pfV h3 v0 10 0 (.ref a1)).bind fun h4 => bnd2 (alc h4 (.inr (.inl (0, List.replicate 4 0)))) fun a5 h6 => (pfV h6 v0 10 1 (.ref a5)).bind fun h7 => bnd2 (alc h7 (.inl (3, [.null, .null, .null, .null, .null, .null, .int 0, .int 0, .int 0, .int 0, .int 0, .int 0]))) fun a8 h9 => bnd2 (Eng_init a8 h9) fun _ h10 => (pfV h10 v0 10 2 (.ref a8)).bind fun h11 => bnd2 (alc h11 (.inl (9, [.null, .int 0, .int 0, .int 0, .int 0, .int 0]))) fun a12 h13 => bnd2 (Tape_init a12 h13) fun _ h14 => (pfV h14 v0 10 3 (.ref a12)).bind fun h15 => bnd2 (alc h15 (.inl (6, [.int 0, .int 0, .int 0, .null, .null, .null, .null, .null, .null]))) fun a16 h17 => bnd2 (Prog_init a16 h17) fun _ h18 => (pfV h18 v0 10 4 (.ref a16)).bind fun h19 => bnd2 (alc h19 (.inl (5, [.null, .null, .int 0, .int 0]))) fun a20 h21 => bnd2 (Hist_init a20 h21) fun _ h22 => (pfV h22 v0 10 5 (.ref a20)).bind fun h23 => bnd2 (alc h23 (.inr (.inr (List.replicate 2 none)))) fun a24 h25 => (pfV h25 v0 10 6 (.ref a24)).bind fun h26 => bnd2 (alc h26 (.inr (.inl (0, List.replicate 8 0)))) fun a27 h28 => (pfV h28 v0 10 7 (.ref a27)).bind fun h29 => bnd2 (alc h29 (.inr (.inl (1, List.replicate 2 0)))) fun a30 h31 => (pfV h31 v0 10 8 (.ref a30)).bind fun h32 => bnd2 (alc h32 (.inl (2, [.int 0, .int 0, .null, .null, .null, .null, .null]))) fun a33 h34 => bnd2 (Cuts_init99 a33 h34) fun _ h35 => (pfV h35 v0 10 9 (.ref a33)).bind fun h36 => bnd2 (alc h36 (.inl (7, [.int 0, .int 0, .int 0, .int 0, .int 0, .int 0, .int 0]))) fun a37 h38 => bnd2 (Srch_init a37 h38) fun _ h39 => (pfV h39 v0 10 10 (.ref a37)).bind fun h40 => bnd2 (alc h40 (.inr (.inl (0, List.replicate 4 0)))) fun a41 h42 => (pfV h42 v0 10 11 (.ref a41)).bind fun h43 => bnd2 (alc h43 (.inr (.inl (0, List.replicate 6 0)))) fun a44 h45 => (pfV h45 v0 10 12 (.ref a44)).bind fun h46 => (gfR h46 v0 10 1).bind fun a47 => (ast 0 h46 a47 3 40).bind fun h48 => (gfR h48 v0 10 6).bind fun a49 => bnd2 (alc h48 (.inl (8, [.null, .null, .null]))) fun a50 h51 => bnd2 (Stat_init a50 h51) fun _ h52 => (astR h52 a49 0 a50).bind fun h53 => (gfR h53 v0 10 6).bind fun a54 => bnd2 (alc h53 (.inl (8, [.null, .null, .null]))) fun a55 h56 => bnd2 (Stat_init a55 h56) fun _ h57 => (astR h57 a54 (0 + 1) a55).bind fun h58 => some ((), h58)
theorem t_Sp_init {l : Launch} {G : GX} {v0 : Nat} {h h1 : AHeap} (hf : Sp_init v0 h = some ((), h1)) : CT l G kSp_init 273 13594 [.ref v0] h none h1 := by
  refine CT_of (ls := [some (.ref v0), none]) (Z := fun z => z = ((), h1)) (by decide +kernel) (Nat.le_of_ble_eq_true rfl) hf rfl ⟨rfl, trivial⟩ (fun E ok => ?_)
  unfold Sp_init
  refine J_aload_n (pc' := 1) ok (dOf dX10_init 0 rfl) rfl rfl rfl ?_
  refine J_objInit (pc' := 4) ok (dOf dX10_init 1 rfl) rfl wml_X10_1 winst_java_lang_Object__init_ wcode_java_lang_Object__init_ (Nat.le_of_ble_eq_true rfl) (Nat.le_of_ble_eq_true rfl) ?_
  refine J_aload_n (pc' := 5) ok (dOf dX10_init 2 rfl) rfl rfl rfl ?_
  refine J_new (ci := 8) (C := RX8) (T := TX8) (N := 3) (fs := [.null, .null, .null]) (pc' := 8) ok tyX8 (dOf dX10_init 3 rfl) rfl rfl win_8 tyX8_ok wcl_X10_7 wins_X8 wini_SplitProgram_State (by decide +kernel) (by decide +kernel) (by decide) (by decide) (fun a1 h2 => ?_)
  refine J_dup (pc' := 9) ok (dOf dX10_init 4 rfl) rfl rfl ?_
  refine J_callINv (k2 := kStat_init) (mc2 := 14) (ms2 := 607) (as := []) (pc' := 12) ok (dOf dX10_init 5 rfl) rfl (cw_Stat_init (by decide) (by decide)) wmn_X10_9 winst_X8_init rfl rfl ⟨by decide, by decide⟩ (Nat.le_of_ble_eq_true rfl) rfl (fun _ _ hf => t_Stat_init hf) (fun _ h3 => ?_)
  refine J_putFR (ci := 10) (kf := 0) (C := RX10) (T := TX10) (N := 14) (pc' := 15) ok tyX10 (dOf dX10_init 6 rfl) rfl rfl (by decide) win_10 tyX10_ok nmX10 (fun _ => ⟨rfl, rfl⟩) rfl rfl rfl wfl_X10_10 (fun h4 _ => ?_)
  refine J_aload_n (pc' := 16) ok (dOf dX10_init 7 rfl) rfl rfl rfl ?_
  refine J_iconst (v := 4) (pc' := 17) ok (dOf dX10_init 8 rfl) rfl (by decide) ?_
  refine J_newa0 (n := 4) (N := 4) (pc' := 19) ok (dOf dX10_init 9 rfl) rfl warr_int (by decide) (by decide) (by decide) (by decide) (by decide) (fun a5 h6 => ?_)
  refine J_putFR (ci := 10) (kf := 1) (C := RX10) (T := TX10) (N := 14) (pc' := 22) ok tyX10 (dOf dX10_init 10 rfl) rfl rfl (by decide) win_10 tyX10_ok nmX10 (fun _ => ⟨rfl, rfl⟩) rfl rfl rfl wfl_X10_16 (fun h7 _ => ?_)
  refine J_aload_n (pc' := 23) ok (dOf dX10_init 11 rfl) rfl rfl rfl ?_
  refine J_new (ci := 3) (C := RX3) (T := TX3) (N := 12) (fs := [.null, .null, .null, .null, .null, .null, .int 0, .int 0, .int 0, .int 0, .int 0, .int 0]) (pc' := 26) ok tyX3 (dOf dX10_init 12 rfl) rfl rfl win_3 tyX3_ok wcl_X10_20 wins_X3 wini_SplitProgram_Engine (by decide +kernel) (by decide +kernel) (by decide) (by decide) (fun a8 h9 => ?_)
  refine J_dup (pc' := 27) ok (dOf dX10_init 13 rfl) rfl rfl ?_
  refine J_callINv (k2 := kEng_init) (mc2 := 22) (ms2 := 2598) (as := []) (pc' := 30) ok (dOf dX10_init 14 rfl) rfl (cw_Eng_init (by decide) (by decide)) wmn_X10_22 winst_X3_init rfl rfl ⟨by decide, by decide⟩ (Nat.le_of_ble_eq_true rfl) rfl (fun _ _ hf => t_Eng_init hf) (fun _ h10 => ?_)
  refine J_putFR (ci := 10) (kf := 2) (C := RX10) (T := TX10) (N := 14) (pc' := 33) ok tyX10 (dOf dX10_init 15 rfl) rfl rfl (by decide) win_10 tyX10_ok nmX10 (fun _ => ⟨rfl, rfl⟩) rfl rfl rfl wfl_X10_23 (fun h11 _ => ?_)
  refine J_aload_n (pc' := 34) ok (dOf dX10_init 16 rfl) rfl rfl rfl ?_
  refine J_new (ci := 9) (C := RX9) (T := TX9) (N := 6) (fs := [.null, .int 0, .int 0, .int 0, .int 0, .int 0]) (pc' := 37) ok tyX9 (dOf dX10_init 17 rfl) rfl rfl win_9 tyX9_ok wcl_X10_27 wins_X9 wini_SplitProgram_Tape (by decide +kernel) (by decide +kernel) (by decide) (by decide) (fun a12 h13 => ?_)
  refine J_dup (pc' := 38) ok (dOf dX10_init 18 rfl) rfl rfl ?_
  refine J_callINv (k2 := kTape_init) (mc2 := 1) (ms2 := 400) (as := []) (pc' := 41) ok (dOf dX10_init 19 rfl) rfl (cw_Tape_init (by decide) (by decide)) wmn_X10_29 winst_X9_init rfl rfl ⟨by decide, by decide⟩ (Nat.le_of_ble_eq_true rfl) rfl (fun _ _ hf => t_Tape_init hf) (fun _ h14 => ?_)
  refine J_putFR (ci := 10) (kf := 3) (C := RX10) (T := TX10) (N := 14) (pc' := 44) ok tyX10 (dOf dX10_init 20 rfl) rfl rfl (by decide) win_10 tyX10_ok nmX10 (fun _ => ⟨rfl, rfl⟩) rfl rfl rfl wfl_X10_30 (fun h15 _ => ?_)
  refine J_aload_n (pc' := 45) ok (dOf dX10_init 21 rfl) rfl rfl rfl ?_
  refine J_new (ci := 6) (C := RX6) (T := TX6) (N := 9) (fs := [.int 0, .int 0, .int 0, .null, .null, .null, .null, .null, .null]) (pc' := 48) ok tyX6 (dOf dX10_init 22 rfl) rfl rfl win_6 tyX6_ok wcl_X10_34 wins_X6 wini_SplitProgram_Program (by decide +kernel) (by decide +kernel) (by decide) (by decide) (fun a16 h17 => ?_)
  refine J_dup (pc' := 49) ok (dOf dX10_init 23 rfl) rfl rfl ?_
  refine J_callIv (k2 := kProg_init) (mc2 := 6) (ms2 := 64) (as := []) (pc' := 52) ok (dOf dX10_init 24 rfl) rfl (cw_Prog_init (by decide) (by decide)) wml_X10_36 winst_X6_init rfl rfl ⟨by decide, by decide⟩ (Nat.le_of_ble_eq_true rfl) rfl (fun _ _ hf => t_Prog_init hf) (fun _ h18 => ?_)
  refine J_putFR (ci := 10) (kf := 4) (C := RX10) (T := TX10) (N := 14) (pc' := 55) ok tyX10 (dOf dX10_init 25 rfl) rfl rfl (by decide) win_10 tyX10_ok nmX10 (fun _ => ⟨rfl, rfl⟩) rfl rfl rfl wfl_X10_37 (fun h19 _ => ?_)
  refine J_aload_n (pc' := 56) ok (dOf dX10_init 26 rfl) rfl rfl rfl ?_
  refine J_new (ci := 5) (C := RX5) (T := TX5) (N := 4) (fs := [.null, .null, .int 0, .int 0]) (pc' := 59) ok tyX5 (dOf dX10_init 27 rfl) rfl rfl win_5 tyX5_ok wcl_X10_41 wins_X5 wini_SplitProgram_History (by decide +kernel) (by decide +kernel) (by decide) (by decide) (fun a20 h21 => ?_)
  refine J_dup (pc' := 60) ok (dOf dX10_init 28 rfl) rfl rfl ?_
  refine J_callIv (k2 := kHist_init) (mc2 := 182) (ms2 := 7344) (as := []) (pc' := 63) ok (dOf dX10_init 29 rfl) rfl (cw_Hist_init (by decide) (by decide)) wml_X10_43 winst_X5_init rfl rfl ⟨by decide, by decide⟩ (Nat.le_of_ble_eq_true rfl) rfl (fun _ _ hf => t_Hist_init hf) (fun _ h22 => ?_)
  refine J_putFR (ci := 10) (kf := 5) (C := RX10) (T := TX10) (N := 14) (pc' := 66) ok tyX10 (dOf dX10_init 30 rfl) rfl rfl (by decide) win_10 tyX10_ok nmX10 (fun _ => ⟨rfl, rfl⟩) rfl rfl rfl wfl_X10_44 (fun h23 _ => ?_)
  refine J_aload_n (pc' := 67) ok (dOf dX10_init 31 rfl) rfl rfl rfl ?_
  refine J_iconst (v := 2) (pc' := 68) ok (dOf dX10_init 32 rfl) rfl (by decide) ?_
  refine J_anew (n := 2) (N := 2) (pc' := 71) ok (dOf dX10_init 33 rfl) rfl wcl_X10_7 (by decide) (by decide) (by decide) (by decide) (by decide) (fun a24 h25 => ?_)
  refine J_putFR (ci := 10) (kf := 6) (C := RX10) (T := TX10) (N := 14) (pc' := 74) ok tyX10 (dOf dX10_init 34 rfl) rfl rfl (by decide) win_10 tyX10_ok nmX10 (fun _ => ⟨rfl, rfl⟩) rfl rfl rfl wfl_X10_48 (fun h26 _ => ?_)
  refine J_aload_n (pc' := 75) ok (dOf dX10_init 35 rfl) rfl rfl rfl ?_
  refine J_bipush (v := 8) (pc' := 77) ok (dOf dX10_init 36 rfl) rfl (by decide) ?_
  refine J_newa0 (n := 8) (N := 8) (pc' := 79) ok (dOf dX10_init 37 rfl) rfl warr_int (by decide) (by decide) (by decide) (by decide) (by decide) (fun a27 h28 => ?_)
  refine J_putFR (ci := 10) (kf := 7) (C := RX10) (T := TX10) (N := 14) (pc' := 82) ok tyX10 (dOf dX10_init 38 rfl) rfl rfl (by decide) win_10 tyX10_ok nmX10 (fun _ => ⟨rfl, rfl⟩) rfl rfl rfl wfl_X10_52 (fun h29 _ => ?_)
  refine J_aload_n (pc' := 83) ok (dOf dX10_init 39 rfl) rfl rfl rfl ?_
  refine J_iconst (v := 2) (pc' := 84) ok (dOf dX10_init 40 rfl) rfl (by decide) ?_
  refine J_newa1 (n := 2) (N := 2) (pc' := 86) ok (dOf dX10_init 41 rfl) rfl warr_boolean (by decide) (by decide) (by decide) (by decide) (by decide) (fun a30 h31 => ?_)
  refine J_putFR (ci := 10) (kf := 8) (C := RX10) (T := TX10) (N := 14) (pc' := 89) ok tyX10 (dOf dX10_init 42 rfl) rfl rfl (by decide) win_10 tyX10_ok nmX10 (fun _ => ⟨rfl, rfl⟩) rfl rfl rfl wfl_X10_55 (fun h32 _ => ?_)
  refine J_aload_n (pc' := 90) ok (dOf dX10_init 43 rfl) rfl rfl rfl ?_
  refine J_new (ci := 2) (C := RX2) (T := TX2) (N := 7) (fs := [.int 0, .int 0, .null, .null, .null, .null, .null]) (pc' := 93) ok tyX2 (dOf dX10_init 44 rfl) rfl rfl win_2 tyX2_ok wcl_X10_59 wins_X2 wini_SplitProgram_Cuts (by decide +kernel) (by decide +kernel) (by decide) (by decide) (fun a33 h34 => ?_)
  refine J_dup (pc' := 94) ok (dOf dX10_init 45 rfl) rfl rfl ?_
  refine J_bipush (v := 99) (pc' := 96) ok (dOf dX10_init 46 rfl) rfl (by decide) ?_
  refine J_callIv (k2 := kCuts_init) (mc2 := 5) (ms2 := 1287) (as := [.int 99]) (pc' := 99) ok (dOf dX10_init 47 rfl) rfl (cw_Cuts_init99 (by decide) (by decide)) wml_X10_61 winst_X2_init rfl rfl ⟨by decide, by decide⟩ (Nat.le_of_ble_eq_true rfl) rfl (fun _ _ hf => t_Cuts_init99 hf) (fun _ h35 => ?_)
  refine J_putFR (ci := 10) (kf := 9) (C := RX10) (T := TX10) (N := 14) (pc' := 102) ok tyX10 (dOf dX10_init 48 rfl) rfl rfl (by decide) win_10 tyX10_ok nmX10 (fun _ => ⟨rfl, rfl⟩) rfl rfl rfl wfl_X10_64 (fun h36 _ => ?_)
  refine J_aload_n (pc' := 103) ok (dOf dX10_init 49 rfl) rfl rfl rfl ?_
  refine J_new (ci := 7) (C := RX7) (T := TX7) (N := 7) (fs := [.int 0, .int 0, .int 0, .int 0, .int 0, .int 0, .int 0]) (pc' := 106) ok tyX7 (dOf dX10_init 50 rfl) rfl rfl win_7 tyX7_ok wcl_X10_68 wins_X7 wini_SplitProgram_Search (by decide +kernel) (by decide +kernel) (by decide) (by decide) (fun a37 h38 => ?_)
  refine J_dup (pc' := 107) ok (dOf dX10_init 51 rfl) rfl rfl ?_
  refine J_callINv (k2 := kSrch_init) (mc2 := 0) (ms2 := 0) (as := []) (pc' := 110) ok (dOf dX10_init 52 rfl) rfl (cw_Srch_init (by decide) (by decide)) wmn_X10_70 winst_X7_init rfl rfl ⟨by decide, by decide⟩ (Nat.le_of_ble_eq_true rfl) rfl (fun _ _ hf => t_Srch_init hf) (fun _ h39 => ?_)
  refine J_putFR (ci := 10) (kf := 10) (C := RX10) (T := TX10) (N := 14) (pc' := 113) ok tyX10 (dOf dX10_init 53 rfl) rfl rfl (by decide) win_10 tyX10_ok nmX10 (fun _ => ⟨rfl, rfl⟩) rfl rfl rfl wfl_X10_71 (fun h40 _ => ?_)
  refine J_aload_n (pc' := 114) ok (dOf dX10_init 54 rfl) rfl rfl rfl ?_
  refine J_iconst (v := 4) (pc' := 115) ok (dOf dX10_init 55 rfl) rfl (by decide) ?_
  refine J_newa0 (n := 4) (N := 4) (pc' := 117) ok (dOf dX10_init 56 rfl) rfl warr_int (by decide) (by decide) (by decide) (by decide) (by decide) (fun a41 h42 => ?_)
  refine J_putFR (ci := 10) (kf := 11) (C := RX10) (T := TX10) (N := 14) (pc' := 120) ok tyX10 (dOf dX10_init 57 rfl) rfl rfl (by decide) win_10 tyX10_ok nmX10 (fun _ => ⟨rfl, rfl⟩) rfl rfl rfl wfl_X10_75 (fun h43 _ => ?_)
  refine J_aload_n (pc' := 121) ok (dOf dX10_init 58 rfl) rfl rfl rfl ?_
  refine J_bipush (v := 6) (pc' := 123) ok (dOf dX10_init 59 rfl) rfl (by decide) ?_
  refine J_newa0 (n := 6) (N := 6) (pc' := 125) ok (dOf dX10_init 60 rfl) rfl warr_int (by decide) (by decide) (by decide) (by decide) (by decide) (fun a44 h45 => ?_)
  refine J_putFR (ci := 10) (kf := 12) (C := RX10) (T := TX10) (N := 14) (pc' := 128) ok tyX10 (dOf dX10_init 61 rfl) rfl rfl (by decide) win_10 tyX10_ok nmX10 (fun _ => ⟨rfl, rfl⟩) rfl rfl rfl wfl_X10_78 (fun h46 _ => ?_)
  refine J_aload_n (pc' := 129) ok (dOf dX10_init 62 rfl) rfl rfl rfl ?_
  refine J_getR (ci := 10) (kf := 1) (C := RX10) (T := TX10) (N := 14) (pc' := 132) ok (dOf dX10_init 63 rfl) rfl (by decide) rfl (by decide) win_10 wfl_X10_16 (fun a47 => ?_)
  refine J_iconst (v := 3) (pc' := 133) ok (dOf dX10_init 64 rfl) rfl (by decide) ?_
  refine J_bipush (v := 40) (pc' := 135) ok (dOf dX10_init 65 rfl) rfl (by decide) ?_
  refine J_iast (pc' := 136) ok (dOf dX10_init 66 rfl) rfl (fun h48 _ => ?_)
  refine J_iconst (v := 0) (pc' := 137) ok (dOf dX10_init 67 rfl) rfl (by decide) ?_
  refine J_istore_n (ls' := [some (.ref v0), some (.int 0)]) (pc' := 138) ok (dOf dX10_init 68 rfl) rfl rfl (Nat.le_of_ble_eq_true rfl) rfl rfl ?_
  refine J_iload_n (pc' := 139) ok (dOf dX10_init 69 rfl) rfl rfl rfl ?_
  refine J_iconst (v := 2) (pc' := 140) ok (dOf dX10_init 70 rfl) rfl (by decide) ?_
  refine J_icmp_ge_f (tgt := 162) (pc' := 143) ok (dOf dX10_init 71 rfl) rfl (by decide) (by decide) ?_
  refine J_aload_n (pc' := 144) ok (dOf dX10_init 72 rfl) rfl rfl rfl ?_
  refine J_getR (ci := 10) (kf := 6) (C := RX10) (T := TX10) (N := 14) (pc' := 147) ok (dOf dX10_init 73 rfl) rfl (by decide) rfl (by decide) win_10 wfl_X10_48 (fun a49 => ?_)
  refine J_iload_n (pc' := 148) ok (dOf dX10_init 74 rfl) rfl rfl rfl ?_
  refine J_new (ci := 8) (C := RX8) (T := TX8) (N := 3) (fs := [.null, .null, .null]) (pc' := 151) ok tyX8 (dOf dX10_init 75 rfl) rfl rfl win_8 tyX8_ok wcl_X10_7 wins_X8 wini_SplitProgram_State (by decide +kernel) (by decide +kernel) (by decide) (by decide) (fun a50 h51 => ?_)
  refine J_dup (pc' := 152) ok (dOf dX10_init 76 rfl) rfl rfl ?_
  refine J_callINv (k2 := kStat_init) (mc2 := 14) (ms2 := 607) (as := []) (pc' := 155) ok (dOf dX10_init 77 rfl) rfl (cw_Stat_init (by decide) (by decide)) wmn_X10_9 winst_X8_init rfl rfl ⟨by decide, by decide⟩ (Nat.le_of_ble_eq_true rfl) rfl (fun _ _ hf => t_Stat_init hf) (fun _ h52 => ?_)
  refine J_astR (pc' := 156) ok (dOf dX10_init 78 rfl) rfl (fun h53 _ => ?_)
  refine J_iinc (v := 0 + 1) (ls' := [some (.ref v0), some (.int (0 + 1))]) (pc' := 159) ok (dOf dX10_init 79 rfl) rfl rfl (by rfl) (Nat.le_of_ble_eq_true rfl) rfl rfl ?_
  refine J_goto (tgt := 138) ok (dOf dX10_init 80 rfl) (by decide) ?_
  refine J_iload_n (pc' := 139) ok (dOf dX10_init 69 rfl) rfl rfl rfl ?_
  refine J_iconst (v := 2) (pc' := 140) ok (dOf dX10_init 70 rfl) rfl (by decide) ?_
  refine J_icmp_ge_f (tgt := 162) (pc' := 143) ok (dOf dX10_init 71 rfl) rfl (by decide) (by decide) ?_
  refine J_aload_n (pc' := 144) ok (dOf dX10_init 72 rfl) rfl rfl rfl ?_
  refine J_getR (ci := 10) (kf := 6) (C := RX10) (T := TX10) (N := 14) (pc' := 147) ok (dOf dX10_init 73 rfl) rfl (by decide) rfl (by decide) win_10 wfl_X10_48 (fun a54 => ?_)
  refine J_iload_n (pc' := 148) ok (dOf dX10_init 74 rfl) rfl rfl rfl ?_
  refine J_new (ci := 8) (C := RX8) (T := TX8) (N := 3) (fs := [.null, .null, .null]) (pc' := 151) ok tyX8 (dOf dX10_init 75 rfl) rfl rfl win_8 tyX8_ok wcl_X10_7 wins_X8 wini_SplitProgram_State (by decide +kernel) (by decide +kernel) (by decide) (by decide) (fun a55 h56 => ?_)
  refine J_dup (pc' := 152) ok (dOf dX10_init 76 rfl) rfl rfl ?_
  refine J_callINv (k2 := kStat_init) (mc2 := 14) (ms2 := 607) (as := []) (pc' := 155) ok (dOf dX10_init 77 rfl) rfl (cw_Stat_init (by decide) (by decide)) wmn_X10_9 winst_X8_init rfl rfl ⟨by decide, by decide⟩ (Nat.le_of_ble_eq_true rfl) rfl (fun _ _ hf => t_Stat_init hf) (fun _ h57 => ?_)
  refine J_astR (pc' := 156) ok (dOf dX10_init 78 rfl) rfl (fun h58 _ => ?_)
  refine J_iinc (v := (0 + 1) + 1) (ls' := [some (.ref v0), some (.int ((0 + 1) + 1))]) (pc' := 159) ok (dOf dX10_init 79 rfl) rfl rfl (by rfl) (Nat.le_of_ble_eq_true rfl) rfl rfl ?_
  refine J_goto (tgt := 138) ok (dOf dX10_init 80 rfl) (by decide) ?_
  refine J_iload_n (pc' := 139) ok (dOf dX10_init 69 rfl) rfl rfl rfl ?_
  refine J_iconst (v := 2) (pc' := 140) ok (dOf dX10_init 70 rfl) rfl (by decide) ?_
  refine J_icmp_ge_t (tgt := 162) ok (dOf dX10_init 71 rfl) (by decide) (by decide) ?_
  exact J_vreturn ok (dOf dX10_init 81 rfl) rfl (by decide) (by decide)
-- X11_forgets
abbrev kMod_forgets : Cd := (yX11_forgets, cX11_forgets, 1, none, 0, 0)
theorem dX11_forgets : dcheck cX11_forgets [(0, .aload_n 0, 1), (1, .getfield 22, 3), (4, .iconst 3, 1), (5, .iconst 0, 1), (6, .iastore, 1), (7, .aload_n 0, 1), (8, .getfield 22, 3), (11, .iconst 4, 1), (12, .iconst (-1), 1), (13, .iastore, 1), (14, .aload_n 0, 1), (15, .getfield 22, 3), (18, .iconst 5, 1), (19, .iconst (-1), 1), (20, .iastore, 1), (21, .aload_n 0, 1), (22, .getfield 22, 3), (25, .bipush 6, 2), (27, .iconst (-1), 1), (28, .iastore, 1), (29, .aload_n 0, 1), (30, .getfield 22, 3), (33, .bipush 7, 2), (35, .iconst (-1), 1), (36, .iastore, 1), (37, .aload_n 0, 1), (38, .getfield 22, 3), (41, .bipush 8, 2), (43, .iconst 0, 1), (44, .iastore, 1), (45, .aload_n 0, 1), (46, .getfield 22, 3), (49, .bipush 10, 2), (51, .iconst 0, 1), (52, .iastore, 1), (53, .return_, 1)] = true := by decide +kernel
theorem cw_Mod_forgets {k : Cd} (h1 : kMod_forgets.2.2.2.2.1 + 1 ≤ k.2.2.2.2.1) (h2 : 8 + (kMod_forgets.2.2.1 + 11) + kMod_forgets.2.2.2.2.2 ≤ k.2.2.2.2.2) : Cw k kMod_forgets 0 := ⟨wcode_X11_forgets, wini_SplitProgramModel, ⟨by decide, by decide, by decide +kernel⟩, h1, h2⟩
def Mod_forgets (v0 : Nat) (h : AHeap) : Option (Unit × AHeap) :=
  (gfR h v0 11 5).bind fun a1 => (ast 0 h a1 3 0).bind fun h2 => (gfR h2 v0 11 5).bind fun a3 => (ast 0 h2 a3 4 (-1)).bind fun h4 => (gfR h4 v0 11 5).bind fun a5 => (ast 0 h4 a5 5 (-1)).bind fun h6 => (gfR h6 v0 11 5).bind fun a7 => (ast 0 h6 a7 6 (-1)).bind fun h8 => (gfR h8 v0 11 5).bind fun a9 => (ast 0 h8 a9 7 (-1)).bind fun h10 => (gfR h10 v0 11 5).bind fun a11 => (ast 0 h10 a11 8 0).bind fun h12 => (gfR h12 v0 11 5).bind fun a13 => (ast 0 h12 a13 10 0).bind fun h14 => some ((), h14)
theorem t_Mod_forgets {l : Launch} {G : GX} {v0 : Nat} {h : AHeap} {h1 : AHeap} (hf : Mod_forgets v0 h = some ((), h1)) : CT l G kMod_forgets 0 0 [.ref v0] h none h1 := by
  refine CT_of (ls := [some (.ref v0)]) (Z := fun z => z = ((), h1)) (by decide +kernel) (Nat.le_of_ble_eq_true rfl) hf rfl ⟨rfl, trivial⟩ (fun E ok => ?_)
  unfold Mod_forgets
  refine J_aload_n (pc' := 1) ok (dOf dX11_forgets 0 rfl) rfl rfl rfl ?_
  refine J_getR (ci := 11) (kf := 5) (C := RX11) (T := TX11) (N := 29) (pc' := 4) ok (dOf dX11_forgets 1 rfl) rfl (by decide) rfl (by decide) win_11 wfl_X11_22 (fun a1 => ?_)
  refine J_iconst (v := 3) (pc' := 5) ok (dOf dX11_forgets 2 rfl) rfl (by decide) ?_
  refine J_iconst (v := 0) (pc' := 6) ok (dOf dX11_forgets 3 rfl) rfl (by decide) ?_
  refine J_iast (pc' := 7) ok (dOf dX11_forgets 4 rfl) rfl (fun h2 _ => ?_)
  refine J_aload_n (pc' := 8) ok (dOf dX11_forgets 5 rfl) rfl rfl rfl ?_
  refine J_getR (ci := 11) (kf := 5) (C := RX11) (T := TX11) (N := 29) (pc' := 11) ok (dOf dX11_forgets 6 rfl) rfl (by decide) rfl (by decide) win_11 wfl_X11_22 (fun a3 => ?_)
  refine J_iconst (v := 4) (pc' := 12) ok (dOf dX11_forgets 7 rfl) rfl (by decide) ?_
  refine J_iconst (v := (-1)) (pc' := 13) ok (dOf dX11_forgets 8 rfl) rfl (by decide) ?_
  refine J_iast (pc' := 14) ok (dOf dX11_forgets 9 rfl) rfl (fun h4 _ => ?_)
  refine J_aload_n (pc' := 15) ok (dOf dX11_forgets 10 rfl) rfl rfl rfl ?_
  refine J_getR (ci := 11) (kf := 5) (C := RX11) (T := TX11) (N := 29) (pc' := 18) ok (dOf dX11_forgets 11 rfl) rfl (by decide) rfl (by decide) win_11 wfl_X11_22 (fun a5 => ?_)
  refine J_iconst (v := 5) (pc' := 19) ok (dOf dX11_forgets 12 rfl) rfl (by decide) ?_
  refine J_iconst (v := (-1)) (pc' := 20) ok (dOf dX11_forgets 13 rfl) rfl (by decide) ?_
  refine J_iast (pc' := 21) ok (dOf dX11_forgets 14 rfl) rfl (fun h6 _ => ?_)
  refine J_aload_n (pc' := 22) ok (dOf dX11_forgets 15 rfl) rfl rfl rfl ?_
  refine J_getR (ci := 11) (kf := 5) (C := RX11) (T := TX11) (N := 29) (pc' := 25) ok (dOf dX11_forgets 16 rfl) rfl (by decide) rfl (by decide) win_11 wfl_X11_22 (fun a7 => ?_)
  refine J_bipush (v := 6) (pc' := 27) ok (dOf dX11_forgets 17 rfl) rfl (by decide) ?_
  refine J_iconst (v := (-1)) (pc' := 28) ok (dOf dX11_forgets 18 rfl) rfl (by decide) ?_
  refine J_iast (pc' := 29) ok (dOf dX11_forgets 19 rfl) rfl (fun h8 _ => ?_)
  refine J_aload_n (pc' := 30) ok (dOf dX11_forgets 20 rfl) rfl rfl rfl ?_
  refine J_getR (ci := 11) (kf := 5) (C := RX11) (T := TX11) (N := 29) (pc' := 33) ok (dOf dX11_forgets 21 rfl) rfl (by decide) rfl (by decide) win_11 wfl_X11_22 (fun a9 => ?_)
  refine J_bipush (v := 7) (pc' := 35) ok (dOf dX11_forgets 22 rfl) rfl (by decide) ?_
  refine J_iconst (v := (-1)) (pc' := 36) ok (dOf dX11_forgets 23 rfl) rfl (by decide) ?_
  refine J_iast (pc' := 37) ok (dOf dX11_forgets 24 rfl) rfl (fun h10 _ => ?_)
  refine J_aload_n (pc' := 38) ok (dOf dX11_forgets 25 rfl) rfl rfl rfl ?_
  refine J_getR (ci := 11) (kf := 5) (C := RX11) (T := TX11) (N := 29) (pc' := 41) ok (dOf dX11_forgets 26 rfl) rfl (by decide) rfl (by decide) win_11 wfl_X11_22 (fun a11 => ?_)
  refine J_bipush (v := 8) (pc' := 43) ok (dOf dX11_forgets 27 rfl) rfl (by decide) ?_
  refine J_iconst (v := 0) (pc' := 44) ok (dOf dX11_forgets 28 rfl) rfl (by decide) ?_
  refine J_iast (pc' := 45) ok (dOf dX11_forgets 29 rfl) rfl (fun h12 _ => ?_)
  refine J_aload_n (pc' := 46) ok (dOf dX11_forgets 30 rfl) rfl rfl rfl ?_
  refine J_getR (ci := 11) (kf := 5) (C := RX11) (T := TX11) (N := 29) (pc' := 49) ok (dOf dX11_forgets 31 rfl) rfl (by decide) rfl (by decide) win_11 wfl_X11_22 (fun a13 => ?_)
  refine J_bipush (v := 10) (pc' := 51) ok (dOf dX11_forgets 32 rfl) rfl (by decide) ?_
  refine J_iconst (v := 0) (pc' := 52) ok (dOf dX11_forgets 33 rfl) rfl (by decide) ?_
  refine J_iast (pc' := 53) ok (dOf dX11_forgets 34 rfl) rfl (fun h14 _ => ?_)
  exact J_vreturn ok (dOf dX11_forgets 35 rfl) rfl (Eq.refl 0) (Nat.le_refl 0)
-- X11_empties
abbrev kMod_empties : Cd := (yX11_empties, cX11_empties, 2, none, 1, 20)
theorem dX11_empties : dcheck cX11_empties [(0, .iconst 0, 1), (1, .istore_n 1, 1), (2, .iload_n 1, 1), (3, .sipush 1427, 3), (6, .if_icmp .ge 16, 3), (9, .aload_n 0, 1), (10, .getfield 22, 3), (13, .iload_n 1, 1), (14, .iconst 0, 1), (15, .iastore, 1), (16, .iinc 1 1, 3), (19, .goto (-17), 3), (22, .iconst 0, 1), (23, .istore_n 1, 1), (24, .iload_n 1, 1), (25, .bipush 24, 2), (27, .if_icmp .ge 19, 3), (30, .aload_n 0, 1), (31, .getfield 22, 3), (34, .bipush 23, 2), (36, .iload_n 1, 1), (37, .iadd, 1), (38, .iconst (-1), 1), (39, .iastore, 1), (40, .iinc 1 1, 3), (43, .goto (-19), 3), (46, .aload_n 0, 1), (47, .invokevirtual 69, 3), (50, .return_, 1)] = true := by decide +kernel
theorem cw_Mod_empties {k : Cd} (h1 : kMod_empties.2.2.2.2.1 + 1 ≤ k.2.2.2.2.1) (h2 : 8 + (kMod_empties.2.2.1 + 11) + kMod_empties.2.2.2.2.2 ≤ k.2.2.2.2.2) : Cw k kMod_empties 0 := ⟨wcode_X11_empties, wini_SplitProgramModel, ⟨by decide, by decide, by decide +kernel⟩, h1, h2⟩
def Mod_empties_b2 (v0 : Nat) (s : Int32 × AHeap) : Option ((Int32 × AHeap) ⊕ ((Int32 × AHeap))) :=
  (if 1427 ≤ s.1 then some (Sum.inr (s.1, s.2)) else (gfR s.2 v0 11 5).bind fun a1 => (ast 0 s.2 a1 s.1 0).bind fun h2 => some (Sum.inl (s.1 + 1, h2)))
theorem Mod_empties_b2_J {E : JE} {l : Launch} {G : GX} {r : Option Value} {h' : AHeap} (ok : JOK E l G kMod_empties 0 0 r h') (v0 : Nat) {Y : (Int32 × AHeap) ⊕ ((Int32 × AHeap)) → Prop} (k1 : ∀ s' : Int32 × AHeap, Y (.inl s') → JW E kMod_empties 2 [some (.ref v0), some (.int s'.1)] [] s'.2 0 0) (kx22 : ∀ q : Int32 × AHeap, Y (.inr q) → JW E kMod_empties 22 [some (.ref v0), some (.int q.1)] [] q.2 0 0) (s : Int32 × AHeap) : J E kMod_empties (Mod_empties_b2 v0 s) Y 2 [some (.ref v0), some (.int s.1)] [] s.2 0 0 := by
  unfold Mod_empties_b2
  refine J_iload_n (pc' := 3) ok (dOf dX11_empties 2 rfl) rfl rfl rfl ?_
  refine J_sipush (v := 1427) (pc' := 6) ok (dOf dX11_empties 3 rfl) rfl (by decide) ?_
  refine J_icmp_ge (tgt := 22) (pc' := 9) ok (dOf dX11_empties 4 rfl) rfl (by decide) ?_ ?_
  · exact J_fin (kx22 (s.1, s.2))
  · refine J_aload_n (pc' := 10) ok (dOf dX11_empties 5 rfl) rfl rfl rfl ?_
    refine J_getR (ci := 11) (kf := 5) (C := RX11) (T := TX11) (N := 29) (pc' := 13) ok (dOf dX11_empties 6 rfl) rfl (by decide) rfl (by decide) win_11 wfl_X11_22 (fun a1 => ?_)
    refine J_iload_n (pc' := 14) ok (dOf dX11_empties 7 rfl) rfl rfl rfl ?_
    refine J_iconst (v := 0) (pc' := 15) ok (dOf dX11_empties 8 rfl) rfl (by decide) ?_
    refine J_iast (pc' := 16) ok (dOf dX11_empties 9 rfl) rfl (fun h2 _ => ?_)
    refine J_iinc (v := s.1 + 1) (ls' := [some (.ref v0), some (.int (s.1 + 1))]) (pc' := 19) ok (dOf dX11_empties 10 rfl) rfl rfl (by rfl) (Nat.le_of_ble_eq_true rfl) rfl rfl ?_
    refine J_goto (tgt := 2) ok (dOf dX11_empties 11 rfl) (by decide) ?_
    exact J_fin (k1 (s.1 + 1, h2))
def Mod_empties_b24 (v0 : Nat) (s : Int32 × AHeap) : Option ((Int32 × AHeap) ⊕ ((Int32 × AHeap))) :=
  (if 24 ≤ s.1 then some (Sum.inr (s.1, s.2)) else (gfR s.2 v0 11 5).bind fun a3 => (ast 0 s.2 a3 (23 + s.1) (-1)).bind fun h4 => some (Sum.inl (s.1 + 1, h4)))
theorem Mod_empties_b24_J {E : JE} {l : Launch} {G : GX} {r : Option Value} {h' : AHeap} (ok : JOK E l G kMod_empties 0 0 r h') (v0 : Nat) {Y : (Int32 × AHeap) ⊕ ((Int32 × AHeap)) → Prop} (k1 : ∀ s' : Int32 × AHeap, Y (.inl s') → JW E kMod_empties 24 [some (.ref v0), some (.int s'.1)] [] s'.2 0 0) (kx46 : ∀ q : Int32 × AHeap, Y (.inr q) → JW E kMod_empties 46 [some (.ref v0), some (.int q.1)] [] q.2 0 0) (s : Int32 × AHeap) : J E kMod_empties (Mod_empties_b24 v0 s) Y 24 [some (.ref v0), some (.int s.1)] [] s.2 0 0 := by
  unfold Mod_empties_b24
  refine J_iload_n (pc' := 25) ok (dOf dX11_empties 14 rfl) rfl rfl rfl ?_
  refine J_bipush (v := 24) (pc' := 27) ok (dOf dX11_empties 15 rfl) rfl (by decide) ?_
  refine J_icmp_ge (tgt := 46) (pc' := 30) ok (dOf dX11_empties 16 rfl) rfl (by decide) ?_ ?_
  · exact J_fin (kx46 (s.1, s.2))
  · refine J_aload_n (pc' := 31) ok (dOf dX11_empties 17 rfl) rfl rfl rfl ?_
    refine J_getR (ci := 11) (kf := 5) (C := RX11) (T := TX11) (N := 29) (pc' := 34) ok (dOf dX11_empties 18 rfl) rfl (by decide) rfl (by decide) win_11 wfl_X11_22 (fun a3 => ?_)
    refine J_bipush (v := 23) (pc' := 36) ok (dOf dX11_empties 19 rfl) rfl (by decide) ?_
    refine J_iload_n (pc' := 37) ok (dOf dX11_empties 20 rfl) rfl rfl rfl ?_
    refine J_iadd (pc' := 38) ok (dOf dX11_empties 21 rfl) rfl ?_
    refine J_iconst (v := (-1)) (pc' := 39) ok (dOf dX11_empties 22 rfl) rfl (by decide) ?_
    refine J_iast (pc' := 40) ok (dOf dX11_empties 23 rfl) rfl (fun h4 _ => ?_)
    refine J_iinc (v := s.1 + 1) (ls' := [some (.ref v0), some (.int (s.1 + 1))]) (pc' := 43) ok (dOf dX11_empties 24 rfl) rfl rfl (by rfl) (Nat.le_of_ble_eq_true rfl) rfl rfl ?_
    refine J_goto (tgt := 24) ok (dOf dX11_empties 25 rfl) (by decide) ?_
    exact J_fin (k1 (s.1 + 1, h4))
def Mod_empties_j46 (v0 : Nat) (v1 : Int32) (h : AHeap) : Option (Unit × AHeap) :=
  (chk h v0 11).bind fun _ => bnd2 (Mod_forgets v0 h) fun _ h5 => some ((), h5)
theorem Mod_empties_j46_J {E : JE} {l : Launch} {G : GX} {h' : AHeap} (ok : JOK E l G kMod_empties 0 0 none h') (v0 : Nat) (v1 : Int32) (h : AHeap) : J E kMod_empties (Mod_empties_j46 v0 v1 h) (fun z => z = ((), h')) 46 [some (.ref v0), some (.int v1)] [] h 0 0 := by
  unfold Mod_empties_j46
  refine J_aload_n (pc' := 47) ok (dOf dX11_empties 26 rfl) rfl rfl rfl ?_
  refine J_callVv (k2 := kMod_forgets) (ci := 11) (T := TX11) (N := 29) (as := []) (pc' := 50) ok (dOf dX11_empties 27 rfl) rfl (cw_Mod_forgets (by decide) (by decide)) wml_X11_69 winst_X11_forgets wsel_X11_forgets rfl ⟨Nat.le_refl 0, Nat.le_refl 0⟩ (Nat.le_of_ble_eq_true rfl) rfl (fun _ _ hf => t_Mod_forgets hf) (fun _ h5 => ?_)
  exact J_vreturn ok (dOf dX11_empties 28 rfl) rfl (Eq.refl 0) (Nat.le_refl 0)
def Mod_empties_j22 (v0 : Nat) (v1 : Int32) (h : AHeap) : Option (Unit × AHeap) :=
  (iter (Mod_empties_b24 v0) Lmax (0, h)).bind (fun (q24 : Int32 × AHeap) => Mod_empties_j46 v0 q24.1 q24.2)
theorem Mod_empties_j22_J {E : JE} {l : Launch} {G : GX} {h' : AHeap} (ok : JOK E l G kMod_empties 0 0 none h') (v0 : Nat) (v1 : Int32) (h : AHeap) : J E kMod_empties (Mod_empties_j22 v0 v1 h) (fun z => z = ((), h')) 22 [some (.ref v0), some (.int v1)] [] h 0 0 := by
  unfold Mod_empties_j22
  refine J_iconst (v := 0) (pc' := 23) ok (dOf dX11_empties 12 rfl) rfl (by decide) ?_
  refine J_istore_n (ls' := [some (.ref v0), some (.int 0)]) (pc' := 24) ok (dOf dX11_empties 13 rfl) rfl rfl (Nat.le_of_ble_eq_true rfl) rfl rfl ?_
  refine J_iter (lf := fun z24 => [some (.ref v0), some (.int z24.1)]) (sf := fun _ => []) (hf := fun z24 => z24.2) (px := (fun (q24 : Int32 × AHeap) => 46)) (lx := (fun (q24 : Int32 × AHeap) => [some (.ref v0), some (.int q24.1)])) (sx := (fun (q24 : Int32 × AHeap) => [])) (hx := (fun (q24 : Int32 × AHeap) => q24.2)) (fun Y2 z24 m1 m2 => Mod_empties_b24_J ok v0 m1 m2 z24) (fun q24 => ?_) Lmax _
  exact Mod_empties_j46_J ok v0 q24.1 q24.2
def Mod_empties (v0 : Nat) (h : AHeap) : Option (Unit × AHeap) :=
  (iter (Mod_empties_b2 v0) Lmax (0, h)).bind (fun (q2 : Int32 × AHeap) => Mod_empties_j22 v0 q2.1 q2.2)
theorem t_Mod_empties {l : Launch} {G : GX} {v0 : Nat} {h : AHeap} {h1 : AHeap} (hf : Mod_empties v0 h = some ((), h1)) : CT l G kMod_empties 0 0 [.ref v0] h none h1 := by
  refine CT_of (ls := [some (.ref v0), none]) (Z := fun z => z = ((), h1)) (by decide +kernel) (Nat.le_of_ble_eq_true rfl) hf rfl ⟨rfl, trivial⟩ (fun E ok => ?_)
  unfold Mod_empties
  refine J_iconst (v := 0) (pc' := 1) ok (dOf dX11_empties 0 rfl) rfl (by decide) ?_
  refine J_istore_n (ls' := [some (.ref v0), some (.int 0)]) (pc' := 2) ok (dOf dX11_empties 1 rfl) rfl rfl (Nat.le_of_ble_eq_true rfl) rfl rfl ?_
  refine J_iter (lf := fun z2 => [some (.ref v0), some (.int z2.1)]) (sf := fun _ => []) (hf := fun z2 => z2.2) (px := (fun (q2 : Int32 × AHeap) => 22)) (lx := (fun (q2 : Int32 × AHeap) => [some (.ref v0), some (.int q2.1)])) (sx := (fun (q2 : Int32 × AHeap) => [])) (hx := (fun (q2 : Int32 × AHeap) => q2.2)) (fun Y2 z2 m1 m2 => Mod_empties_b2_J ok v0 m1 m2 z2) (fun q2 => ?_) Lmax _
  exact Mod_empties_j22_J ok v0 q2.1 q2.2
-- X11_init
abbrev kMod_init : Cd := (yX11_init, cX11_init, 1, none, 2, 41)
theorem dX11_init : dcheck cX11_init [(0, .aload_n 0, 1), (1, .invokespecial 1, 3), (4, .aload_n 0, 1), (5, .bipush 7, 2), (7, .newarray .int, 2), (9, .putfield 7, 3), (12, .aload_n 0, 1), (13, .iconst 4, 1), (14, .newarray .int, 2), (16, .dup, 1), (17, .iconst 0, 1), (18, .iconst 0, 1), (19, .iastore, 1), (20, .dup, 1), (21, .iconst 1, 1), (22, .iconst 0, 1), (23, .iastore, 1), (24, .dup, 1), (25, .iconst 2, 1), (26, .iconst 0, 1), (27, .iastore, 1), (28, .dup, 1), (29, .iconst 3, 1), (30, .bipush 40, 2), (32, .iastore, 1), (33, .putfield 13, 3), (36, .aload_n 0, 1), (37, .iconst 4, 1), (38, .newarray .int, 2), (40, .dup, 1), (41, .iconst 0, 1), (42, .iconst 0, 1), (43, .iastore, 1), (44, .dup, 1), (45, .iconst 1, 1), (46, .iconst 0, 1), (47, .iastore, 1), (48, .dup, 1), (49, .iconst 2, 1), (50, .iconst 0, 1), (51, .iastore, 1), (52, .dup, 1), (53, .iconst 3, 1), (54, .iconst 4, 1), (55, .iastore, 1), (56, .putfield 16, 3), (59, .aload_n 0, 1), (60, .iconst 4, 1), (61, .newarray .int, 2), (63, .dup, 1), (64, .iconst 0, 1), (65, .iconst 1, 1), (66, .iastore, 1), (67, .dup, 1), (68, .iconst 1, 1), (69, .bipush 9, 2), (71, .iastore, 1), (72, .dup, 1), (73, .iconst 2, 1), (74, .sipush 1000, 3), (77, .iastore, 1), (78, .dup, 1), (79, .iconst 3, 1), (80, .bipush 40, 2), (82, .iastore, 1), (83, .putfield 19, 3), (86, .aload_n 0, 1), (87, .sipush 1427, 3), (90, .newarray .int, 2), (92, .putfield 22, 3), (95, .aload_n 0, 1), (96, .sipush 1427, 3), (99, .newarray .int, 2), (101, .putfield 25, 3), (104, .aload_n 0, 1), (105, .sipush 1427, 3), (108, .newarray .int, 2), (110, .putfield 28, 3), (113, .aload_n 0, 1), (114, .sipush 400, 3), (117, .newarray .int, 2), (119, .putfield 31, 3), (122, .aload_n 0, 1), (123, .iconst (-1), 1), (124, .putfield 34, 3), (127, .aload_n 0, 1), (128, .sipush 17124, 3), (131, .newarray .int, 2), (133, .putfield 38, 3), (136, .aload_n 0, 1), (137, .bipush 12, 2), (139, .newarray .int, 2), (141, .putfield 41, 3), (144, .aload_n 0, 1), (145, .sipush 2862, 3), (148, .newarray .int, 2), (150, .putfield 44, 3), (153, .aload_n 0, 1), (154, .iconst 2, 1), (155, .newarray .boolean, 2), (157, .putfield 47, 3), (160, .aload_n 0, 1), (161, .iconst 4, 1), (162, .newarray .int, 2), (164, .putfield 51, 3), (167, .aload_n 0, 1), (168, .bipush 6, 2), (170, .newarray .int, 2), (172, .putfield 54, 3), (175, .aload_n 0, 1), (176, .bipush 6, 2), (178, .newarray .int, 2), (180, .putfield 57, 3), (183, .aload_n 0, 1), (184, .bipush 52, 2), (186, .newarray .int, 2), (188, .putfield 60, 3), (191, .aload_n 0, 1), (192, .iconst 4, 1), (193, .newarray .int, 2), (195, .putfield 63, 3), (198, .aload_n 0, 1), (199, .invokevirtual 66, 3), (202, .return_, 1)] = true := by decide +kernel
theorem cw_Mod_init {k : Cd} (h1 : kMod_init.2.2.2.2.1 + 1 ≤ k.2.2.2.2.1) (h2 : 8 + (kMod_init.2.2.1 + 11) + kMod_init.2.2.2.2.2 ≤ k.2.2.2.2.2) : Cw k kMod_init 0 := ⟨wcode_X11_init, wini_SplitProgramModel, ⟨by decide, by decide, by decide +kernel⟩, h1, h2⟩
def Mod_init (v0 : Nat) (h : AHeap) : Option (Unit × AHeap) :=
  bnd2 (alc h (.inr (.inl (0, List.replicate 7 0)))) fun a1 h2 => (pfV h2 v0 11 1 (.ref a1)).bind fun h3 => bnd2 (alc h3 (.inr (.inl (0, List.replicate 4 0)))) fun a4 h5 => (ast 0 h5 a4 0 0).bind fun h6 => (ast 0 h6 a4 1 0).bind fun h7 => (ast 0 h7 a4 2 0).bind fun h8 => (ast 0 h8 a4 3 40).bind fun h9 => (pfV h9 v0 11 2 (.ref a4)).bind fun h10 => bnd2 (alc h10 (.inr (.inl (0, List.replicate 4 0)))) fun a11 h12 => (ast 0 h12 a11 0 0).bind fun h13 => (ast 0 h13 a11 1 0).bind fun h14 => (ast 0 h14 a11 2 0).bind fun h15 => (ast 0 h15 a11 3 4).bind fun h16 => (pfV h16 v0 11 3 (.ref a11)).bind fun h17 => bnd2 (alc h17 (.inr (.inl (0, List.replicate 4 0)))) fun a18 h19 => (ast 0 h19 a18 0 1).bind fun h20 => (ast 0 h20 a18 1 9).bind fun h21 => (ast 0 h21 a18 2 1000).bind fun h22 => (ast 0 h22 a18 3 40).bind fun h23 => (pfV h23 v0 11 4 (.ref a18)).bind fun h24 => bnd2 (alc h24 (.inr (.inl (0, List.replicate 1427 0)))) fun a25 h26 => (pfV h26 v0 11 5 (.ref a25)).bind fun h27 => bnd2 (alc h27 (.inr (.inl (0, List.replicate 1427 0)))) fun a28 h29 => (pfV h29 v0 11 6 (.ref a28)).bind fun h30 => bnd2 (alc h30 (.inr (.inl (0, List.replicate 1427 0)))) fun a31 h32 => (pfV h32 v0 11 7 (.ref a31)).bind fun h33 => bnd2 (alc h33 (.inr (.inl (0, List.replicate 400 0)))) fun a34 h35 => (pfV h35 v0 11 8 (.ref a34)).bind fun h36 => (pfV h36 v0 11 10 (.int (-1))).bind fun h37 => bnd2 (alc h37 (.inr (.inl (0, List.replicate 17124 0)))) fun a38 h39 => (pfV h39 v0 11 11 (.ref a38)).bind fun h40 => bnd2 (alc h40 (.inr (.inl (0, List.replicate 12 0)))) fun a41 h42 => (pfV h42 v0 11 12 (.ref a41)).bind fun h43 => bnd2 (alc h43 (.inr (.inl (0, List.replicate 2862 0)))) fun a44 h45 => (pfV h45 v0 11 15 (.ref a44)).bind fun h46 => bnd2 (alc h46 (.inr (.inl (1, List.replicate 2 0)))) fun a47 h48 => (pfV h48 v0 11 16 (.ref a47)).bind fun h49 => bnd2 (alc h49 (.inr (.inl (0, List.replicate 4 0)))) fun a50 h51 => (pfV h51 v0 11 23 (.ref a50)).bind fun h52 => bnd2 (alc h52 (.inr (.inl (0, List.replicate 6 0)))) fun a53 h54 => (pfV h54 v0 11 24 (.ref a53)).bind fun h55 => bnd2 (alc h55 (.inr (.inl (0, List.replicate 6 0)))) fun a56 h57 => (pfV h57 v0 11 25 (.ref a56)).bind fun h58 => bnd2 (alc h58 (.inr (.inl (0, List.replicate 52 0)))) fun a59 h60 => (pfV h60 v0 11 26 (.ref a59)).bind fun h61 => bnd2 (alc h61 (.inr (.inl (0, List.replicate 4 0)))) fun a62 h63 => (pfV h63 v0 11 28 (.ref a62)).bind fun h64 => (chk h64 v0 11).bind fun _ => bnd2 (Mod_empties v0 h64) fun _ h65 => some ((), h65)
theorem t_Mod_init {l : Launch} {G : GX} {v0 : Nat} {h h1 : AHeap} (hf : Mod_init v0 h = some ((), h1)) : CT l G kMod_init 17 24772 [.ref v0] h none h1 := by
  refine CT_of (ls := [some (.ref v0)]) (Z := fun z => z = ((), h1)) (by decide +kernel) (Nat.le_of_ble_eq_true rfl) hf rfl ⟨rfl, trivial⟩ (fun E ok => ?_)
  unfold Mod_init
  refine J_aload_n (pc' := 1) ok (dOf dX11_init 0 rfl) rfl rfl rfl ?_
  refine J_objInit (pc' := 4) ok (dOf dX11_init 1 rfl) rfl wml_X11_1 winst_java_lang_Object__init_ wcode_java_lang_Object__init_ (Nat.le_of_ble_eq_true rfl) (Nat.le_of_ble_eq_true rfl) ?_
  refine J_aload_n (pc' := 5) ok (dOf dX11_init 2 rfl) rfl rfl rfl ?_
  refine J_bipush (v := 7) (pc' := 7) ok (dOf dX11_init 3 rfl) rfl (by decide) ?_
  refine J_newa0 (n := 7) (N := 7) (pc' := 9) ok (dOf dX11_init 4 rfl) rfl warr_int (by decide) (by decide) (by decide) (by decide) (by decide) (fun a1 h2 => ?_)
  refine J_putFR (ci := 11) (kf := 1) (C := RX11) (T := TX11) (N := 29) (pc' := 12) ok tyX11 (dOf dX11_init 5 rfl) rfl rfl (by decide) win_11 tyX11_ok nmX11 (fun _ => ⟨rfl, rfl⟩) rfl rfl rfl wfl_X11_7 (fun h3 _ => ?_)
  refine J_aload_n (pc' := 13) ok (dOf dX11_init 6 rfl) rfl rfl rfl ?_
  refine J_iconst (v := 4) (pc' := 14) ok (dOf dX11_init 7 rfl) rfl (by decide) ?_
  refine J_newa0 (n := 4) (N := 4) (pc' := 16) ok (dOf dX11_init 8 rfl) rfl warr_int (by decide) (by decide) (by decide) (by decide) (by decide) (fun a4 h5 => ?_)
  refine J_dup (pc' := 17) ok (dOf dX11_init 9 rfl) rfl rfl ?_
  refine J_iconst (v := 0) (pc' := 18) ok (dOf dX11_init 10 rfl) rfl (by decide) ?_
  refine J_iconst (v := 0) (pc' := 19) ok (dOf dX11_init 11 rfl) rfl (by decide) ?_
  refine J_iast (pc' := 20) ok (dOf dX11_init 12 rfl) rfl (fun h6 _ => ?_)
  refine J_dup (pc' := 21) ok (dOf dX11_init 13 rfl) rfl rfl ?_
  refine J_iconst (v := 1) (pc' := 22) ok (dOf dX11_init 14 rfl) rfl (by decide) ?_
  refine J_iconst (v := 0) (pc' := 23) ok (dOf dX11_init 15 rfl) rfl (by decide) ?_
  refine J_iast (pc' := 24) ok (dOf dX11_init 16 rfl) rfl (fun h7 _ => ?_)
  refine J_dup (pc' := 25) ok (dOf dX11_init 17 rfl) rfl rfl ?_
  refine J_iconst (v := 2) (pc' := 26) ok (dOf dX11_init 18 rfl) rfl (by decide) ?_
  refine J_iconst (v := 0) (pc' := 27) ok (dOf dX11_init 19 rfl) rfl (by decide) ?_
  refine J_iast (pc' := 28) ok (dOf dX11_init 20 rfl) rfl (fun h8 _ => ?_)
  refine J_dup (pc' := 29) ok (dOf dX11_init 21 rfl) rfl rfl ?_
  refine J_iconst (v := 3) (pc' := 30) ok (dOf dX11_init 22 rfl) rfl (by decide) ?_
  refine J_bipush (v := 40) (pc' := 32) ok (dOf dX11_init 23 rfl) rfl (by decide) ?_
  refine J_iast (pc' := 33) ok (dOf dX11_init 24 rfl) rfl (fun h9 _ => ?_)
  refine J_putFR (ci := 11) (kf := 2) (C := RX11) (T := TX11) (N := 29) (pc' := 36) ok tyX11 (dOf dX11_init 25 rfl) rfl rfl (by decide) win_11 tyX11_ok nmX11 (fun _ => ⟨rfl, rfl⟩) rfl rfl rfl wfl_X11_13 (fun h10 _ => ?_)
  refine J_aload_n (pc' := 37) ok (dOf dX11_init 26 rfl) rfl rfl rfl ?_
  refine J_iconst (v := 4) (pc' := 38) ok (dOf dX11_init 27 rfl) rfl (by decide) ?_
  refine J_newa0 (n := 4) (N := 4) (pc' := 40) ok (dOf dX11_init 28 rfl) rfl warr_int (by decide) (by decide) (by decide) (by decide) (by decide) (fun a11 h12 => ?_)
  refine J_dup (pc' := 41) ok (dOf dX11_init 29 rfl) rfl rfl ?_
  refine J_iconst (v := 0) (pc' := 42) ok (dOf dX11_init 30 rfl) rfl (by decide) ?_
  refine J_iconst (v := 0) (pc' := 43) ok (dOf dX11_init 31 rfl) rfl (by decide) ?_
  refine J_iast (pc' := 44) ok (dOf dX11_init 32 rfl) rfl (fun h13 _ => ?_)
  refine J_dup (pc' := 45) ok (dOf dX11_init 33 rfl) rfl rfl ?_
  refine J_iconst (v := 1) (pc' := 46) ok (dOf dX11_init 34 rfl) rfl (by decide) ?_
  refine J_iconst (v := 0) (pc' := 47) ok (dOf dX11_init 35 rfl) rfl (by decide) ?_
  refine J_iast (pc' := 48) ok (dOf dX11_init 36 rfl) rfl (fun h14 _ => ?_)
  refine J_dup (pc' := 49) ok (dOf dX11_init 37 rfl) rfl rfl ?_
  refine J_iconst (v := 2) (pc' := 50) ok (dOf dX11_init 38 rfl) rfl (by decide) ?_
  refine J_iconst (v := 0) (pc' := 51) ok (dOf dX11_init 39 rfl) rfl (by decide) ?_
  refine J_iast (pc' := 52) ok (dOf dX11_init 40 rfl) rfl (fun h15 _ => ?_)
  refine J_dup (pc' := 53) ok (dOf dX11_init 41 rfl) rfl rfl ?_
  refine J_iconst (v := 3) (pc' := 54) ok (dOf dX11_init 42 rfl) rfl (by decide) ?_
  refine J_iconst (v := 4) (pc' := 55) ok (dOf dX11_init 43 rfl) rfl (by decide) ?_
  refine J_iast (pc' := 56) ok (dOf dX11_init 44 rfl) rfl (fun h16 _ => ?_)
  refine J_putFR (ci := 11) (kf := 3) (C := RX11) (T := TX11) (N := 29) (pc' := 59) ok tyX11 (dOf dX11_init 45 rfl) rfl rfl (by decide) win_11 tyX11_ok nmX11 (fun _ => ⟨rfl, rfl⟩) rfl rfl rfl wfl_X11_16 (fun h17 _ => ?_)
  refine J_aload_n (pc' := 60) ok (dOf dX11_init 46 rfl) rfl rfl rfl ?_
  refine J_iconst (v := 4) (pc' := 61) ok (dOf dX11_init 47 rfl) rfl (by decide) ?_
  refine J_newa0 (n := 4) (N := 4) (pc' := 63) ok (dOf dX11_init 48 rfl) rfl warr_int (by decide) (by decide) (by decide) (by decide) (by decide) (fun a18 h19 => ?_)
  refine J_dup (pc' := 64) ok (dOf dX11_init 49 rfl) rfl rfl ?_
  refine J_iconst (v := 0) (pc' := 65) ok (dOf dX11_init 50 rfl) rfl (by decide) ?_
  refine J_iconst (v := 1) (pc' := 66) ok (dOf dX11_init 51 rfl) rfl (by decide) ?_
  refine J_iast (pc' := 67) ok (dOf dX11_init 52 rfl) rfl (fun h20 _ => ?_)
  refine J_dup (pc' := 68) ok (dOf dX11_init 53 rfl) rfl rfl ?_
  refine J_iconst (v := 1) (pc' := 69) ok (dOf dX11_init 54 rfl) rfl (by decide) ?_
  refine J_bipush (v := 9) (pc' := 71) ok (dOf dX11_init 55 rfl) rfl (by decide) ?_
  refine J_iast (pc' := 72) ok (dOf dX11_init 56 rfl) rfl (fun h21 _ => ?_)
  refine J_dup (pc' := 73) ok (dOf dX11_init 57 rfl) rfl rfl ?_
  refine J_iconst (v := 2) (pc' := 74) ok (dOf dX11_init 58 rfl) rfl (by decide) ?_
  refine J_sipush (v := 1000) (pc' := 77) ok (dOf dX11_init 59 rfl) rfl (by decide) ?_
  refine J_iast (pc' := 78) ok (dOf dX11_init 60 rfl) rfl (fun h22 _ => ?_)
  refine J_dup (pc' := 79) ok (dOf dX11_init 61 rfl) rfl rfl ?_
  refine J_iconst (v := 3) (pc' := 80) ok (dOf dX11_init 62 rfl) rfl (by decide) ?_
  refine J_bipush (v := 40) (pc' := 82) ok (dOf dX11_init 63 rfl) rfl (by decide) ?_
  refine J_iast (pc' := 83) ok (dOf dX11_init 64 rfl) rfl (fun h23 _ => ?_)
  refine J_putFR (ci := 11) (kf := 4) (C := RX11) (T := TX11) (N := 29) (pc' := 86) ok tyX11 (dOf dX11_init 65 rfl) rfl rfl (by decide) win_11 tyX11_ok nmX11 (fun _ => ⟨rfl, rfl⟩) rfl rfl rfl wfl_X11_19 (fun h24 _ => ?_)
  refine J_aload_n (pc' := 87) ok (dOf dX11_init 66 rfl) rfl rfl rfl ?_
  refine J_sipush (v := 1427) (pc' := 90) ok (dOf dX11_init 67 rfl) rfl (by decide) ?_
  refine J_newa0 (n := 1427) (N := 1427) (pc' := 92) ok (dOf dX11_init 68 rfl) rfl warr_int (by decide) (by decide) (by decide) (by decide) (by decide) (fun a25 h26 => ?_)
  refine J_putFR (ci := 11) (kf := 5) (C := RX11) (T := TX11) (N := 29) (pc' := 95) ok tyX11 (dOf dX11_init 69 rfl) rfl rfl (by decide) win_11 tyX11_ok nmX11 (fun _ => ⟨rfl, rfl⟩) rfl rfl rfl wfl_X11_22 (fun h27 _ => ?_)
  refine J_aload_n (pc' := 96) ok (dOf dX11_init 70 rfl) rfl rfl rfl ?_
  refine J_sipush (v := 1427) (pc' := 99) ok (dOf dX11_init 71 rfl) rfl (by decide) ?_
  refine J_newa0 (n := 1427) (N := 1427) (pc' := 101) ok (dOf dX11_init 72 rfl) rfl warr_int (by decide) (by decide) (by decide) (by decide) (by decide) (fun a28 h29 => ?_)
  refine J_putFR (ci := 11) (kf := 6) (C := RX11) (T := TX11) (N := 29) (pc' := 104) ok tyX11 (dOf dX11_init 73 rfl) rfl rfl (by decide) win_11 tyX11_ok nmX11 (fun _ => ⟨rfl, rfl⟩) rfl rfl rfl wfl_X11_25 (fun h30 _ => ?_)
  refine J_aload_n (pc' := 105) ok (dOf dX11_init 74 rfl) rfl rfl rfl ?_
  refine J_sipush (v := 1427) (pc' := 108) ok (dOf dX11_init 75 rfl) rfl (by decide) ?_
  refine J_newa0 (n := 1427) (N := 1427) (pc' := 110) ok (dOf dX11_init 76 rfl) rfl warr_int (by decide) (by decide) (by decide) (by decide) (by decide) (fun a31 h32 => ?_)
  refine J_putFR (ci := 11) (kf := 7) (C := RX11) (T := TX11) (N := 29) (pc' := 113) ok tyX11 (dOf dX11_init 77 rfl) rfl rfl (by decide) win_11 tyX11_ok nmX11 (fun _ => ⟨rfl, rfl⟩) rfl rfl rfl wfl_X11_28 (fun h33 _ => ?_)
  refine J_aload_n (pc' := 114) ok (dOf dX11_init 78 rfl) rfl rfl rfl ?_
  refine J_sipush (v := 400) (pc' := 117) ok (dOf dX11_init 79 rfl) rfl (by decide) ?_
  refine J_newa0 (n := 400) (N := 400) (pc' := 119) ok (dOf dX11_init 80 rfl) rfl warr_int (by decide) (by decide) (by decide) (by decide) (by decide) (fun a34 h35 => ?_)
  refine J_putFR (ci := 11) (kf := 8) (C := RX11) (T := TX11) (N := 29) (pc' := 122) ok tyX11 (dOf dX11_init 81 rfl) rfl rfl (by decide) win_11 tyX11_ok nmX11 (fun _ => ⟨rfl, rfl⟩) rfl rfl rfl wfl_X11_31 (fun h36 _ => ?_)
  refine J_aload_n (pc' := 123) ok (dOf dX11_init 82 rfl) rfl rfl rfl ?_
  refine J_iconst (v := (-1)) (pc' := 124) ok (dOf dX11_init 83 rfl) rfl (by decide) ?_
  refine J_putI (ci := 11) (kf := 10) (C := RX11) (T := TX11) (N := 29) (pc' := 127) ok tyX11 (dOf dX11_init 84 rfl) rfl rfl (by decide) win_11 tyX11_ok nmX11 rfl rfl wfl_X11_34 (fun h37 _ => ?_)
  refine J_aload_n (pc' := 128) ok (dOf dX11_init 85 rfl) rfl rfl rfl ?_
  refine J_sipush (v := 17124) (pc' := 131) ok (dOf dX11_init 86 rfl) rfl (by decide) ?_
  refine J_newa0 (n := 17124) (N := 17124) (pc' := 133) ok (dOf dX11_init 87 rfl) rfl warr_int (by decide) (by decide) (by decide) (by decide) (by decide) (fun a38 h39 => ?_)
  refine J_putFR (ci := 11) (kf := 11) (C := RX11) (T := TX11) (N := 29) (pc' := 136) ok tyX11 (dOf dX11_init 88 rfl) rfl rfl (by decide) win_11 tyX11_ok nmX11 (fun _ => ⟨rfl, rfl⟩) rfl rfl rfl wfl_X11_38 (fun h40 _ => ?_)
  refine J_aload_n (pc' := 137) ok (dOf dX11_init 89 rfl) rfl rfl rfl ?_
  refine J_bipush (v := 12) (pc' := 139) ok (dOf dX11_init 90 rfl) rfl (by decide) ?_
  refine J_newa0 (n := 12) (N := 12) (pc' := 141) ok (dOf dX11_init 91 rfl) rfl warr_int (by decide) (by decide) (by decide) (by decide) (by decide) (fun a41 h42 => ?_)
  refine J_putFR (ci := 11) (kf := 12) (C := RX11) (T := TX11) (N := 29) (pc' := 144) ok tyX11 (dOf dX11_init 92 rfl) rfl rfl (by decide) win_11 tyX11_ok nmX11 (fun _ => ⟨rfl, rfl⟩) rfl rfl rfl wfl_X11_41 (fun h43 _ => ?_)
  refine J_aload_n (pc' := 145) ok (dOf dX11_init 93 rfl) rfl rfl rfl ?_
  refine J_sipush (v := 2862) (pc' := 148) ok (dOf dX11_init 94 rfl) rfl (by decide) ?_
  refine J_newa0 (n := 2862) (N := 2862) (pc' := 150) ok (dOf dX11_init 95 rfl) rfl warr_int (by decide) (by decide) (by decide) (by decide) (by decide) (fun a44 h45 => ?_)
  refine J_putFR (ci := 11) (kf := 15) (C := RX11) (T := TX11) (N := 29) (pc' := 153) ok tyX11 (dOf dX11_init 96 rfl) rfl rfl (by decide) win_11 tyX11_ok nmX11 (fun _ => ⟨rfl, rfl⟩) rfl rfl rfl wfl_X11_44 (fun h46 _ => ?_)
  refine J_aload_n (pc' := 154) ok (dOf dX11_init 97 rfl) rfl rfl rfl ?_
  refine J_iconst (v := 2) (pc' := 155) ok (dOf dX11_init 98 rfl) rfl (by decide) ?_
  refine J_newa1 (n := 2) (N := 2) (pc' := 157) ok (dOf dX11_init 99 rfl) rfl warr_boolean (by decide) (by decide) (by decide) (by decide) (by decide) (fun a47 h48 => ?_)
  refine J_putFR (ci := 11) (kf := 16) (C := RX11) (T := TX11) (N := 29) (pc' := 160) ok tyX11 (dOf dX11_init 100 rfl) rfl rfl (by decide) win_11 tyX11_ok nmX11 (fun _ => ⟨rfl, rfl⟩) rfl rfl rfl wfl_X11_47 (fun h49 _ => ?_)
  refine J_aload_n (pc' := 161) ok (dOf dX11_init 101 rfl) rfl rfl rfl ?_
  refine J_iconst (v := 4) (pc' := 162) ok (dOf dX11_init 102 rfl) rfl (by decide) ?_
  refine J_newa0 (n := 4) (N := 4) (pc' := 164) ok (dOf dX11_init 103 rfl) rfl warr_int (by decide) (by decide) (by decide) (by decide) (by decide) (fun a50 h51 => ?_)
  refine J_putFR (ci := 11) (kf := 23) (C := RX11) (T := TX11) (N := 29) (pc' := 167) ok tyX11 (dOf dX11_init 104 rfl) rfl rfl (by decide) win_11 tyX11_ok nmX11 (fun _ => ⟨rfl, rfl⟩) rfl rfl rfl wfl_X11_51 (fun h52 _ => ?_)
  refine J_aload_n (pc' := 168) ok (dOf dX11_init 105 rfl) rfl rfl rfl ?_
  refine J_bipush (v := 6) (pc' := 170) ok (dOf dX11_init 106 rfl) rfl (by decide) ?_
  refine J_newa0 (n := 6) (N := 6) (pc' := 172) ok (dOf dX11_init 107 rfl) rfl warr_int (by decide) (by decide) (by decide) (by decide) (by decide) (fun a53 h54 => ?_)
  refine J_putFR (ci := 11) (kf := 24) (C := RX11) (T := TX11) (N := 29) (pc' := 175) ok tyX11 (dOf dX11_init 108 rfl) rfl rfl (by decide) win_11 tyX11_ok nmX11 (fun _ => ⟨rfl, rfl⟩) rfl rfl rfl wfl_X11_54 (fun h55 _ => ?_)
  refine J_aload_n (pc' := 176) ok (dOf dX11_init 109 rfl) rfl rfl rfl ?_
  refine J_bipush (v := 6) (pc' := 178) ok (dOf dX11_init 110 rfl) rfl (by decide) ?_
  refine J_newa0 (n := 6) (N := 6) (pc' := 180) ok (dOf dX11_init 111 rfl) rfl warr_int (by decide) (by decide) (by decide) (by decide) (by decide) (fun a56 h57 => ?_)
  refine J_putFR (ci := 11) (kf := 25) (C := RX11) (T := TX11) (N := 29) (pc' := 183) ok tyX11 (dOf dX11_init 112 rfl) rfl rfl (by decide) win_11 tyX11_ok nmX11 (fun _ => ⟨rfl, rfl⟩) rfl rfl rfl wfl_X11_57 (fun h58 _ => ?_)
  refine J_aload_n (pc' := 184) ok (dOf dX11_init 113 rfl) rfl rfl rfl ?_
  refine J_bipush (v := 52) (pc' := 186) ok (dOf dX11_init 114 rfl) rfl (by decide) ?_
  refine J_newa0 (n := 52) (N := 52) (pc' := 188) ok (dOf dX11_init 115 rfl) rfl warr_int (by decide) (by decide) (by decide) (by decide) (by decide) (fun a59 h60 => ?_)
  refine J_putFR (ci := 11) (kf := 26) (C := RX11) (T := TX11) (N := 29) (pc' := 191) ok tyX11 (dOf dX11_init 116 rfl) rfl rfl (by decide) win_11 tyX11_ok nmX11 (fun _ => ⟨rfl, rfl⟩) rfl rfl rfl wfl_X11_60 (fun h61 _ => ?_)
  refine J_aload_n (pc' := 192) ok (dOf dX11_init 117 rfl) rfl rfl rfl ?_
  refine J_iconst (v := 4) (pc' := 193) ok (dOf dX11_init 118 rfl) rfl (by decide) ?_
  refine J_newa0 (n := 4) (N := 4) (pc' := 195) ok (dOf dX11_init 119 rfl) rfl warr_int (by decide) (by decide) (by decide) (by decide) (by decide) (fun a62 h63 => ?_)
  refine J_putFR (ci := 11) (kf := 28) (C := RX11) (T := TX11) (N := 29) (pc' := 198) ok tyX11 (dOf dX11_init 120 rfl) rfl rfl (by decide) win_11 tyX11_ok nmX11 (fun _ => ⟨rfl, rfl⟩) rfl rfl rfl wfl_X11_63 (fun h64 _ => ?_)
  refine J_aload_n (pc' := 199) ok (dOf dX11_init 121 rfl) rfl rfl rfl ?_
  refine J_callVv (k2 := kMod_empties) (ci := 11) (T := TX11) (N := 29) (as := []) (pc' := 202) ok (dOf dX11_init 122 rfl) rfl (cw_Mod_empties (by decide) (by decide)) wml_X11_66 winst_X11_empties wsel_X11_empties rfl ⟨by decide, by decide⟩ (Nat.le_of_ble_eq_true rfl) rfl (fun _ _ hf => t_Mod_empties hf) (fun _ h65 => ?_)
  exact J_vreturn ok (dOf dX11_init 123 rfl) rfl (by decide) (by decide)
-- X11_isIn
abbrev kMod_isIn : Cd := (yX11_isIn, cX11_isIn, 3, (some .boolean), 0, 0)
theorem dX11_isIn : dcheck cX11_isIn [(0, .iload_n 0, 1), (1, .iload_n 1, 1), (2, .if_icmp .lt 12, 3), (5, .iload_n 0, 1), (6, .iload_n 2, 1), (7, .if_icmp .gt 7, 3), (10, .iconst 1, 1), (11, .goto 4, 3), (14, .iconst 0, 1), (15, .ireturn, 1)] = true := by decide +kernel
theorem cw_Mod_isIn {k : Cd} (h1 : kMod_isIn.2.2.2.2.1 + 1 ≤ k.2.2.2.2.1) (h2 : 8 + (kMod_isIn.2.2.1 + 11) + kMod_isIn.2.2.2.2.2 ≤ k.2.2.2.2.2) : Cw k kMod_isIn 3 := ⟨wcode_X11_isIn, wini_SplitProgramModel, ⟨by decide, by decide, by decide +kernel⟩, h1, h2⟩
def Mod_isIn_j15 (v0 : Int32) (v1 : Int32) (v2 : Int32) (t0 : Int32) (h : AHeap) : Option (Int32 × AHeap) :=
  (bz t0).bind fun z => some (z, h)
theorem Mod_isIn_j15_J {E : JE} {l : Launch} {G : GX} {v : Int32} {h' : AHeap} (ok : JOK E l G kMod_isIn 0 0 (some (.int v)) h') (v0 : Int32) (v1 : Int32) (v2 : Int32) (t0 : Int32) (h : AHeap) : J E kMod_isIn (Mod_isIn_j15 v0 v1 v2 t0 h) (fun z => z = (v, h')) 15 [some (.int v0), some (.int v1), some (.int v2)] [.int t0] h 0 0 := by
  unfold Mod_isIn_j15
  exact J_zreturn ok (dOf dX11_isIn 9 rfl) rfl (Eq.refl 0) (Nat.le_refl 0)
def Mod_isIn_j14 (v0 : Int32) (v1 : Int32) (v2 : Int32) (h : AHeap) : Option (Int32 × AHeap) :=
  Mod_isIn_j15 v0 v1 v2 0 h
theorem Mod_isIn_j14_J {E : JE} {l : Launch} {G : GX} {v : Int32} {h' : AHeap} (ok : JOK E l G kMod_isIn 0 0 (some (.int v)) h') (v0 : Int32) (v1 : Int32) (v2 : Int32) (h : AHeap) : J E kMod_isIn (Mod_isIn_j14 v0 v1 v2 h) (fun z => z = (v, h')) 14 [some (.int v0), some (.int v1), some (.int v2)] [] h 0 0 := by
  unfold Mod_isIn_j14
  refine J_iconst (v := 0) (pc' := 15) ok (dOf dX11_isIn 8 rfl) rfl (by decide) ?_
  exact Mod_isIn_j15_J ok v0 v1 v2 0 h
def Mod_isIn (v0 : Int32) (v1 : Int32) (v2 : Int32) (h : AHeap) : Option (Int32 × AHeap) :=
  (if v0 < v1 then Mod_isIn_j14 v0 v1 v2 h else (if v2 < v0 then Mod_isIn_j14 v0 v1 v2 h else Mod_isIn_j15 v0 v1 v2 1 h))
theorem t_Mod_isIn {l : Launch} {G : GX} {v0 : Int32} {v1 : Int32} {v2 : Int32} {h : AHeap} {v : Int32} {h1 : AHeap} (hf : Mod_isIn v0 v1 v2 h = some (v, h1)) : CT l G kMod_isIn 0 0 [.int v0, .int v1, .int v2] h (some (.int v)) h1 := by
  refine CT_of (ls := [some (.int v0), some (.int v1), some (.int v2)]) (Z := fun z => z = (v, h1)) (by decide +kernel) (Nat.le_of_ble_eq_true rfl) hf rfl ⟨rfl, rfl, rfl, trivial⟩ (fun E ok => ?_)
  unfold Mod_isIn
  refine J_iload_n (pc' := 1) ok (dOf dX11_isIn 0 rfl) rfl rfl rfl ?_
  refine J_iload_n (pc' := 2) ok (dOf dX11_isIn 1 rfl) rfl rfl rfl ?_
  refine J_icmp_lt (tgt := 14) (pc' := 5) ok (dOf dX11_isIn 2 rfl) rfl (by decide) ?_ ?_
  · exact Mod_isIn_j14_J ok v0 v1 v2 h
  · refine J_iload_n (pc' := 6) ok (dOf dX11_isIn 3 rfl) rfl rfl rfl ?_
    refine J_iload_n (pc' := 7) ok (dOf dX11_isIn 4 rfl) rfl rfl rfl ?_
    refine J_icmp_gt (tgt := 14) (pc' := 10) ok (dOf dX11_isIn 5 rfl) rfl (by decide) ?_ ?_
    · exact Mod_isIn_j14_J ok v0 v1 v2 h
    · refine J_iconst (v := 1) (pc' := 11) ok (dOf dX11_isIn 6 rfl) rfl (by decide) ?_
      refine J_goto (tgt := 15) ok (dOf dX11_isIn 7 rfl) (by decide) ?_
      exact Mod_isIn_j15_J ok v0 v1 v2 1 h
-- X11_refuses
abbrev kMod_refuses : Cd := (yX11_refuses, cX11_refuses, 2, (some .int), 0, 0)
theorem dX11_refuses : dcheck cX11_refuses [(0, .aload_n 0, 1), (1, .iload_n 1, 1), (2, .putfield 72, 3), (5, .aload_n 0, 1), (6, .getfield 7, 3), (9, .iload_n 1, 1), (10, .ineg, 1), (11, .dup2, 1), (12, .iaload, 1), (13, .iconst 1, 1), (14, .iadd, 1), (15, .iastore, 1), (16, .iload_n 1, 1), (17, .ireturn, 1)] = true := by decide +kernel
theorem cw_Mod_refuses {k : Cd} (h1 : kMod_refuses.2.2.2.2.1 + 1 ≤ k.2.2.2.2.1) (h2 : 8 + (kMod_refuses.2.2.1 + 11) + kMod_refuses.2.2.2.2.2 ≤ k.2.2.2.2.2) : Cw k kMod_refuses 1 := ⟨wcode_X11_refuses, wini_SplitProgramModel, ⟨by decide, by decide, by decide +kernel⟩, h1, h2⟩
def Mod_refuses (v0 : Nat) (v1 : Int32) (h : AHeap) : Option (Int32 × AHeap) :=
  (pfV h v0 11 0 (.int v1)).bind fun h1 => (gfR h1 v0 11 1).bind fun a2 => (ald 0 h1 a2 (-v1)).bind fun x3 => (ast 0 h1 a2 (-v1) (x3 + 1)).bind fun h4 => some (v1, h4)
theorem t_Mod_refuses {l : Launch} {G : GX} {v0 : Nat} {v1 : Int32} {h : AHeap} {v : Int32} {h1 : AHeap} (hf : Mod_refuses v0 v1 h = some (v, h1)) : CT l G kMod_refuses 0 0 [.ref v0, .int v1] h (some (.int v)) h1 := by
  refine CT_of (ls := [some (.ref v0), some (.int v1)]) (Z := fun z => z = (v, h1)) (by decide +kernel) (Nat.le_of_ble_eq_true rfl) hf rfl ⟨rfl, rfl, trivial⟩ (fun E ok => ?_)
  unfold Mod_refuses
  refine J_aload_n (pc' := 1) ok (dOf dX11_refuses 0 rfl) rfl rfl rfl ?_
  refine J_iload_n (pc' := 2) ok (dOf dX11_refuses 1 rfl) rfl rfl rfl ?_
  refine J_putI (ci := 11) (kf := 0) (C := RX11) (T := TX11) (N := 29) (pc' := 5) ok tyX11 (dOf dX11_refuses 2 rfl) rfl rfl (by decide) win_11 tyX11_ok nmX11 rfl rfl wfl_X11_72 (fun h1 _ => ?_)
  refine J_aload_n (pc' := 6) ok (dOf dX11_refuses 3 rfl) rfl rfl rfl ?_
  refine J_getR (ci := 11) (kf := 1) (C := RX11) (T := TX11) (N := 29) (pc' := 9) ok (dOf dX11_refuses 4 rfl) rfl (by decide) rfl (by decide) win_11 wfl_X11_7 (fun a2 => ?_)
  refine J_iload_n (pc' := 10) ok (dOf dX11_refuses 5 rfl) rfl rfl rfl ?_
  refine J_ineg (pc' := 11) ok (dOf dX11_refuses 6 rfl) rfl ?_
  refine J_dup2 (pc' := 12) ok (dOf dX11_refuses 7 rfl) rfl rfl rfl ?_
  refine J_iald (pc' := 13) ok (dOf dX11_refuses 8 rfl) rfl (fun x3 => ?_)
  refine J_iconst (v := 1) (pc' := 14) ok (dOf dX11_refuses 9 rfl) rfl (by decide) ?_
  refine J_iadd (pc' := 15) ok (dOf dX11_refuses 10 rfl) rfl ?_
  refine J_iast (pc' := 16) ok (dOf dX11_refuses 11 rfl) rfl (fun h4 _ => ?_)
  refine J_iload_n (pc' := 17) ok (dOf dX11_refuses 12 rfl) rfl rfl rfl ?_
  exact J_ireturn ok (dOf dX11_refuses 13 rfl) rfl (Eq.refl 0) (Nat.le_refl 0)
-- X11_tells
abbrev kMod_tells : Cd := (yX11_tells, cX11_tells, 2, (some .int), 0, 0)
theorem dX11_tells : dcheck cX11_tells [(0, .aload_n 0, 1), (1, .iconst 0, 1), (2, .putfield 72, 3), (5, .iload_n 1, 1), (6, .ireturn, 1)] = true := by decide +kernel
theorem cw_Mod_tells {k : Cd} (h1 : kMod_tells.2.2.2.2.1 + 1 ≤ k.2.2.2.2.1) (h2 : 8 + (kMod_tells.2.2.1 + 11) + kMod_tells.2.2.2.2.2 ≤ k.2.2.2.2.2) : Cw k kMod_tells 1 := ⟨wcode_X11_tells, wini_SplitProgramModel, ⟨by decide, by decide, by decide +kernel⟩, h1, h2⟩
def Mod_tells (v0 : Nat) (v1 : Int32) (h : AHeap) : Option (Int32 × AHeap) :=
  (pfV h v0 11 0 (.int 0)).bind fun h1 => some (v1, h1)
theorem t_Mod_tells {l : Launch} {G : GX} {v0 : Nat} {v1 : Int32} {h : AHeap} {v : Int32} {h1 : AHeap} (hf : Mod_tells v0 v1 h = some (v, h1)) : CT l G kMod_tells 0 0 [.ref v0, .int v1] h (some (.int v)) h1 := by
  refine CT_of (ls := [some (.ref v0), some (.int v1)]) (Z := fun z => z = (v, h1)) (by decide +kernel) (Nat.le_of_ble_eq_true rfl) hf rfl ⟨rfl, rfl, trivial⟩ (fun E ok => ?_)
  unfold Mod_tells
  refine J_aload_n (pc' := 1) ok (dOf dX11_tells 0 rfl) rfl rfl rfl ?_
  refine J_iconst (v := 0) (pc' := 2) ok (dOf dX11_tells 1 rfl) rfl (by decide) ?_
  refine J_putI (ci := 11) (kf := 0) (C := RX11) (T := TX11) (N := 29) (pc' := 5) ok tyX11 (dOf dX11_tells 2 rfl) rfl rfl (by decide) win_11 tyX11_ok nmX11 rfl rfl wfl_X11_72 (fun h1 _ => ?_)
  refine J_iload_n (pc' := 6) ok (dOf dX11_tells 3 rfl) rfl rfl rfl ?_
  exact J_ireturn ok (dOf dX11_tells 4 rfl) rfl (Eq.refl 0) (Nat.le_refl 0)
-- X11_terms
abbrev kMod_terms : Cd := (yX11_terms, cX11_terms, 4, (some .int), 1, 22)
theorem dX11_terms : dcheck cX11_terms [(0, .iload_n 1, 1), (1, .iconst 0, 1), (2, .iconst 3, 1), (3, .invokestatic 75, 3), (6, .ifCond .eq 22, 3), (9, .iload_n 2, 1), (10, .aload_n 0, 1), (11, .getfield 16, 3), (14, .iload_n 1, 1), (15, .iaload, 1), (16, .aload_n 0, 1), (17, .getfield 19, 3), (20, .iload_n 1, 1), (21, .iaload, 1), (22, .invokestatic 75, 3), (25, .ifCond .ne 9, 3), (28, .aload_n 0, 1), (29, .iconst (-1), 1), (30, .invokevirtual 85, 3), (33, .ireturn, 1), (34, .aload_n 0, 1), (35, .getfield 13, 3), (38, .iload_n 1, 1), (39, .iaload, 1), (40, .istore_n 3, 1), (41, .aload_n 0, 1), (42, .getfield 13, 3), (45, .iload_n 1, 1), (46, .iload_n 2, 1), (47, .iastore, 1), (48, .aload_n 0, 1), (49, .iload_n 3, 1), (50, .invokevirtual 89, 3), (53, .ireturn, 1)] = true := by decide +kernel
theorem cw_Mod_terms {k : Cd} (h1 : kMod_terms.2.2.2.2.1 + 1 ≤ k.2.2.2.2.1) (h2 : 8 + (kMod_terms.2.2.1 + 11) + kMod_terms.2.2.2.2.2 ≤ k.2.2.2.2.2) : Cw k kMod_terms 2 := ⟨wcode_X11_terms, wini_SplitProgramModel, ⟨by decide, by decide, by decide +kernel⟩, h1, h2⟩
def Mod_terms_j28 (v0 : Nat) (v1 : Int32) (v2 : Int32) (h : AHeap) : Option (Int32 × AHeap) :=
  (chk h v0 11).bind fun _ => bnd2 (Mod_refuses v0 (-1) h) fun x4 h3 => some (x4, h3)
theorem Mod_terms_j28_J {E : JE} {l : Launch} {G : GX} {v : Int32} {h' : AHeap} (ok : JOK E l G kMod_terms 0 0 (some (.int v)) h') (v0 : Nat) (v1 : Int32) (v2 : Int32) (h : AHeap) : J E kMod_terms (Mod_terms_j28 v0 v1 v2 h) (fun z => z = (v, h')) 28 [some (.ref v0), some (.int v1), some (.int v2), none] [] h 0 0 := by
  unfold Mod_terms_j28
  refine J_aload_n (pc' := 29) ok (dOf dX11_terms 16 rfl) rfl rfl rfl ?_
  refine J_iconst (v := (-1)) (pc' := 30) ok (dOf dX11_terms 17 rfl) rfl (by decide) ?_
  refine J_callVi (k2 := kMod_refuses) (ci := 11) (T := TX11) (N := 29) (as := [.int (-1)]) (pc' := 33) ok (dOf dX11_terms 18 rfl) rfl (cw_Mod_refuses (by decide) (by decide)) wml_X11_85 winst_X11_refuses wsel_X11_refuses rfl ⟨Nat.le_refl 0, Nat.le_refl 0⟩ (Nat.le_of_ble_eq_true rfl) rfl (fun _ _ hf => t_Mod_refuses hf) (fun x4 h3 => ?_)
  exact J_ireturn ok (dOf dX11_terms 19 rfl) rfl (Eq.refl 0) (Nat.le_refl 0)
def Mod_terms (v0 : Nat) (v1 : Int32) (v2 : Int32) (h : AHeap) : Option (Int32 × AHeap) :=
  bnd2 (Mod_isIn v1 0 3 h) fun x2 h1 => (if x2 = 0 then Mod_terms_j28 v0 v1 v2 h1 else (gfR h1 v0 11 3).bind fun a5 => (ald 0 h1 a5 v1).bind fun x6 => (gfR h1 v0 11 4).bind fun a7 => (ald 0 h1 a7 v1).bind fun x8 => bnd2 (Mod_isIn v2 x6 x8 h1) fun x10 h9 => (if ¬ x10 = 0 then (gfR h9 v0 11 2).bind fun a11 => (ald 0 h9 a11 v1).bind fun x12 => (gfR h9 v0 11 2).bind fun a13 => (ast 0 h9 a13 v1 v2).bind fun h14 => (chk h14 v0 11).bind fun _ => bnd2 (Mod_tells v0 x12 h14) fun x16 h15 => some (x16, h15) else Mod_terms_j28 v0 v1 v2 h9))
theorem t_Mod_terms {l : Launch} {G : GX} {v0 : Nat} {v1 : Int32} {v2 : Int32} {h : AHeap} {v : Int32} {h1 : AHeap} (hf : Mod_terms v0 v1 v2 h = some (v, h1)) : CT l G kMod_terms 0 0 [.ref v0, .int v1, .int v2] h (some (.int v)) h1 := by
  refine CT_of (ls := [some (.ref v0), some (.int v1), some (.int v2), none]) (Z := fun z => z = (v, h1)) (by decide +kernel) (Nat.le_of_ble_eq_true rfl) hf rfl ⟨rfl, rfl, rfl, trivial⟩ (fun E ok => ?_)
  unfold Mod_terms
  refine J_iload_n (pc' := 1) ok (dOf dX11_terms 0 rfl) rfl rfl rfl ?_
  refine J_iconst (v := 0) (pc' := 2) ok (dOf dX11_terms 1 rfl) rfl (by decide) ?_
  refine J_iconst (v := 3) (pc' := 3) ok (dOf dX11_terms 2 rfl) rfl (by decide) ?_
  refine J_callSi (k2 := kMod_isIn) (as := [.int v1, .int 0, .int 3]) (pc' := 6) ok (dOf dX11_terms 3 rfl) rfl (cw_Mod_isIn (by decide) (by decide)) wml_X11_75 wstat_X11_isIn ⟨Nat.le_refl 0, Nat.le_refl 0⟩ (Nat.le_of_ble_eq_true rfl) rfl (fun _ _ hf => t_Mod_isIn hf) (fun x2 h1 => ?_)
  refine J_if_eq (tgt := 28) (pc' := 9) ok (dOf dX11_terms 4 rfl) rfl (by decide) ?_ ?_
  · exact Mod_terms_j28_J ok v0 v1 v2 h1
  · refine J_iload_n (pc' := 10) ok (dOf dX11_terms 5 rfl) rfl rfl rfl ?_
    refine J_aload_n (pc' := 11) ok (dOf dX11_terms 6 rfl) rfl rfl rfl ?_
    refine J_getR (ci := 11) (kf := 3) (C := RX11) (T := TX11) (N := 29) (pc' := 14) ok (dOf dX11_terms 7 rfl) rfl (by decide) rfl (by decide) win_11 wfl_X11_16 (fun a5 => ?_)
    refine J_iload_n (pc' := 15) ok (dOf dX11_terms 8 rfl) rfl rfl rfl ?_
    refine J_iald (pc' := 16) ok (dOf dX11_terms 9 rfl) rfl (fun x6 => ?_)
    refine J_aload_n (pc' := 17) ok (dOf dX11_terms 10 rfl) rfl rfl rfl ?_
    refine J_getR (ci := 11) (kf := 4) (C := RX11) (T := TX11) (N := 29) (pc' := 20) ok (dOf dX11_terms 11 rfl) rfl (by decide) rfl (by decide) win_11 wfl_X11_19 (fun a7 => ?_)
    refine J_iload_n (pc' := 21) ok (dOf dX11_terms 12 rfl) rfl rfl rfl ?_
    refine J_iald (pc' := 22) ok (dOf dX11_terms 13 rfl) rfl (fun x8 => ?_)
    refine J_callSi (k2 := kMod_isIn) (as := [.int v2, .int x6, .int x8]) (pc' := 25) ok (dOf dX11_terms 14 rfl) rfl (cw_Mod_isIn (by decide) (by decide)) wml_X11_75 wstat_X11_isIn ⟨Nat.le_refl 0, Nat.le_refl 0⟩ (Nat.le_of_ble_eq_true rfl) rfl (fun _ _ hf => t_Mod_isIn hf) (fun x10 h9 => ?_)
    refine J_if_ne (tgt := 34) (pc' := 28) ok (dOf dX11_terms 15 rfl) rfl (by decide) ?_ ?_
    · refine J_aload_n (pc' := 35) ok (dOf dX11_terms 20 rfl) rfl rfl rfl ?_
      refine J_getR (ci := 11) (kf := 2) (C := RX11) (T := TX11) (N := 29) (pc' := 38) ok (dOf dX11_terms 21 rfl) rfl (by decide) rfl (by decide) win_11 wfl_X11_13 (fun a11 => ?_)
      refine J_iload_n (pc' := 39) ok (dOf dX11_terms 22 rfl) rfl rfl rfl ?_
      refine J_iald (pc' := 40) ok (dOf dX11_terms 23 rfl) rfl (fun x12 => ?_)
      refine J_istore_n (ls' := [some (.ref v0), some (.int v1), some (.int v2), some (.int x12)]) (pc' := 41) ok (dOf dX11_terms 24 rfl) rfl rfl (Nat.le_of_ble_eq_true rfl) rfl rfl ?_
      refine J_aload_n (pc' := 42) ok (dOf dX11_terms 25 rfl) rfl rfl rfl ?_
      refine J_getR (ci := 11) (kf := 2) (C := RX11) (T := TX11) (N := 29) (pc' := 45) ok (dOf dX11_terms 26 rfl) rfl (by decide) rfl (by decide) win_11 wfl_X11_13 (fun a13 => ?_)
      refine J_iload_n (pc' := 46) ok (dOf dX11_terms 27 rfl) rfl rfl rfl ?_
      refine J_iload_n (pc' := 47) ok (dOf dX11_terms 28 rfl) rfl rfl rfl ?_
      refine J_iast (pc' := 48) ok (dOf dX11_terms 29 rfl) rfl (fun h14 _ => ?_)
      refine J_aload_n (pc' := 49) ok (dOf dX11_terms 30 rfl) rfl rfl rfl ?_
      refine J_iload_n (pc' := 50) ok (dOf dX11_terms 31 rfl) rfl rfl rfl ?_
      refine J_callVi (k2 := kMod_tells) (ci := 11) (T := TX11) (N := 29) (as := [.int x12]) (pc' := 53) ok (dOf dX11_terms 32 rfl) rfl (cw_Mod_tells (by decide) (by decide)) wml_X11_89 winst_X11_tells wsel_X11_tells rfl ⟨Nat.le_refl 0, Nat.le_refl 0⟩ (Nat.le_of_ble_eq_true rfl) rfl (fun _ _ hf => t_Mod_tells hf) (fun x16 h15 => ?_)
      exact J_ireturn ok (dOf dX11_terms 33 rfl) rfl (Eq.refl 0) (Nat.le_refl 0)
    · exact Mod_terms_j28_J ok v0 v1 v2 h9
-- X11_types
abbrev kMod_types : Cd := (yX11_types, cX11_types, 3, none, 0, 0)
theorem dX11_types : dcheck cX11_types [(0, .bipush 24, 2), (2, .istore_n 2, 1), (3, .iload_n 2, 1), (4, .ifCond .lt 35, 3), (7, .aload_n 0, 1), (8, .getfield 31, 3), (11, .aload_n 0, 1), (12, .getfield 92, 3), (15, .iload_n 1, 1), (16, .iload_n 2, 1), (17, .ishr, 1), (18, .sipush 255, 3), (21, .iand, 1), (22, .iastore, 1), (23, .aload_n 0, 1), (24, .dup, 1), (25, .getfield 92, 3), (28, .iconst 1, 1), (29, .iadd, 1), (30, .putfield 92, 3), (33, .iinc 2 (-8), 3), (36, .goto (-33), 3), (39, .return_, 1)] = true := by decide +kernel
theorem cw_Mod_types {k : Cd} (h1 : kMod_types.2.2.2.2.1 + 1 ≤ k.2.2.2.2.1) (h2 : 8 + (kMod_types.2.2.1 + 11) + kMod_types.2.2.2.2.2 ≤ k.2.2.2.2.2) : Cw k kMod_types 1 := ⟨wcode_X11_types, wini_SplitProgramModel, ⟨by decide, by decide, by decide +kernel⟩, h1, h2⟩
def Mod_types_b3 (v0 : Nat) (v1 : Int32) (s : Int32 × AHeap) : Option ((Int32 × AHeap) ⊕ ((Int32 × AHeap))) :=
  (if s.1 < 0 then some (Sum.inr (s.1, s.2)) else (gfR s.2 v0 11 8).bind fun a1 => (gfI s.2 v0 11 9).bind fun x2 => (ast 0 s.2 a1 x2 ((v1 >>> (s.1 &&& 31)) &&& 255)).bind fun h3 => (gfI h3 v0 11 9).bind fun x4 => (pfV h3 v0 11 9 (.int (x4 + 1))).bind fun h5 => some (Sum.inl (s.1 + (-8), h5)))
theorem Mod_types_b3_J {E : JE} {l : Launch} {G : GX} {r : Option Value} {h' : AHeap} (ok : JOK E l G kMod_types 0 0 r h') (v0 : Nat) (v1 : Int32) {Y : (Int32 × AHeap) ⊕ ((Int32 × AHeap)) → Prop} (k1 : ∀ s' : Int32 × AHeap, Y (.inl s') → JW E kMod_types 3 [some (.ref v0), some (.int v1), some (.int s'.1)] [] s'.2 0 0) (kx39 : ∀ q : Int32 × AHeap, Y (.inr q) → JW E kMod_types 39 [some (.ref v0), some (.int v1), some (.int q.1)] [] q.2 0 0) (s : Int32 × AHeap) : J E kMod_types (Mod_types_b3 v0 v1 s) Y 3 [some (.ref v0), some (.int v1), some (.int s.1)] [] s.2 0 0 := by
  unfold Mod_types_b3
  refine J_iload_n (pc' := 4) ok (dOf dX11_types 2 rfl) rfl rfl rfl ?_
  refine J_if_lt (tgt := 39) (pc' := 7) ok (dOf dX11_types 3 rfl) rfl (by decide) ?_ ?_
  · exact J_fin (kx39 (s.1, s.2))
  · refine J_aload_n (pc' := 8) ok (dOf dX11_types 4 rfl) rfl rfl rfl ?_
    refine J_getR (ci := 11) (kf := 8) (C := RX11) (T := TX11) (N := 29) (pc' := 11) ok (dOf dX11_types 5 rfl) rfl (by decide) rfl (by decide) win_11 wfl_X11_31 (fun a1 => ?_)
    refine J_aload_n (pc' := 12) ok (dOf dX11_types 6 rfl) rfl rfl rfl ?_
    refine J_getI (ci := 11) (kf := 9) (C := RX11) (T := TX11) (N := 29) (pc' := 15) ok (dOf dX11_types 7 rfl) rfl (by decide) rfl (by decide) win_11 wfl_X11_92 (fun x2 => ?_)
    refine J_iload_n (pc' := 16) ok (dOf dX11_types 8 rfl) rfl rfl rfl ?_
    refine J_iload_n (pc' := 17) ok (dOf dX11_types 9 rfl) rfl rfl rfl ?_
    refine J_ishr (pc' := 18) ok (dOf dX11_types 10 rfl) rfl ?_
    refine J_sipush (v := 255) (pc' := 21) ok (dOf dX11_types 11 rfl) rfl (by decide) ?_
    refine J_iand (pc' := 22) ok (dOf dX11_types 12 rfl) rfl ?_
    refine J_iast (pc' := 23) ok (dOf dX11_types 13 rfl) rfl (fun h3 _ => ?_)
    refine J_aload_n (pc' := 24) ok (dOf dX11_types 14 rfl) rfl rfl rfl ?_
    refine J_dup (pc' := 25) ok (dOf dX11_types 15 rfl) rfl rfl ?_
    refine J_getI (ci := 11) (kf := 9) (C := RX11) (T := TX11) (N := 29) (pc' := 28) ok (dOf dX11_types 16 rfl) rfl (by decide) rfl (by decide) win_11 wfl_X11_92 (fun x4 => ?_)
    refine J_iconst (v := 1) (pc' := 29) ok (dOf dX11_types 17 rfl) rfl (by decide) ?_
    refine J_iadd (pc' := 30) ok (dOf dX11_types 18 rfl) rfl ?_
    refine J_putI (ci := 11) (kf := 9) (C := RX11) (T := TX11) (N := 29) (pc' := 33) ok tyX11 (dOf dX11_types 19 rfl) rfl rfl (by decide) win_11 tyX11_ok nmX11 rfl rfl wfl_X11_92 (fun h5 _ => ?_)
    refine J_iinc (v := s.1 + (-8)) (ls' := [some (.ref v0), some (.int v1), some (.int (s.1 + (-8)))]) (pc' := 36) ok (dOf dX11_types 20 rfl) rfl rfl (by rfl) (Nat.le_of_ble_eq_true rfl) rfl rfl ?_
    refine J_goto (tgt := 3) ok (dOf dX11_types 21 rfl) (by decide) ?_
    exact J_fin (k1 (s.1 + (-8), h5))
def Mod_types_j39 (v0 : Nat) (v1 : Int32) (v2 : Int32) (h : AHeap) : Option (Unit × AHeap) :=
  some ((), h)
theorem Mod_types_j39_J {E : JE} {l : Launch} {G : GX} {h' : AHeap} (ok : JOK E l G kMod_types 0 0 none h') (v0 : Nat) (v1 : Int32) (v2 : Int32) (h : AHeap) : J E kMod_types (Mod_types_j39 v0 v1 v2 h) (fun z => z = ((), h')) 39 [some (.ref v0), some (.int v1), some (.int v2)] [] h 0 0 := by
  unfold Mod_types_j39
  exact J_vreturn ok (dOf dX11_types 22 rfl) rfl (Eq.refl 0) (Nat.le_refl 0)
def Mod_types (v0 : Nat) (v1 : Int32) (h : AHeap) : Option (Unit × AHeap) :=
  (iter (Mod_types_b3 v0 v1) Lmax (24, h)).bind (fun (q3 : Int32 × AHeap) => Mod_types_j39 v0 v1 q3.1 q3.2)
theorem t_Mod_types {l : Launch} {G : GX} {v0 : Nat} {v1 : Int32} {h : AHeap} {h1 : AHeap} (hf : Mod_types v0 v1 h = some ((), h1)) : CT l G kMod_types 0 0 [.ref v0, .int v1] h none h1 := by
  refine CT_of (ls := [some (.ref v0), some (.int v1), none]) (Z := fun z => z = ((), h1)) (by decide +kernel) (Nat.le_of_ble_eq_true rfl) hf rfl ⟨rfl, rfl, trivial⟩ (fun E ok => ?_)
  unfold Mod_types
  refine J_bipush (v := 24) (pc' := 2) ok (dOf dX11_types 0 rfl) rfl (by decide) ?_
  refine J_istore_n (ls' := [some (.ref v0), some (.int v1), some (.int 24)]) (pc' := 3) ok (dOf dX11_types 1 rfl) rfl rfl (Nat.le_of_ble_eq_true rfl) rfl rfl ?_
  refine J_iter (lf := fun z3 => [some (.ref v0), some (.int v1), some (.int z3.1)]) (sf := fun _ => []) (hf := fun z3 => z3.2) (px := (fun (q3 : Int32 × AHeap) => 39)) (lx := (fun (q3 : Int32 × AHeap) => [some (.ref v0), some (.int v1), some (.int q3.1)])) (sx := (fun (q3 : Int32 × AHeap) => [])) (hx := (fun (q3 : Int32 × AHeap) => q3.2)) (fun Y2 z3 m1 m2 => Mod_types_b3_J ok v0 v1 m1 m2 z3) (fun q3 => ?_) Lmax _
  exact Mod_types_j39_J ok v0 v1 q3.1 q3.2
-- X11_feed
abbrev kMod_feed : Cd := (yX11_feed, cX11_feed, 6, (some .int), 1, 22)
theorem dX11_feed : dcheck cX11_feed [(0, .aload_n 0, 1), (1, .getfield 92, 3), (4, .sipush 380, 3), (7, .if_icmp .le 5, 3), (10, .iconst (-1), 1), (11, .ireturn, 1), (12, .aload_n 0, 1), (13, .iload_n 1, 1), (14, .invokevirtual 95, 3), (17, .aload_n 0, 1), (18, .iload_n 2, 1), (19, .invokevirtual 95, 3), (22, .aload_n 0, 1), (23, .iload_n 3, 1), (24, .invokevirtual 95, 3), (27, .aload_n 0, 1), (28, .iload 4, 2), (30, .invokevirtual 95, 3), (33, .aload_n 0, 1), (34, .iload 5, 2), (36, .invokevirtual 95, 3), (39, .aload_n 0, 1), (40, .getfield 92, 3), (43, .ireturn, 1)] = true := by decide +kernel
theorem cw_Mod_feed {k : Cd} (h1 : kMod_feed.2.2.2.2.1 + 1 ≤ k.2.2.2.2.1) (h2 : 8 + (kMod_feed.2.2.1 + 11) + kMod_feed.2.2.2.2.2 ≤ k.2.2.2.2.2) : Cw k kMod_feed 5 := ⟨wcode_X11_feed, wini_SplitProgramModel, ⟨by decide, by decide, by decide +kernel⟩, h1, h2⟩
def Mod_feed (v0 : Nat) (v1 : Int32) (v2 : Int32) (v3 : Int32) (v4 : Int32) (v5 : Int32) (h : AHeap) : Option (Int32 × AHeap) :=
  (gfI h v0 11 9).bind fun x1 => (if x1 ≤ 380 then (chk h v0 11).bind fun _ => bnd2 (Mod_types v0 v1 h) fun _ h2 => (chk h2 v0 11).bind fun _ => bnd2 (Mod_types v0 v2 h2) fun _ h3 => (chk h3 v0 11).bind fun _ => bnd2 (Mod_types v0 v3 h3) fun _ h4 => (chk h4 v0 11).bind fun _ => bnd2 (Mod_types v0 v4 h4) fun _ h5 => (chk h5 v0 11).bind fun _ => bnd2 (Mod_types v0 v5 h5) fun _ h6 => (gfI h6 v0 11 9).bind fun x7 => some (x7, h6) else some ((-1), h))
theorem t_Mod_feed {l : Launch} {G : GX} {v0 : Nat} {v1 : Int32} {v2 : Int32} {v3 : Int32} {v4 : Int32} {v5 : Int32} {h : AHeap} {v : Int32} {h1 : AHeap} (hf : Mod_feed v0 v1 v2 v3 v4 v5 h = some (v, h1)) : CT l G kMod_feed 0 0 [.ref v0, .int v1, .int v2, .int v3, .int v4, .int v5] h (some (.int v)) h1 := by
  refine CT_of (ls := [some (.ref v0), some (.int v1), some (.int v2), some (.int v3), some (.int v4), some (.int v5)]) (Z := fun z => z = (v, h1)) (by decide +kernel) (Nat.le_of_ble_eq_true rfl) hf rfl ⟨rfl, rfl, rfl, rfl, rfl, rfl, trivial⟩ (fun E ok => ?_)
  unfold Mod_feed
  refine J_aload_n (pc' := 1) ok (dOf dX11_feed 0 rfl) rfl rfl rfl ?_
  refine J_getI (ci := 11) (kf := 9) (C := RX11) (T := TX11) (N := 29) (pc' := 4) ok (dOf dX11_feed 1 rfl) rfl (by decide) rfl (by decide) win_11 wfl_X11_92 (fun x1 => ?_)
  refine J_sipush (v := 380) (pc' := 7) ok (dOf dX11_feed 2 rfl) rfl (by decide) ?_
  refine J_icmp_le (tgt := 12) (pc' := 10) ok (dOf dX11_feed 3 rfl) rfl (by decide) ?_ ?_
  · refine J_aload_n (pc' := 13) ok (dOf dX11_feed 6 rfl) rfl rfl rfl ?_
    refine J_iload_n (pc' := 14) ok (dOf dX11_feed 7 rfl) rfl rfl rfl ?_
    refine J_callVv (k2 := kMod_types) (ci := 11) (T := TX11) (N := 29) (as := [.int v1]) (pc' := 17) ok (dOf dX11_feed 8 rfl) rfl (cw_Mod_types (by decide) (by decide)) wml_X11_95 winst_X11_types wsel_X11_types rfl ⟨Nat.le_refl 0, Nat.le_refl 0⟩ (Nat.le_of_ble_eq_true rfl) rfl (fun _ _ hf => t_Mod_types hf) (fun _ h2 => ?_)
    refine J_aload_n (pc' := 18) ok (dOf dX11_feed 9 rfl) rfl rfl rfl ?_
    refine J_iload_n (pc' := 19) ok (dOf dX11_feed 10 rfl) rfl rfl rfl ?_
    refine J_callVv (k2 := kMod_types) (ci := 11) (T := TX11) (N := 29) (as := [.int v2]) (pc' := 22) ok (dOf dX11_feed 11 rfl) rfl (cw_Mod_types (by decide) (by decide)) wml_X11_95 winst_X11_types wsel_X11_types rfl ⟨Nat.le_refl 0, Nat.le_refl 0⟩ (Nat.le_of_ble_eq_true rfl) rfl (fun _ _ hf => t_Mod_types hf) (fun _ h3 => ?_)
    refine J_aload_n (pc' := 23) ok (dOf dX11_feed 12 rfl) rfl rfl rfl ?_
    refine J_iload_n (pc' := 24) ok (dOf dX11_feed 13 rfl) rfl rfl rfl ?_
    refine J_callVv (k2 := kMod_types) (ci := 11) (T := TX11) (N := 29) (as := [.int v3]) (pc' := 27) ok (dOf dX11_feed 14 rfl) rfl (cw_Mod_types (by decide) (by decide)) wml_X11_95 winst_X11_types wsel_X11_types rfl ⟨Nat.le_refl 0, Nat.le_refl 0⟩ (Nat.le_of_ble_eq_true rfl) rfl (fun _ _ hf => t_Mod_types hf) (fun _ h4 => ?_)
    refine J_aload_n (pc' := 28) ok (dOf dX11_feed 15 rfl) rfl rfl rfl ?_
    refine J_iload (pc' := 30) ok (dOf dX11_feed 16 rfl) rfl rfl ?_
    refine J_callVv (k2 := kMod_types) (ci := 11) (T := TX11) (N := 29) (as := [.int v4]) (pc' := 33) ok (dOf dX11_feed 17 rfl) rfl (cw_Mod_types (by decide) (by decide)) wml_X11_95 winst_X11_types wsel_X11_types rfl ⟨Nat.le_refl 0, Nat.le_refl 0⟩ (Nat.le_of_ble_eq_true rfl) rfl (fun _ _ hf => t_Mod_types hf) (fun _ h5 => ?_)
    refine J_aload_n (pc' := 34) ok (dOf dX11_feed 18 rfl) rfl rfl rfl ?_
    refine J_iload (pc' := 36) ok (dOf dX11_feed 19 rfl) rfl rfl ?_
    refine J_callVv (k2 := kMod_types) (ci := 11) (T := TX11) (N := 29) (as := [.int v5]) (pc' := 39) ok (dOf dX11_feed 20 rfl) rfl (cw_Mod_types (by decide) (by decide)) wml_X11_95 winst_X11_types wsel_X11_types rfl ⟨Nat.le_refl 0, Nat.le_refl 0⟩ (Nat.le_of_ble_eq_true rfl) rfl (fun _ _ hf => t_Mod_types hf) (fun _ h6 => ?_)
    refine J_aload_n (pc' := 40) ok (dOf dX11_feed 21 rfl) rfl rfl rfl ?_
    refine J_getI (ci := 11) (kf := 9) (C := RX11) (T := TX11) (N := 29) (pc' := 43) ok (dOf dX11_feed 22 rfl) rfl (by decide) rfl (by decide) win_11 wfl_X11_92 (fun x7 => ?_)
    exact J_ireturn ok (dOf dX11_feed 23 rfl) rfl (Eq.refl 0) (Nat.le_refl 0)
  · refine J_iconst (v := (-1)) (pc' := 11) ok (dOf dX11_feed 4 rfl) rfl (by decide) ?_
    exact J_ireturn ok (dOf dX11_feed 5 rfl) rfl (Eq.refl 0) (Nat.le_refl 0)
-- X11_end
abbrev kMod_end : Cd := (yX11_end, cX11_end, 2, (some .int), 1, 22)
theorem dX11_end : dcheck cX11_end [(0, .iload_n 1, 1), (1, .iconst 0, 1), (2, .aload_n 0, 1), (3, .getfield 92, 3), (6, .invokestatic 75, 3), (9, .ifCond .ne 5, 3), (12, .iconst (-1), 1), (13, .ireturn, 1), (14, .aload_n 0, 1), (15, .iload_n 1, 1), (16, .putfield 92, 3), (19, .iload_n 1, 1), (20, .ireturn, 1)] = true := by decide +kernel
theorem cw_Mod_end {k : Cd} (h1 : kMod_end.2.2.2.2.1 + 1 ≤ k.2.2.2.2.1) (h2 : 8 + (kMod_end.2.2.1 + 11) + kMod_end.2.2.2.2.2 ≤ k.2.2.2.2.2) : Cw k kMod_end 1 := ⟨wcode_X11_end, wini_SplitProgramModel, ⟨by decide, by decide, by decide +kernel⟩, h1, h2⟩
def Mod_end (v0 : Nat) (v1 : Int32) (h : AHeap) : Option (Int32 × AHeap) :=
  (gfI h v0 11 9).bind fun x1 => bnd2 (Mod_isIn v1 0 x1 h) fun x3 h2 => (if ¬ x3 = 0 then (pfV h2 v0 11 9 (.int v1)).bind fun h4 => some (v1, h4) else some ((-1), h2))
theorem t_Mod_end {l : Launch} {G : GX} {v0 : Nat} {v1 : Int32} {h : AHeap} {v : Int32} {h1 : AHeap} (hf : Mod_end v0 v1 h = some (v, h1)) : CT l G kMod_end 0 0 [.ref v0, .int v1] h (some (.int v)) h1 := by
  refine CT_of (ls := [some (.ref v0), some (.int v1)]) (Z := fun z => z = (v, h1)) (by decide +kernel) (Nat.le_of_ble_eq_true rfl) hf rfl ⟨rfl, rfl, trivial⟩ (fun E ok => ?_)
  unfold Mod_end
  refine J_iload_n (pc' := 1) ok (dOf dX11_end 0 rfl) rfl rfl rfl ?_
  refine J_iconst (v := 0) (pc' := 2) ok (dOf dX11_end 1 rfl) rfl (by decide) ?_
  refine J_aload_n (pc' := 3) ok (dOf dX11_end 2 rfl) rfl rfl rfl ?_
  refine J_getI (ci := 11) (kf := 9) (C := RX11) (T := TX11) (N := 29) (pc' := 6) ok (dOf dX11_end 3 rfl) rfl (by decide) rfl (by decide) win_11 wfl_X11_92 (fun x1 => ?_)
  refine J_callSi (k2 := kMod_isIn) (as := [.int v1, .int 0, .int x1]) (pc' := 9) ok (dOf dX11_end 4 rfl) rfl (cw_Mod_isIn (by decide) (by decide)) wml_X11_75 wstat_X11_isIn ⟨Nat.le_refl 0, Nat.le_refl 0⟩ (Nat.le_of_ble_eq_true rfl) rfl (fun _ _ hf => t_Mod_isIn hf) (fun x3 h2 => ?_)
  refine J_if_ne (tgt := 14) (pc' := 12) ok (dOf dX11_end 5 rfl) rfl (by decide) ?_ ?_
  · refine J_aload_n (pc' := 15) ok (dOf dX11_end 8 rfl) rfl rfl rfl ?_
    refine J_iload_n (pc' := 16) ok (dOf dX11_end 9 rfl) rfl rfl rfl ?_
    refine J_putI (ci := 11) (kf := 9) (C := RX11) (T := TX11) (N := 29) (pc' := 19) ok tyX11 (dOf dX11_end 10 rfl) rfl rfl (by decide) win_11 tyX11_ok nmX11 rfl rfl wfl_X11_92 (fun h4 _ => ?_)
    refine J_iload_n (pc' := 20) ok (dOf dX11_end 11 rfl) rfl rfl rfl ?_
    exact J_ireturn ok (dOf dX11_end 12 rfl) rfl (Eq.refl 0) (Nat.le_refl 0)
  · refine J_iconst (v := (-1)) (pc' := 13) ok (dOf dX11_end 6 rfl) rfl (by decide) ?_
    exact J_ireturn ok (dOf dX11_end 7 rfl) rfl (Eq.refl 0) (Nat.le_refl 0)
-- X11_keepsAhead
abbrev kMod_keepsAhead : Cd := (yX11_keepsAhead, cX11_keepsAhead, 2, none, 0, 0)
theorem dX11_keepsAhead : dcheck cX11_keepsAhead [(0, .iconst 0, 1), (1, .istore_n 1, 1), (2, .iload_n 1, 1), (3, .sipush 1427, 3), (6, .if_icmp .ge 21, 3), (9, .aload_n 0, 1), (10, .getfield 25, 3), (13, .iload_n 1, 1), (14, .aload_n 0, 1), (15, .getfield 22, 3), (18, .iload_n 1, 1), (19, .iaload, 1), (20, .iastore, 1), (21, .iinc 1 1, 3), (24, .goto (-22), 3), (27, .return_, 1)] = true := by decide +kernel
theorem cw_Mod_keepsAhead {k : Cd} (h1 : kMod_keepsAhead.2.2.2.2.1 + 1 ≤ k.2.2.2.2.1) (h2 : 8 + (kMod_keepsAhead.2.2.1 + 11) + kMod_keepsAhead.2.2.2.2.2 ≤ k.2.2.2.2.2) : Cw k kMod_keepsAhead 0 := ⟨wcode_X11_keepsAhead, wini_SplitProgramModel, ⟨by decide, by decide, by decide +kernel⟩, h1, h2⟩
def Mod_keepsAhead_b2 (v0 : Nat) (s : Int32 × AHeap) : Option ((Int32 × AHeap) ⊕ ((Int32 × AHeap))) :=
  (if 1427 ≤ s.1 then some (Sum.inr (s.1, s.2)) else (gfR s.2 v0 11 6).bind fun a1 => (gfR s.2 v0 11 5).bind fun a2 => (ald 0 s.2 a2 s.1).bind fun x3 => (ast 0 s.2 a1 s.1 x3).bind fun h4 => some (Sum.inl (s.1 + 1, h4)))
theorem Mod_keepsAhead_b2_J {E : JE} {l : Launch} {G : GX} {r : Option Value} {h' : AHeap} (ok : JOK E l G kMod_keepsAhead 0 0 r h') (v0 : Nat) {Y : (Int32 × AHeap) ⊕ ((Int32 × AHeap)) → Prop} (k1 : ∀ s' : Int32 × AHeap, Y (.inl s') → JW E kMod_keepsAhead 2 [some (.ref v0), some (.int s'.1)] [] s'.2 0 0) (kx27 : ∀ q : Int32 × AHeap, Y (.inr q) → JW E kMod_keepsAhead 27 [some (.ref v0), some (.int q.1)] [] q.2 0 0) (s : Int32 × AHeap) : J E kMod_keepsAhead (Mod_keepsAhead_b2 v0 s) Y 2 [some (.ref v0), some (.int s.1)] [] s.2 0 0 := by
  unfold Mod_keepsAhead_b2
  refine J_iload_n (pc' := 3) ok (dOf dX11_keepsAhead 2 rfl) rfl rfl rfl ?_
  refine J_sipush (v := 1427) (pc' := 6) ok (dOf dX11_keepsAhead 3 rfl) rfl (by decide) ?_
  refine J_icmp_ge (tgt := 27) (pc' := 9) ok (dOf dX11_keepsAhead 4 rfl) rfl (by decide) ?_ ?_
  · exact J_fin (kx27 (s.1, s.2))
  · refine J_aload_n (pc' := 10) ok (dOf dX11_keepsAhead 5 rfl) rfl rfl rfl ?_
    refine J_getR (ci := 11) (kf := 6) (C := RX11) (T := TX11) (N := 29) (pc' := 13) ok (dOf dX11_keepsAhead 6 rfl) rfl (by decide) rfl (by decide) win_11 wfl_X11_25 (fun a1 => ?_)
    refine J_iload_n (pc' := 14) ok (dOf dX11_keepsAhead 7 rfl) rfl rfl rfl ?_
    refine J_aload_n (pc' := 15) ok (dOf dX11_keepsAhead 8 rfl) rfl rfl rfl ?_
    refine J_getR (ci := 11) (kf := 5) (C := RX11) (T := TX11) (N := 29) (pc' := 18) ok (dOf dX11_keepsAhead 9 rfl) rfl (by decide) rfl (by decide) win_11 wfl_X11_22 (fun a2 => ?_)
    refine J_iload_n (pc' := 19) ok (dOf dX11_keepsAhead 10 rfl) rfl rfl rfl ?_
    refine J_iald (pc' := 20) ok (dOf dX11_keepsAhead 11 rfl) rfl (fun x3 => ?_)
    refine J_iast (pc' := 21) ok (dOf dX11_keepsAhead 12 rfl) rfl (fun h4 _ => ?_)
    refine J_iinc (v := s.1 + 1) (ls' := [some (.ref v0), some (.int (s.1 + 1))]) (pc' := 24) ok (dOf dX11_keepsAhead 13 rfl) rfl rfl (by rfl) (Nat.le_of_ble_eq_true rfl) rfl rfl ?_
    refine J_goto (tgt := 2) ok (dOf dX11_keepsAhead 14 rfl) (by decide) ?_
    exact J_fin (k1 (s.1 + 1, h4))
def Mod_keepsAhead_j27 (v0 : Nat) (v1 : Int32) (h : AHeap) : Option (Unit × AHeap) :=
  some ((), h)
theorem Mod_keepsAhead_j27_J {E : JE} {l : Launch} {G : GX} {h' : AHeap} (ok : JOK E l G kMod_keepsAhead 0 0 none h') (v0 : Nat) (v1 : Int32) (h : AHeap) : J E kMod_keepsAhead (Mod_keepsAhead_j27 v0 v1 h) (fun z => z = ((), h')) 27 [some (.ref v0), some (.int v1)] [] h 0 0 := by
  unfold Mod_keepsAhead_j27
  exact J_vreturn ok (dOf dX11_keepsAhead 15 rfl) rfl (Eq.refl 0) (Nat.le_refl 0)
def Mod_keepsAhead (v0 : Nat) (h : AHeap) : Option (Unit × AHeap) :=
  (iter (Mod_keepsAhead_b2 v0) Lmax (0, h)).bind (fun (q2 : Int32 × AHeap) => Mod_keepsAhead_j27 v0 q2.1 q2.2)
theorem t_Mod_keepsAhead {l : Launch} {G : GX} {v0 : Nat} {h : AHeap} {h1 : AHeap} (hf : Mod_keepsAhead v0 h = some ((), h1)) : CT l G kMod_keepsAhead 0 0 [.ref v0] h none h1 := by
  refine CT_of (ls := [some (.ref v0), none]) (Z := fun z => z = ((), h1)) (by decide +kernel) (Nat.le_of_ble_eq_true rfl) hf rfl ⟨rfl, trivial⟩ (fun E ok => ?_)
  unfold Mod_keepsAhead
  refine J_iconst (v := 0) (pc' := 1) ok (dOf dX11_keepsAhead 0 rfl) rfl (by decide) ?_
  refine J_istore_n (ls' := [some (.ref v0), some (.int 0)]) (pc' := 2) ok (dOf dX11_keepsAhead 1 rfl) rfl rfl (Nat.le_of_ble_eq_true rfl) rfl rfl ?_
  refine J_iter (lf := fun z2 => [some (.ref v0), some (.int z2.1)]) (sf := fun _ => []) (hf := fun z2 => z2.2) (px := (fun (q2 : Int32 × AHeap) => 27)) (lx := (fun (q2 : Int32 × AHeap) => [some (.ref v0), some (.int q2.1)])) (sx := (fun (q2 : Int32 × AHeap) => [])) (hx := (fun (q2 : Int32 × AHeap) => q2.2)) (fun Y2 z2 m1 m2 => Mod_keepsAhead_b2_J ok v0 m1 m2 z2) (fun q2 => ?_) Lmax _
  exact Mod_keepsAhead_j27_J ok v0 q2.1 q2.2
-- X11_isLetter
abbrev kMod_isLetter : Cd := (yX11_isLetter, cX11_isLetter, 1, (some .boolean), 1, 22)
theorem dX11_isLetter : dcheck cX11_isLetter [(0, .iload_n 0, 1), (1, .bipush 97, 2), (3, .bipush 122, 2), (5, .invokestatic 75, 3), (8, .ireturn, 1)] = true := by decide +kernel
theorem cw_Mod_isLetter {k : Cd} (h1 : kMod_isLetter.2.2.2.2.1 + 1 ≤ k.2.2.2.2.1) (h2 : 8 + (kMod_isLetter.2.2.1 + 11) + kMod_isLetter.2.2.2.2.2 ≤ k.2.2.2.2.2) : Cw k kMod_isLetter 1 := ⟨wcode_X11_isLetter, wini_SplitProgramModel, ⟨by decide, by decide, by decide +kernel⟩, h1, h2⟩
def Mod_isLetter (v0 : Int32) (h : AHeap) : Option (Int32 × AHeap) :=
  bnd2 (Mod_isIn v0 97 122 h) fun x2 h1 => (bz x2).bind fun z => some (z, h1)
theorem t_Mod_isLetter {l : Launch} {G : GX} {v0 : Int32} {h : AHeap} {v : Int32} {h1 : AHeap} (hf : Mod_isLetter v0 h = some (v, h1)) : CT l G kMod_isLetter 0 0 [.int v0] h (some (.int v)) h1 := by
  refine CT_of (ls := [some (.int v0)]) (Z := fun z => z = (v, h1)) (by decide +kernel) (Nat.le_of_ble_eq_true rfl) hf rfl ⟨rfl, trivial⟩ (fun E ok => ?_)
  unfold Mod_isLetter
  refine J_iload_n (pc' := 1) ok (dOf dX11_isLetter 0 rfl) rfl rfl rfl ?_
  refine J_bipush (v := 97) (pc' := 3) ok (dOf dX11_isLetter 1 rfl) rfl (by decide) ?_
  refine J_bipush (v := 122) (pc' := 5) ok (dOf dX11_isLetter 2 rfl) rfl (by decide) ?_
  refine J_callSi (k2 := kMod_isIn) (as := [.int v0, .int 97, .int 122]) (pc' := 8) ok (dOf dX11_isLetter 3 rfl) rfl (cw_Mod_isIn (by decide) (by decide)) wml_X11_75 wstat_X11_isIn ⟨Nat.le_refl 0, Nat.le_refl 0⟩ (Nat.le_of_ble_eq_true rfl) rfl (fun _ _ hf => t_Mod_isIn hf) (fun x2 h1 => ?_)
  exact J_zreturn ok (dOf dX11_isLetter 4 rfl) rfl (Eq.refl 0) (Nat.le_refl 0)
-- X11_isDigit
abbrev kMod_isDigit : Cd := (yX11_isDigit, cX11_isDigit, 1, (some .boolean), 1, 22)
theorem dX11_isDigit : dcheck cX11_isDigit [(0, .iload_n 0, 1), (1, .bipush 48, 2), (3, .bipush 57, 2), (5, .invokestatic 75, 3), (8, .ireturn, 1)] = true := by decide +kernel
theorem cw_Mod_isDigit {k : Cd} (h1 : kMod_isDigit.2.2.2.2.1 + 1 ≤ k.2.2.2.2.1) (h2 : 8 + (kMod_isDigit.2.2.1 + 11) + kMod_isDigit.2.2.2.2.2 ≤ k.2.2.2.2.2) : Cw k kMod_isDigit 1 := ⟨wcode_X11_isDigit, wini_SplitProgramModel, ⟨by decide, by decide, by decide +kernel⟩, h1, h2⟩
def Mod_isDigit (v0 : Int32) (h : AHeap) : Option (Int32 × AHeap) :=
  bnd2 (Mod_isIn v0 48 57 h) fun x2 h1 => (bz x2).bind fun z => some (z, h1)
theorem t_Mod_isDigit {l : Launch} {G : GX} {v0 : Int32} {h : AHeap} {v : Int32} {h1 : AHeap} (hf : Mod_isDigit v0 h = some (v, h1)) : CT l G kMod_isDigit 0 0 [.int v0] h (some (.int v)) h1 := by
  refine CT_of (ls := [some (.int v0)]) (Z := fun z => z = (v, h1)) (by decide +kernel) (Nat.le_of_ble_eq_true rfl) hf rfl ⟨rfl, trivial⟩ (fun E ok => ?_)
  unfold Mod_isDigit
  refine J_iload_n (pc' := 1) ok (dOf dX11_isDigit 0 rfl) rfl rfl rfl ?_
  refine J_bipush (v := 48) (pc' := 3) ok (dOf dX11_isDigit 1 rfl) rfl (by decide) ?_
  refine J_bipush (v := 57) (pc' := 5) ok (dOf dX11_isDigit 2 rfl) rfl (by decide) ?_
  refine J_callSi (k2 := kMod_isIn) (as := [.int v0, .int 48, .int 57]) (pc' := 8) ok (dOf dX11_isDigit 3 rfl) rfl (cw_Mod_isIn (by decide) (by decide)) wml_X11_75 wstat_X11_isIn ⟨Nat.le_refl 0, Nat.le_refl 0⟩ (Nat.le_of_ble_eq_true rfl) rfl (fun _ _ hf => t_Mod_isIn hf) (fun x2 h1 => ?_)
  exact J_zreturn ok (dOf dX11_isDigit 4 rfl) rfl (Eq.refl 0) (Nat.le_refl 0)
-- X11_reads
abbrev kMod_reads : Cd := (yX11_reads, cX11_reads, 1, none, 2, 42)
theorem dX11_reads : dcheck cX11_reads [(0, .aload_n 0, 1), (1, .aload_n 0, 1), (2, .getfield 99, 3), (5, .putfield 102, 3), (8, .aload_n 0, 1), (9, .getfield 102, 3), (12, .aload_n 0, 1), (13, .getfield 105, 3), (16, .if_icmp .ge 30, 3), (19, .aload_n 0, 1), (20, .getfield 31, 3), (23, .aload_n 0, 1), (24, .getfield 102, 3), (27, .iaload, 1), (28, .bipush 32, 2), (30, .if_icmp .ne 16, 3), (33, .aload_n 0, 1), (34, .dup, 1), (35, .getfield 102, 3), (38, .iconst 1, 1), (39, .iadd, 1), (40, .putfield 102, 3), (43, .goto (-35), 3), (46, .aload_n 0, 1), (47, .aload_n 0, 1), (48, .getfield 102, 3), (51, .putfield 99, 3), (54, .aload_n 0, 1), (55, .getfield 102, 3), (58, .aload_n 0, 1), (59, .getfield 105, 3), (62, .if_icmp .ne 4, 3), (65, .return_, 1), (66, .aload_n 0, 1), (67, .dup, 1), (68, .getfield 99, 3), (71, .iconst 1, 1), (72, .iadd, 1), (73, .putfield 99, 3), (76, .aload_n 0, 1), (77, .getfield 31, 3), (80, .aload_n 0, 1), (81, .getfield 102, 3), (84, .iaload, 1), (85, .invokestatic 108, 3), (88, .ifCond .eq 42, 3), (91, .aload_n 0, 1), (92, .getfield 99, 3), (95, .aload_n 0, 1), (96, .getfield 105, 3), (99, .if_icmp .ge 85, 3), (102, .aload_n 0, 1), (103, .getfield 31, 3), (106, .aload_n 0, 1), (107, .getfield 99, 3), (110, .iaload, 1), (111, .invokestatic 108, 3), (114, .ifCond .eq 70, 3), (117, .aload_n 0, 1), (118, .dup, 1), (119, .getfield 99, 3), (122, .iconst 1, 1), (123, .iadd, 1), (124, .putfield 99, 3), (127, .goto (-36), 3), (130, .aload_n 0, 1), (131, .getfield 31, 3), (134, .aload_n 0, 1), (135, .getfield 102, 3), (138, .iaload, 1), (139, .invokestatic 112, 3), (142, .ifCond .eq 42, 3), (145, .aload_n 0, 1), (146, .getfield 99, 3), (149, .aload_n 0, 1), (150, .getfield 105, 3), (153, .if_icmp .ge 31, 3), (156, .aload_n 0, 1), (157, .getfield 31, 3), (160, .aload_n 0, 1), (161, .getfield 99, 3), (164, .iaload, 1), (165, .invokestatic 112, 3), (168, .ifCond .eq 16, 3), (171, .aload_n 0, 1), (172, .dup, 1), (173, .getfield 99, 3), (176, .iconst 1, 1), (177, .iadd, 1), (178, .putfield 99, 3), (181, .goto (-36), 3), (184, .return_, 1)] = true := by decide +kernel
theorem cw_Mod_reads {k : Cd} (h1 : kMod_reads.2.2.2.2.1 + 1 ≤ k.2.2.2.2.1) (h2 : 8 + (kMod_reads.2.2.1 + 11) + kMod_reads.2.2.2.2.2 ≤ k.2.2.2.2.2) : Cw k kMod_reads 0 := ⟨wcode_X11_reads, wini_SplitProgramModel, ⟨by decide, by decide, by decide +kernel⟩, h1, h2⟩
def Mod_reads_b8 (v0 : Nat) (s : AHeap) : Option ((AHeap) ⊕ ((AHeap))) :=
  (gfI s v0 11 18).bind fun x3 => (gfI s v0 11 17).bind fun x4 => (if x4 ≤ x3 then some (Sum.inr s) else (gfR s v0 11 8).bind fun a5 => (gfI s v0 11 18).bind fun x6 => (ald 0 s a5 x6).bind fun x7 => (if ¬ x7 = 32 then some (Sum.inr s) else (gfI s v0 11 18).bind fun x8 => (pfV s v0 11 18 (.int (x8 + 1))).bind fun h9 => some (Sum.inl h9)))
theorem Mod_reads_b8_J {E : JE} {l : Launch} {G : GX} {r : Option Value} {h' : AHeap} (ok : JOK E l G kMod_reads 0 0 r h') (v0 : Nat) {Y : (AHeap) ⊕ ((AHeap)) → Prop} (k1 : ∀ s' : AHeap, Y (.inl s') → JW E kMod_reads 8 [some (.ref v0)] [] s' 0 0) (kx46 : ∀ q : AHeap, Y (.inr q) → JW E kMod_reads 46 [some (.ref v0)] [] q 0 0) (s : AHeap) : J E kMod_reads (Mod_reads_b8 v0 s) Y 8 [some (.ref v0)] [] s 0 0 := by
  unfold Mod_reads_b8
  refine J_aload_n (pc' := 9) ok (dOf dX11_reads 4 rfl) rfl rfl rfl ?_
  refine J_getI (ci := 11) (kf := 18) (C := RX11) (T := TX11) (N := 29) (pc' := 12) ok (dOf dX11_reads 5 rfl) rfl (by decide) rfl (by decide) win_11 wfl_X11_102 (fun x3 => ?_)
  refine J_aload_n (pc' := 13) ok (dOf dX11_reads 6 rfl) rfl rfl rfl ?_
  refine J_getI (ci := 11) (kf := 17) (C := RX11) (T := TX11) (N := 29) (pc' := 16) ok (dOf dX11_reads 7 rfl) rfl (by decide) rfl (by decide) win_11 wfl_X11_105 (fun x4 => ?_)
  refine J_icmp_ge (tgt := 46) (pc' := 19) ok (dOf dX11_reads 8 rfl) rfl (by decide) ?_ ?_
  · exact J_fin (kx46 s)
  · refine J_aload_n (pc' := 20) ok (dOf dX11_reads 9 rfl) rfl rfl rfl ?_
    refine J_getR (ci := 11) (kf := 8) (C := RX11) (T := TX11) (N := 29) (pc' := 23) ok (dOf dX11_reads 10 rfl) rfl (by decide) rfl (by decide) win_11 wfl_X11_31 (fun a5 => ?_)
    refine J_aload_n (pc' := 24) ok (dOf dX11_reads 11 rfl) rfl rfl rfl ?_
    refine J_getI (ci := 11) (kf := 18) (C := RX11) (T := TX11) (N := 29) (pc' := 27) ok (dOf dX11_reads 12 rfl) rfl (by decide) rfl (by decide) win_11 wfl_X11_102 (fun x6 => ?_)
    refine J_iald (pc' := 28) ok (dOf dX11_reads 13 rfl) rfl (fun x7 => ?_)
    refine J_bipush (v := 32) (pc' := 30) ok (dOf dX11_reads 14 rfl) rfl (by decide) ?_
    refine J_icmp_ne (tgt := 46) (pc' := 33) ok (dOf dX11_reads 15 rfl) rfl (by decide) ?_ ?_
    · exact J_fin (kx46 s)
    · refine J_aload_n (pc' := 34) ok (dOf dX11_reads 16 rfl) rfl rfl rfl ?_
      refine J_dup (pc' := 35) ok (dOf dX11_reads 17 rfl) rfl rfl ?_
      refine J_getI (ci := 11) (kf := 18) (C := RX11) (T := TX11) (N := 29) (pc' := 38) ok (dOf dX11_reads 18 rfl) rfl (by decide) rfl (by decide) win_11 wfl_X11_102 (fun x8 => ?_)
      refine J_iconst (v := 1) (pc' := 39) ok (dOf dX11_reads 19 rfl) rfl (by decide) ?_
      refine J_iadd (pc' := 40) ok (dOf dX11_reads 20 rfl) rfl ?_
      refine J_putI (ci := 11) (kf := 18) (C := RX11) (T := TX11) (N := 29) (pc' := 43) ok tyX11 (dOf dX11_reads 21 rfl) rfl rfl (by decide) win_11 tyX11_ok nmX11 rfl rfl wfl_X11_102 (fun h9 _ => ?_)
      refine J_goto (tgt := 8) ok (dOf dX11_reads 22 rfl) (by decide) ?_
      exact J_fin (k1 h9)
def Mod_reads_j184 (v0 : Nat) (h : AHeap) : Option (Unit × AHeap) :=
  some ((), h)
theorem Mod_reads_j184_J {E : JE} {l : Launch} {G : GX} {h' : AHeap} (ok : JOK E l G kMod_reads 0 0 none h') (v0 : Nat) (h : AHeap) : J E kMod_reads (Mod_reads_j184 v0 h) (fun z => z = ((), h')) 184 [some (.ref v0)] [] h 0 0 := by
  unfold Mod_reads_j184
  exact J_vreturn ok (dOf dX11_reads 91 rfl) rfl (Eq.refl 0) (Nat.le_refl 0)
def Mod_reads_b145 (v0 : Nat) (s : AHeap) : Option ((AHeap) ⊕ ((AHeap))) :=
  (gfI s v0 11 19).bind fun x26 => (gfI s v0 11 17).bind fun x27 => (if x27 ≤ x26 then some (Sum.inr s) else (gfR s v0 11 8).bind fun a28 => (gfI s v0 11 19).bind fun x29 => (ald 0 s a28 x29).bind fun x30 => bnd2 (Mod_isDigit x30 s) fun x32 h31 => (if x32 = 0 then some (Sum.inr h31) else (gfI h31 v0 11 19).bind fun x33 => (pfV h31 v0 11 19 (.int (x33 + 1))).bind fun h34 => some (Sum.inl h34)))
theorem Mod_reads_b145_J {E : JE} {l : Launch} {G : GX} {r : Option Value} {h' : AHeap} (ok : JOK E l G kMod_reads 0 0 r h') (v0 : Nat) {Y : (AHeap) ⊕ ((AHeap)) → Prop} (k1 : ∀ s' : AHeap, Y (.inl s') → JW E kMod_reads 145 [some (.ref v0)] [] s' 0 0) (kx184 : ∀ q : AHeap, Y (.inr q) → JW E kMod_reads 184 [some (.ref v0)] [] q 0 0) (s : AHeap) : J E kMod_reads (Mod_reads_b145 v0 s) Y 145 [some (.ref v0)] [] s 0 0 := by
  unfold Mod_reads_b145
  refine J_aload_n (pc' := 146) ok (dOf dX11_reads 72 rfl) rfl rfl rfl ?_
  refine J_getI (ci := 11) (kf := 19) (C := RX11) (T := TX11) (N := 29) (pc' := 149) ok (dOf dX11_reads 73 rfl) rfl (by decide) rfl (by decide) win_11 wfl_X11_99 (fun x26 => ?_)
  refine J_aload_n (pc' := 150) ok (dOf dX11_reads 74 rfl) rfl rfl rfl ?_
  refine J_getI (ci := 11) (kf := 17) (C := RX11) (T := TX11) (N := 29) (pc' := 153) ok (dOf dX11_reads 75 rfl) rfl (by decide) rfl (by decide) win_11 wfl_X11_105 (fun x27 => ?_)
  refine J_icmp_ge (tgt := 184) (pc' := 156) ok (dOf dX11_reads 76 rfl) rfl (by decide) ?_ ?_
  · exact J_fin (kx184 s)
  · refine J_aload_n (pc' := 157) ok (dOf dX11_reads 77 rfl) rfl rfl rfl ?_
    refine J_getR (ci := 11) (kf := 8) (C := RX11) (T := TX11) (N := 29) (pc' := 160) ok (dOf dX11_reads 78 rfl) rfl (by decide) rfl (by decide) win_11 wfl_X11_31 (fun a28 => ?_)
    refine J_aload_n (pc' := 161) ok (dOf dX11_reads 79 rfl) rfl rfl rfl ?_
    refine J_getI (ci := 11) (kf := 19) (C := RX11) (T := TX11) (N := 29) (pc' := 164) ok (dOf dX11_reads 80 rfl) rfl (by decide) rfl (by decide) win_11 wfl_X11_99 (fun x29 => ?_)
    refine J_iald (pc' := 165) ok (dOf dX11_reads 81 rfl) rfl (fun x30 => ?_)
    refine J_callSi (k2 := kMod_isDigit) (as := [.int x30]) (pc' := 168) ok (dOf dX11_reads 82 rfl) rfl (cw_Mod_isDigit (by decide) (by decide)) wml_X11_112 wstat_X11_isDigit ⟨Nat.le_refl 0, Nat.le_refl 0⟩ (Nat.le_of_ble_eq_true rfl) rfl (fun _ _ hf => t_Mod_isDigit hf) (fun x32 h31 => ?_)
    refine J_if_eq (tgt := 184) (pc' := 171) ok (dOf dX11_reads 83 rfl) rfl (by decide) ?_ ?_
    · exact J_fin (kx184 h31)
    · refine J_aload_n (pc' := 172) ok (dOf dX11_reads 84 rfl) rfl rfl rfl ?_
      refine J_dup (pc' := 173) ok (dOf dX11_reads 85 rfl) rfl rfl ?_
      refine J_getI (ci := 11) (kf := 19) (C := RX11) (T := TX11) (N := 29) (pc' := 176) ok (dOf dX11_reads 86 rfl) rfl (by decide) rfl (by decide) win_11 wfl_X11_99 (fun x33 => ?_)
      refine J_iconst (v := 1) (pc' := 177) ok (dOf dX11_reads 87 rfl) rfl (by decide) ?_
      refine J_iadd (pc' := 178) ok (dOf dX11_reads 88 rfl) rfl ?_
      refine J_putI (ci := 11) (kf := 19) (C := RX11) (T := TX11) (N := 29) (pc' := 181) ok tyX11 (dOf dX11_reads 89 rfl) rfl rfl (by decide) win_11 tyX11_ok nmX11 rfl rfl wfl_X11_99 (fun h34 _ => ?_)
      refine J_goto (tgt := 145) ok (dOf dX11_reads 90 rfl) (by decide) ?_
      exact J_fin (k1 h34)
def Mod_reads_b91 (v0 : Nat) (s : AHeap) : Option ((AHeap) ⊕ ((AHeap))) :=
  (gfI s v0 11 19).bind fun x35 => (gfI s v0 11 17).bind fun x36 => (if x36 ≤ x35 then some (Sum.inr s) else (gfR s v0 11 8).bind fun a37 => (gfI s v0 11 19).bind fun x38 => (ald 0 s a37 x38).bind fun x39 => bnd2 (Mod_isLetter x39 s) fun x41 h40 => (if x41 = 0 then some (Sum.inr h40) else (gfI h40 v0 11 19).bind fun x42 => (pfV h40 v0 11 19 (.int (x42 + 1))).bind fun h43 => some (Sum.inl h43)))
theorem Mod_reads_b91_J {E : JE} {l : Launch} {G : GX} {r : Option Value} {h' : AHeap} (ok : JOK E l G kMod_reads 0 0 r h') (v0 : Nat) {Y : (AHeap) ⊕ ((AHeap)) → Prop} (k1 : ∀ s' : AHeap, Y (.inl s') → JW E kMod_reads 91 [some (.ref v0)] [] s' 0 0) (kx184 : ∀ q : AHeap, Y (.inr q) → JW E kMod_reads 184 [some (.ref v0)] [] q 0 0) (s : AHeap) : J E kMod_reads (Mod_reads_b91 v0 s) Y 91 [some (.ref v0)] [] s 0 0 := by
  unfold Mod_reads_b91
  refine J_aload_n (pc' := 92) ok (dOf dX11_reads 46 rfl) rfl rfl rfl ?_
  refine J_getI (ci := 11) (kf := 19) (C := RX11) (T := TX11) (N := 29) (pc' := 95) ok (dOf dX11_reads 47 rfl) rfl (by decide) rfl (by decide) win_11 wfl_X11_99 (fun x35 => ?_)
  refine J_aload_n (pc' := 96) ok (dOf dX11_reads 48 rfl) rfl rfl rfl ?_
  refine J_getI (ci := 11) (kf := 17) (C := RX11) (T := TX11) (N := 29) (pc' := 99) ok (dOf dX11_reads 49 rfl) rfl (by decide) rfl (by decide) win_11 wfl_X11_105 (fun x36 => ?_)
  refine J_icmp_ge (tgt := 184) (pc' := 102) ok (dOf dX11_reads 50 rfl) rfl (by decide) ?_ ?_
  · exact J_fin (kx184 s)
  · refine J_aload_n (pc' := 103) ok (dOf dX11_reads 51 rfl) rfl rfl rfl ?_
    refine J_getR (ci := 11) (kf := 8) (C := RX11) (T := TX11) (N := 29) (pc' := 106) ok (dOf dX11_reads 52 rfl) rfl (by decide) rfl (by decide) win_11 wfl_X11_31 (fun a37 => ?_)
    refine J_aload_n (pc' := 107) ok (dOf dX11_reads 53 rfl) rfl rfl rfl ?_
    refine J_getI (ci := 11) (kf := 19) (C := RX11) (T := TX11) (N := 29) (pc' := 110) ok (dOf dX11_reads 54 rfl) rfl (by decide) rfl (by decide) win_11 wfl_X11_99 (fun x38 => ?_)
    refine J_iald (pc' := 111) ok (dOf dX11_reads 55 rfl) rfl (fun x39 => ?_)
    refine J_callSi (k2 := kMod_isLetter) (as := [.int x39]) (pc' := 114) ok (dOf dX11_reads 56 rfl) rfl (cw_Mod_isLetter (by decide) (by decide)) wml_X11_108 wstat_X11_isLetter ⟨Nat.le_refl 0, Nat.le_refl 0⟩ (Nat.le_of_ble_eq_true rfl) rfl (fun _ _ hf => t_Mod_isLetter hf) (fun x41 h40 => ?_)
    refine J_if_eq (tgt := 184) (pc' := 117) ok (dOf dX11_reads 57 rfl) rfl (by decide) ?_ ?_
    · exact J_fin (kx184 h40)
    · refine J_aload_n (pc' := 118) ok (dOf dX11_reads 58 rfl) rfl rfl rfl ?_
      refine J_dup (pc' := 119) ok (dOf dX11_reads 59 rfl) rfl rfl ?_
      refine J_getI (ci := 11) (kf := 19) (C := RX11) (T := TX11) (N := 29) (pc' := 122) ok (dOf dX11_reads 60 rfl) rfl (by decide) rfl (by decide) win_11 wfl_X11_99 (fun x42 => ?_)
      refine J_iconst (v := 1) (pc' := 123) ok (dOf dX11_reads 61 rfl) rfl (by decide) ?_
      refine J_iadd (pc' := 124) ok (dOf dX11_reads 62 rfl) rfl ?_
      refine J_putI (ci := 11) (kf := 19) (C := RX11) (T := TX11) (N := 29) (pc' := 127) ok tyX11 (dOf dX11_reads 63 rfl) rfl rfl (by decide) win_11 tyX11_ok nmX11 rfl rfl wfl_X11_99 (fun h43 _ => ?_)
      refine J_goto (tgt := 91) ok (dOf dX11_reads 64 rfl) (by decide) ?_
      exact J_fin (k1 h43)
def Mod_reads_j46 (v0 : Nat) (h : AHeap) : Option (Unit × AHeap) :=
  (gfI h v0 11 18).bind fun x10 => (pfV h v0 11 19 (.int x10)).bind fun h11 => (gfI h11 v0 11 18).bind fun x12 => (gfI h11 v0 11 17).bind fun x13 => (if ¬ x12 = x13 then (gfI h11 v0 11 19).bind fun x14 => (pfV h11 v0 11 19 (.int (x14 + 1))).bind fun h15 => (gfR h15 v0 11 8).bind fun a16 => (gfI h15 v0 11 18).bind fun x17 => (ald 0 h15 a16 x17).bind fun x18 => bnd2 (Mod_isLetter x18 h15) fun x20 h19 => (if x20 = 0 then (gfR h19 v0 11 8).bind fun a21 => (gfI h19 v0 11 18).bind fun x22 => (ald 0 h19 a21 x22).bind fun x23 => bnd2 (Mod_isDigit x23 h19) fun x25 h24 => (if x25 = 0 then Mod_reads_j184 v0 h24 else (iter (Mod_reads_b145 v0) Lmax h24).bind (fun (q145 : AHeap) => Mod_reads_j184 v0 q145)) else (iter (Mod_reads_b91 v0) Lmax h19).bind (fun (q91 : AHeap) => Mod_reads_j184 v0 q91)) else some ((), h11))
theorem Mod_reads_j46_J {E : JE} {l : Launch} {G : GX} {h' : AHeap} (ok : JOK E l G kMod_reads 0 0 none h') (v0 : Nat) (h : AHeap) : J E kMod_reads (Mod_reads_j46 v0 h) (fun z => z = ((), h')) 46 [some (.ref v0)] [] h 0 0 := by
  unfold Mod_reads_j46
  refine J_aload_n (pc' := 47) ok (dOf dX11_reads 23 rfl) rfl rfl rfl ?_
  refine J_aload_n (pc' := 48) ok (dOf dX11_reads 24 rfl) rfl rfl rfl ?_
  refine J_getI (ci := 11) (kf := 18) (C := RX11) (T := TX11) (N := 29) (pc' := 51) ok (dOf dX11_reads 25 rfl) rfl (by decide) rfl (by decide) win_11 wfl_X11_102 (fun x10 => ?_)
  refine J_putI (ci := 11) (kf := 19) (C := RX11) (T := TX11) (N := 29) (pc' := 54) ok tyX11 (dOf dX11_reads 26 rfl) rfl rfl (by decide) win_11 tyX11_ok nmX11 rfl rfl wfl_X11_99 (fun h11 _ => ?_)
  refine J_aload_n (pc' := 55) ok (dOf dX11_reads 27 rfl) rfl rfl rfl ?_
  refine J_getI (ci := 11) (kf := 18) (C := RX11) (T := TX11) (N := 29) (pc' := 58) ok (dOf dX11_reads 28 rfl) rfl (by decide) rfl (by decide) win_11 wfl_X11_102 (fun x12 => ?_)
  refine J_aload_n (pc' := 59) ok (dOf dX11_reads 29 rfl) rfl rfl rfl ?_
  refine J_getI (ci := 11) (kf := 17) (C := RX11) (T := TX11) (N := 29) (pc' := 62) ok (dOf dX11_reads 30 rfl) rfl (by decide) rfl (by decide) win_11 wfl_X11_105 (fun x13 => ?_)
  refine J_icmp_ne (tgt := 66) (pc' := 65) ok (dOf dX11_reads 31 rfl) rfl (by decide) ?_ ?_
  · refine J_aload_n (pc' := 67) ok (dOf dX11_reads 33 rfl) rfl rfl rfl ?_
    refine J_dup (pc' := 68) ok (dOf dX11_reads 34 rfl) rfl rfl ?_
    refine J_getI (ci := 11) (kf := 19) (C := RX11) (T := TX11) (N := 29) (pc' := 71) ok (dOf dX11_reads 35 rfl) rfl (by decide) rfl (by decide) win_11 wfl_X11_99 (fun x14 => ?_)
    refine J_iconst (v := 1) (pc' := 72) ok (dOf dX11_reads 36 rfl) rfl (by decide) ?_
    refine J_iadd (pc' := 73) ok (dOf dX11_reads 37 rfl) rfl ?_
    refine J_putI (ci := 11) (kf := 19) (C := RX11) (T := TX11) (N := 29) (pc' := 76) ok tyX11 (dOf dX11_reads 38 rfl) rfl rfl (by decide) win_11 tyX11_ok nmX11 rfl rfl wfl_X11_99 (fun h15 _ => ?_)
    refine J_aload_n (pc' := 77) ok (dOf dX11_reads 39 rfl) rfl rfl rfl ?_
    refine J_getR (ci := 11) (kf := 8) (C := RX11) (T := TX11) (N := 29) (pc' := 80) ok (dOf dX11_reads 40 rfl) rfl (by decide) rfl (by decide) win_11 wfl_X11_31 (fun a16 => ?_)
    refine J_aload_n (pc' := 81) ok (dOf dX11_reads 41 rfl) rfl rfl rfl ?_
    refine J_getI (ci := 11) (kf := 18) (C := RX11) (T := TX11) (N := 29) (pc' := 84) ok (dOf dX11_reads 42 rfl) rfl (by decide) rfl (by decide) win_11 wfl_X11_102 (fun x17 => ?_)
    refine J_iald (pc' := 85) ok (dOf dX11_reads 43 rfl) rfl (fun x18 => ?_)
    refine J_callSi (k2 := kMod_isLetter) (as := [.int x18]) (pc' := 88) ok (dOf dX11_reads 44 rfl) rfl (cw_Mod_isLetter (by decide) (by decide)) wml_X11_108 wstat_X11_isLetter ⟨Nat.le_refl 0, Nat.le_refl 0⟩ (Nat.le_of_ble_eq_true rfl) rfl (fun _ _ hf => t_Mod_isLetter hf) (fun x20 h19 => ?_)
    refine J_if_eq (tgt := 130) (pc' := 91) ok (dOf dX11_reads 45 rfl) rfl (by decide) ?_ ?_
    · refine J_aload_n (pc' := 131) ok (dOf dX11_reads 65 rfl) rfl rfl rfl ?_
      refine J_getR (ci := 11) (kf := 8) (C := RX11) (T := TX11) (N := 29) (pc' := 134) ok (dOf dX11_reads 66 rfl) rfl (by decide) rfl (by decide) win_11 wfl_X11_31 (fun a21 => ?_)
      refine J_aload_n (pc' := 135) ok (dOf dX11_reads 67 rfl) rfl rfl rfl ?_
      refine J_getI (ci := 11) (kf := 18) (C := RX11) (T := TX11) (N := 29) (pc' := 138) ok (dOf dX11_reads 68 rfl) rfl (by decide) rfl (by decide) win_11 wfl_X11_102 (fun x22 => ?_)
      refine J_iald (pc' := 139) ok (dOf dX11_reads 69 rfl) rfl (fun x23 => ?_)
      refine J_callSi (k2 := kMod_isDigit) (as := [.int x23]) (pc' := 142) ok (dOf dX11_reads 70 rfl) rfl (cw_Mod_isDigit (by decide) (by decide)) wml_X11_112 wstat_X11_isDigit ⟨Nat.le_refl 0, Nat.le_refl 0⟩ (Nat.le_of_ble_eq_true rfl) rfl (fun _ _ hf => t_Mod_isDigit hf) (fun x25 h24 => ?_)
      refine J_if_eq (tgt := 184) (pc' := 145) ok (dOf dX11_reads 71 rfl) rfl (by decide) ?_ ?_
      · exact Mod_reads_j184_J ok v0 h24
      · refine J_iter (lf := fun z145 => [some (.ref v0)]) (sf := fun _ => []) (hf := fun z145 => z145) (px := (fun (q145 : AHeap) => 184)) (lx := (fun (q145 : AHeap) => [some (.ref v0)])) (sx := (fun (q145 : AHeap) => [])) (hx := (fun (q145 : AHeap) => q145)) (fun Y2 z145 m1 m2 => Mod_reads_b145_J ok v0 m1 m2 z145) (fun q145 => ?_) Lmax _
        exact Mod_reads_j184_J ok v0 q145
    · refine J_iter (lf := fun z91 => [some (.ref v0)]) (sf := fun _ => []) (hf := fun z91 => z91) (px := (fun (q91 : AHeap) => 184)) (lx := (fun (q91 : AHeap) => [some (.ref v0)])) (sx := (fun (q91 : AHeap) => [])) (hx := (fun (q91 : AHeap) => q91)) (fun Y2 z91 m1 m2 => Mod_reads_b91_J ok v0 m1 m2 z91) (fun q91 => ?_) Lmax _
      exact Mod_reads_j184_J ok v0 q91
  · exact J_vreturn ok (dOf dX11_reads 32 rfl) rfl (Eq.refl 0) (Nat.le_refl 0)
def Mod_reads (v0 : Nat) (h : AHeap) : Option (Unit × AHeap) :=
  (gfI h v0 11 19).bind fun x1 => (pfV h v0 11 18 (.int x1)).bind fun h2 => (iter (Mod_reads_b8 v0) Lmax h2).bind (fun (q8 : AHeap) => Mod_reads_j46 v0 q8)
theorem t_Mod_reads {l : Launch} {G : GX} {v0 : Nat} {h : AHeap} {h1 : AHeap} (hf : Mod_reads v0 h = some ((), h1)) : CT l G kMod_reads 0 0 [.ref v0] h none h1 := by
  refine CT_of (ls := [some (.ref v0)]) (Z := fun z => z = ((), h1)) (by decide +kernel) (Nat.le_of_ble_eq_true rfl) hf rfl ⟨rfl, trivial⟩ (fun E ok => ?_)
  unfold Mod_reads
  refine J_aload_n (pc' := 1) ok (dOf dX11_reads 0 rfl) rfl rfl rfl ?_
  refine J_aload_n (pc' := 2) ok (dOf dX11_reads 1 rfl) rfl rfl rfl ?_
  refine J_getI (ci := 11) (kf := 19) (C := RX11) (T := TX11) (N := 29) (pc' := 5) ok (dOf dX11_reads 2 rfl) rfl (by decide) rfl (by decide) win_11 wfl_X11_99 (fun x1 => ?_)
  refine J_putI (ci := 11) (kf := 18) (C := RX11) (T := TX11) (N := 29) (pc' := 8) ok tyX11 (dOf dX11_reads 3 rfl) rfl rfl (by decide) win_11 tyX11_ok nmX11 rfl rfl wfl_X11_102 (fun h2 _ => ?_)
  refine J_iter (lf := fun z8 => [some (.ref v0)]) (sf := fun _ => []) (hf := fun z8 => z8) (px := (fun (q8 : AHeap) => 46)) (lx := (fun (q8 : AHeap) => [some (.ref v0)])) (sx := (fun (q8 : AHeap) => [])) (hx := (fun (q8 : AHeap) => q8)) (fun Y2 z8 m1 m2 => Mod_reads_b8_J ok v0 m1 m2 z8) (fun q8 => ?_) Lmax _
  exact Mod_reads_j46_J ok v0 q8
-- X11_isWord
abbrev kMod_isWord : Cd := (yX11_isWord, cX11_isWord, 3, (some .boolean), 4, 85)
theorem dX11_isWord : dcheck cX11_isWord [(0, .aload_n 0, 1), (1, .getfield 99, 3), (4, .aload_n 0, 1), (5, .getfield 102, 3), (8, .isub, 1), (9, .aload_n 1, 1), (10, .invokevirtual 115, 3), (13, .if_icmp .eq 5, 3), (16, .iconst 0, 1), (17, .ireturn, 1), (18, .iconst 0, 1), (19, .istore_n 2, 1), (20, .iload_n 2, 1), (21, .aload_n 1, 1), (22, .invokevirtual 115, 3), (25, .if_icmp .ge 30, 3), (28, .aload_n 0, 1), (29, .getfield 31, 3), (32, .aload_n 0, 1), (33, .getfield 102, 3), (36, .iload_n 2, 1), (37, .iadd, 1), (38, .iaload, 1), (39, .aload_n 1, 1), (40, .iload_n 2, 1), (41, .invokevirtual 121, 3), (44, .if_icmp .eq 5, 3), (47, .iconst 0, 1), (48, .ireturn, 1), (49, .iinc 2 1, 3), (52, .goto (-32), 3), (55, .iconst 1, 1), (56, .ireturn, 1)] = true := by decide +kernel
theorem cw_Mod_isWord {k : Cd} (h1 : kMod_isWord.2.2.2.2.1 + 1 ≤ k.2.2.2.2.1) (h2 : 8 + (kMod_isWord.2.2.1 + 11) + kMod_isWord.2.2.2.2.2 ≤ k.2.2.2.2.2) : Cw k kMod_isWord 1 := ⟨wcode_X11_isWord, wini_SplitProgramModel, ⟨by decide, by decide, by decide +kernel⟩, h1, h2⟩
def Mod_isWord_b20 (v0 : Nat) (v1 : Nat) (s : Int32 × AHeap) : Option ((Int32 × AHeap) ⊕ ((Int32 × AHeap) ⊕ (Int32 × AHeap))) :=
  (chkS v1).bind fun _ => bnd2 (J0_length v1 s.2) fun x6 h5 => (if x6 ≤ s.1 then some (Sum.inr (Sum.inr (s.1, h5))) else (gfR h5 v0 11 8).bind fun a7 => (gfI h5 v0 11 18).bind fun x8 => (ald 0 h5 a7 (x8 + s.1)).bind fun x9 => (chkS v1).bind fun _ => bnd2 (J0_charAt v1 s.1 h5) fun x11 h10 => (if x9 = x11 then some (Sum.inl (s.1 + 1, h10)) else some (Sum.inr (Sum.inl (s.1, h10)))))
theorem Mod_isWord_b20_J {E : JE} {l : Launch} {G : GX} {r : Option Value} {h' : AHeap} (ok : JOK E l G kMod_isWord 0 0 r h') (v0 : Nat) (v1 : Nat) {Y : (Int32 × AHeap) ⊕ ((Int32 × AHeap) ⊕ (Int32 × AHeap)) → Prop} (k1 : ∀ s' : Int32 × AHeap, Y (.inl s') → JW E kMod_isWord 20 [some (.ref v0), some (.ref v1), some (.int s'.1)] [] s'.2 0 0) (kx47 : ∀ q : Int32 × AHeap, Y (.inr (Sum.inl q)) → JW E kMod_isWord 47 [some (.ref v0), some (.ref v1), some (.int q.1)] [] q.2 0 0) (kx55 : ∀ q : Int32 × AHeap, Y (.inr (Sum.inr q)) → JW E kMod_isWord 55 [some (.ref v0), some (.ref v1), some (.int q.1)] [] q.2 0 0) (s : Int32 × AHeap) : J E kMod_isWord (Mod_isWord_b20 v0 v1 s) Y 20 [some (.ref v0), some (.ref v1), some (.int s.1)] [] s.2 0 0 := by
  unfold Mod_isWord_b20
  refine J_iload_n (pc' := 21) ok (dOf dX11_isWord 12 rfl) rfl rfl rfl ?_
  refine J_aload_n (pc' := 22) ok (dOf dX11_isWord 13 rfl) rfl rfl rfl ?_
  refine J_callSVi (k2 := kJ0_length) (as := []) (pc' := 25) ok (dOf dX11_isWord 14 rfl) rfl (cw_J0_length (by decide) (by decide)) wml_X11_115 winst_J0_length_8abf5 wsel_J0_length_8abf5 rfl ⟨Nat.le_refl 0, Nat.le_refl 0⟩ (Nat.le_of_ble_eq_true rfl) rfl (fun _ _ hf => t_J0_length hf) (fun x6 h5 => ?_)
  refine J_icmp_ge (tgt := 55) (pc' := 28) ok (dOf dX11_isWord 15 rfl) rfl (by decide) ?_ ?_
  · exact J_fin (kx55 (s.1, h5))
  · refine J_aload_n (pc' := 29) ok (dOf dX11_isWord 16 rfl) rfl rfl rfl ?_
    refine J_getR (ci := 11) (kf := 8) (C := RX11) (T := TX11) (N := 29) (pc' := 32) ok (dOf dX11_isWord 17 rfl) rfl (by decide) rfl (by decide) win_11 wfl_X11_31 (fun a7 => ?_)
    refine J_aload_n (pc' := 33) ok (dOf dX11_isWord 18 rfl) rfl rfl rfl ?_
    refine J_getI (ci := 11) (kf := 18) (C := RX11) (T := TX11) (N := 29) (pc' := 36) ok (dOf dX11_isWord 19 rfl) rfl (by decide) rfl (by decide) win_11 wfl_X11_102 (fun x8 => ?_)
    refine J_iload_n (pc' := 37) ok (dOf dX11_isWord 20 rfl) rfl rfl rfl ?_
    refine J_iadd (pc' := 38) ok (dOf dX11_isWord 21 rfl) rfl ?_
    refine J_iald (pc' := 39) ok (dOf dX11_isWord 22 rfl) rfl (fun x9 => ?_)
    refine J_aload_n (pc' := 40) ok (dOf dX11_isWord 23 rfl) rfl rfl rfl ?_
    refine J_iload_n (pc' := 41) ok (dOf dX11_isWord 24 rfl) rfl rfl rfl ?_
    refine J_callSVi (k2 := kJ0_charAt) (as := [.int s.1]) (pc' := 44) ok (dOf dX11_isWord 25 rfl) rfl (cw_J0_charAt (by decide) (by decide)) wml_X11_121 winst_J0_charAt_5068e wsel_J0_charAt_5068e rfl ⟨Nat.le_refl 0, Nat.le_refl 0⟩ (Nat.le_of_ble_eq_true rfl) rfl (fun _ _ hf => t_J0_charAt hf) (fun x11 h10 => ?_)
    refine J_icmp_eq (tgt := 49) (pc' := 47) ok (dOf dX11_isWord 26 rfl) rfl (by decide) ?_ ?_
    · refine J_iinc (v := s.1 + 1) (ls' := [some (.ref v0), some (.ref v1), some (.int (s.1 + 1))]) (pc' := 52) ok (dOf dX11_isWord 29 rfl) rfl rfl (by rfl) (Nat.le_of_ble_eq_true rfl) rfl rfl ?_
      refine J_goto (tgt := 20) ok (dOf dX11_isWord 30 rfl) (by decide) ?_
      exact J_fin (k1 (s.1 + 1, h10))
    · exact J_fin (kx47 (s.1, h10))
def Mod_isWord_j47 (v0 : Nat) (v1 : Nat) (v2 : Int32) (h : AHeap) : Option (Int32 × AHeap) :=
  (bz 0).bind fun z => some (z, h)
theorem Mod_isWord_j47_J {E : JE} {l : Launch} {G : GX} {v : Int32} {h' : AHeap} (ok : JOK E l G kMod_isWord 0 0 (some (.int v)) h') (v0 : Nat) (v1 : Nat) (v2 : Int32) (h : AHeap) : J E kMod_isWord (Mod_isWord_j47 v0 v1 v2 h) (fun z => z = (v, h')) 47 [some (.ref v0), some (.ref v1), some (.int v2)] [] h 0 0 := by
  unfold Mod_isWord_j47
  refine J_iconst (v := 0) (pc' := 48) ok (dOf dX11_isWord 27 rfl) rfl (by decide) ?_
  exact J_zreturn ok (dOf dX11_isWord 28 rfl) rfl (Eq.refl 0) (Nat.le_refl 0)
def Mod_isWord_j55 (v0 : Nat) (v1 : Nat) (v2 : Int32) (h : AHeap) : Option (Int32 × AHeap) :=
  (bz 1).bind fun z => some (z, h)
theorem Mod_isWord_j55_J {E : JE} {l : Launch} {G : GX} {v : Int32} {h' : AHeap} (ok : JOK E l G kMod_isWord 0 0 (some (.int v)) h') (v0 : Nat) (v1 : Nat) (v2 : Int32) (h : AHeap) : J E kMod_isWord (Mod_isWord_j55 v0 v1 v2 h) (fun z => z = (v, h')) 55 [some (.ref v0), some (.ref v1), some (.int v2)] [] h 0 0 := by
  unfold Mod_isWord_j55
  refine J_iconst (v := 1) (pc' := 56) ok (dOf dX11_isWord 31 rfl) rfl (by decide) ?_
  exact J_zreturn ok (dOf dX11_isWord 32 rfl) rfl (Eq.refl 0) (Nat.le_refl 0)
def Mod_isWord (v0 : Nat) (v1 : Nat) (h : AHeap) : Option (Int32 × AHeap) :=
  (gfI h v0 11 19).bind fun x1 => (gfI h v0 11 18).bind fun x2 => (chkS v1).bind fun _ => bnd2 (J0_length v1 h) fun x4 h3 => (if (x1 - x2) = x4 then (iter (Mod_isWord_b20 v0 v1) Lmax (0, h3)).bind (Sum.elim (fun (q20 : Int32 × AHeap) => Mod_isWord_j47 v0 v1 q20.1 q20.2) (fun (q20 : Int32 × AHeap) => Mod_isWord_j55 v0 v1 q20.1 q20.2)) else (bz 0).bind fun z => some (z, h3))
theorem t_Mod_isWord {l : Launch} {G : GX} {v0 : Nat} {v1 : Nat} {h : AHeap} {v : Int32} {h1 : AHeap} (hf : Mod_isWord v0 v1 h = some (v, h1)) : CT l G kMod_isWord 0 0 [.ref v0, .ref v1] h (some (.int v)) h1 := by
  refine CT_of (ls := [some (.ref v0), some (.ref v1), none]) (Z := fun z => z = (v, h1)) (by decide +kernel) (Nat.le_of_ble_eq_true rfl) hf rfl ⟨rfl, rfl, trivial⟩ (fun E ok => ?_)
  unfold Mod_isWord
  refine J_aload_n (pc' := 1) ok (dOf dX11_isWord 0 rfl) rfl rfl rfl ?_
  refine J_getI (ci := 11) (kf := 19) (C := RX11) (T := TX11) (N := 29) (pc' := 4) ok (dOf dX11_isWord 1 rfl) rfl (by decide) rfl (by decide) win_11 wfl_X11_99 (fun x1 => ?_)
  refine J_aload_n (pc' := 5) ok (dOf dX11_isWord 2 rfl) rfl rfl rfl ?_
  refine J_getI (ci := 11) (kf := 18) (C := RX11) (T := TX11) (N := 29) (pc' := 8) ok (dOf dX11_isWord 3 rfl) rfl (by decide) rfl (by decide) win_11 wfl_X11_102 (fun x2 => ?_)
  refine J_isub (pc' := 9) ok (dOf dX11_isWord 4 rfl) rfl ?_
  refine J_aload_n (pc' := 10) ok (dOf dX11_isWord 5 rfl) rfl rfl rfl ?_
  refine J_callSVi (k2 := kJ0_length) (as := []) (pc' := 13) ok (dOf dX11_isWord 6 rfl) rfl (cw_J0_length (by decide) (by decide)) wml_X11_115 winst_J0_length_8abf5 wsel_J0_length_8abf5 rfl ⟨Nat.le_refl 0, Nat.le_refl 0⟩ (Nat.le_of_ble_eq_true rfl) rfl (fun _ _ hf => t_J0_length hf) (fun x4 h3 => ?_)
  refine J_icmp_eq (tgt := 18) (pc' := 16) ok (dOf dX11_isWord 7 rfl) rfl (by decide) ?_ ?_
  · refine J_iconst (v := 0) (pc' := 19) ok (dOf dX11_isWord 10 rfl) rfl (by decide) ?_
    refine J_istore_n (ls' := [some (.ref v0), some (.ref v1), some (.int 0)]) (pc' := 20) ok (dOf dX11_isWord 11 rfl) rfl rfl (Nat.le_of_ble_eq_true rfl) rfl rfl ?_
    refine J_iter (lf := fun z20 => [some (.ref v0), some (.ref v1), some (.int z20.1)]) (sf := fun _ => []) (hf := fun z20 => z20.2) (px := (Sum.elim (fun (q20 : Int32 × AHeap) => 47) (fun (q20 : Int32 × AHeap) => 55))) (lx := (Sum.elim (fun (q20 : Int32 × AHeap) => [some (.ref v0), some (.ref v1), some (.int q20.1)]) (fun (q20 : Int32 × AHeap) => [some (.ref v0), some (.ref v1), some (.int q20.1)]))) (sx := (Sum.elim (fun (q20 : Int32 × AHeap) => []) (fun (q20 : Int32 × AHeap) => []))) (hx := (Sum.elim (fun (q20 : Int32 × AHeap) => q20.2) (fun (q20 : Int32 × AHeap) => q20.2))) (fun Y2 z20 m1 m2 => Mod_isWord_b20_J ok v0 v1 m1 (fun q hq => m2 (Sum.inl q) hq) (fun q hq => m2 (Sum.inr q) hq) z20) (fun q20 => ?_) Lmax _
    rcases q20 with q20 | q20
    · show J E kMod_isWord (Mod_isWord_j47 v0 v1 q20.1 q20.2) _ 47 [some (.ref v0), some (.ref v1), some (.int q20.1)] [] q20.2 0 0
      exact Mod_isWord_j47_J ok v0 v1 q20.1 q20.2
    · show J E kMod_isWord (Mod_isWord_j55 v0 v1 q20.1 q20.2) _ 55 [some (.ref v0), some (.ref v1), some (.int q20.1)] [] q20.2 0 0
      exact Mod_isWord_j55_J ok v0 v1 q20.1 q20.2
  · refine J_iconst (v := 0) (pc' := 17) ok (dOf dX11_isWord 8 rfl) rfl (by decide) ?_
    exact J_zreturn ok (dOf dX11_isWord 9 rfl) rfl (Eq.refl 0) (Nat.le_refl 0)
-- X11_wrong
abbrev kMod_wrong : Cd := (yX11_wrong, cX11_wrong, 1, none, 0, 0)
theorem dX11_wrong : dcheck cX11_wrong [(0, .aload_n 0, 1), (1, .getfield 125, 3), (4, .ifCond .ne 11, 3), (7, .aload_n 0, 1), (8, .aload_n 0, 1), (9, .getfield 102, 3), (12, .putfield 34, 3), (15, .aload_n 0, 1), (16, .iconst 1, 1), (17, .putfield 125, 3), (20, .return_, 1)] = true := by decide +kernel
theorem cw_Mod_wrong {k : Cd} (h1 : kMod_wrong.2.2.2.2.1 + 1 ≤ k.2.2.2.2.1) (h2 : 8 + (kMod_wrong.2.2.1 + 11) + kMod_wrong.2.2.2.2.2 ≤ k.2.2.2.2.2) : Cw k kMod_wrong 0 := ⟨wcode_X11_wrong, wini_SplitProgramModel, ⟨by decide, by decide, by decide +kernel⟩, h1, h2⟩
def Mod_wrong_j15 (v0 : Nat) (h : AHeap) : Option (Unit × AHeap) :=
  (bz 1).bind fun x3 => (pfV h v0 11 20 (.int x3)).bind fun h2 => some ((), h2)
theorem Mod_wrong_j15_J {E : JE} {l : Launch} {G : GX} {h' : AHeap} (ok : JOK E l G kMod_wrong 0 0 none h') (v0 : Nat) (h : AHeap) : J E kMod_wrong (Mod_wrong_j15 v0 h) (fun z => z = ((), h')) 15 [some (.ref v0)] [] h 0 0 := by
  unfold Mod_wrong_j15
  refine J_aload_n (pc' := 16) ok (dOf dX11_wrong 7 rfl) rfl rfl rfl ?_
  refine J_iconst (v := 1) (pc' := 17) ok (dOf dX11_wrong 8 rfl) rfl (by decide) ?_
  refine J_putZ (ci := 11) (kf := 20) (C := RX11) (T := TX11) (N := 29) (pc' := 20) ok tyX11 (dOf dX11_wrong 9 rfl) rfl rfl (by decide) win_11 tyX11_ok nmX11 rfl rfl wfl_X11_125 (fun h2 _ => ?_)
  exact J_vreturn ok (dOf dX11_wrong 10 rfl) rfl (Eq.refl 0) (Nat.le_refl 0)
def Mod_wrong (v0 : Nat) (h : AHeap) : Option (Unit × AHeap) :=
  (gfI h v0 11 20).bind fun x1 => (if ¬ x1 = 0 then Mod_wrong_j15 v0 h else (gfI h v0 11 18).bind fun x4 => (pfV h v0 11 10 (.int x4)).bind fun h5 => Mod_wrong_j15 v0 h5)
theorem t_Mod_wrong {l : Launch} {G : GX} {v0 : Nat} {h : AHeap} {h1 : AHeap} (hf : Mod_wrong v0 h = some ((), h1)) : CT l G kMod_wrong 0 0 [.ref v0] h none h1 := by
  refine CT_of (ls := [some (.ref v0)]) (Z := fun z => z = ((), h1)) (by decide +kernel) (Nat.le_of_ble_eq_true rfl) hf rfl ⟨rfl, trivial⟩ (fun E ok => ?_)
  unfold Mod_wrong
  refine J_aload_n (pc' := 1) ok (dOf dX11_wrong 0 rfl) rfl rfl rfl ?_
  refine J_getI (ci := 11) (kf := 20) (C := RX11) (T := TX11) (N := 29) (pc' := 4) ok (dOf dX11_wrong 1 rfl) rfl (by decide) rfl (by decide) win_11 wfl_X11_125 (fun x1 => ?_)
  refine J_if_ne (tgt := 15) (pc' := 7) ok (dOf dX11_wrong 2 rfl) rfl (by decide) ?_ ?_
  · exact Mod_wrong_j15_J ok v0 h
  · refine J_aload_n (pc' := 8) ok (dOf dX11_wrong 3 rfl) rfl rfl rfl ?_
    refine J_aload_n (pc' := 9) ok (dOf dX11_wrong 4 rfl) rfl rfl rfl ?_
    refine J_getI (ci := 11) (kf := 18) (C := RX11) (T := TX11) (N := 29) (pc' := 12) ok (dOf dX11_wrong 5 rfl) rfl (by decide) rfl (by decide) win_11 wfl_X11_102 (fun x4 => ?_)
    refine J_putI (ci := 11) (kf := 10) (C := RX11) (T := TX11) (N := 29) (pc' := 15) ok tyX11 (dOf dX11_wrong 6 rfl) rfl rfl (by decide) win_11 tyX11_ok nmX11 rfl rfl wfl_X11_34 (fun h5 _ => ?_)
    exact Mod_wrong_j15_J ok v0 h5
-- X11_isNumber
abbrev kMod_isNumber : Cd := (yX11_isNumber, cX11_isNumber, 1, (some .boolean), 2, 42)
theorem dX11_isNumber : dcheck cX11_isNumber [(0, .aload_n 0, 1), (1, .getfield 102, 3), (4, .aload_n 0, 1), (5, .getfield 105, 3), (8, .if_icmp .ge 22, 3), (11, .aload_n 0, 1), (12, .getfield 31, 3), (15, .aload_n 0, 1), (16, .getfield 102, 3), (19, .iaload, 1), (20, .invokestatic 112, 3), (23, .ifCond .eq 7, 3), (26, .iconst 1, 1), (27, .goto 4, 3), (30, .iconst 0, 1), (31, .ireturn, 1)] = true := by decide +kernel
theorem cw_Mod_isNumber {k : Cd} (h1 : kMod_isNumber.2.2.2.2.1 + 1 ≤ k.2.2.2.2.1) (h2 : 8 + (kMod_isNumber.2.2.1 + 11) + kMod_isNumber.2.2.2.2.2 ≤ k.2.2.2.2.2) : Cw k kMod_isNumber 0 := ⟨wcode_X11_isNumber, wini_SplitProgramModel, ⟨by decide, by decide, by decide +kernel⟩, h1, h2⟩
def Mod_isNumber_j31 (v0 : Nat) (t0 : Int32) (h : AHeap) : Option (Int32 × AHeap) :=
  (bz t0).bind fun z => some (z, h)
theorem Mod_isNumber_j31_J {E : JE} {l : Launch} {G : GX} {v : Int32} {h' : AHeap} (ok : JOK E l G kMod_isNumber 0 0 (some (.int v)) h') (v0 : Nat) (t0 : Int32) (h : AHeap) : J E kMod_isNumber (Mod_isNumber_j31 v0 t0 h) (fun z => z = (v, h')) 31 [some (.ref v0)] [.int t0] h 0 0 := by
  unfold Mod_isNumber_j31
  exact J_zreturn ok (dOf dX11_isNumber 15 rfl) rfl (Eq.refl 0) (Nat.le_refl 0)
def Mod_isNumber_j30 (v0 : Nat) (h : AHeap) : Option (Int32 × AHeap) :=
  Mod_isNumber_j31 v0 0 h
theorem Mod_isNumber_j30_J {E : JE} {l : Launch} {G : GX} {v : Int32} {h' : AHeap} (ok : JOK E l G kMod_isNumber 0 0 (some (.int v)) h') (v0 : Nat) (h : AHeap) : J E kMod_isNumber (Mod_isNumber_j30 v0 h) (fun z => z = (v, h')) 30 [some (.ref v0)] [] h 0 0 := by
  unfold Mod_isNumber_j30
  refine J_iconst (v := 0) (pc' := 31) ok (dOf dX11_isNumber 14 rfl) rfl (by decide) ?_
  exact Mod_isNumber_j31_J ok v0 0 h
def Mod_isNumber (v0 : Nat) (h : AHeap) : Option (Int32 × AHeap) :=
  (gfI h v0 11 18).bind fun x1 => (gfI h v0 11 17).bind fun x2 => (if x2 ≤ x1 then Mod_isNumber_j30 v0 h else (gfR h v0 11 8).bind fun a3 => (gfI h v0 11 18).bind fun x4 => (ald 0 h a3 x4).bind fun x5 => bnd2 (Mod_isDigit x5 h) fun x7 h6 => (if x7 = 0 then Mod_isNumber_j30 v0 h6 else Mod_isNumber_j31 v0 1 h6))
theorem t_Mod_isNumber {l : Launch} {G : GX} {v0 : Nat} {h : AHeap} {v : Int32} {h1 : AHeap} (hf : Mod_isNumber v0 h = some (v, h1)) : CT l G kMod_isNumber 0 0 [.ref v0] h (some (.int v)) h1 := by
  refine CT_of (ls := [some (.ref v0)]) (Z := fun z => z = (v, h1)) (by decide +kernel) (Nat.le_of_ble_eq_true rfl) hf rfl ⟨rfl, trivial⟩ (fun E ok => ?_)
  unfold Mod_isNumber
  refine J_aload_n (pc' := 1) ok (dOf dX11_isNumber 0 rfl) rfl rfl rfl ?_
  refine J_getI (ci := 11) (kf := 18) (C := RX11) (T := TX11) (N := 29) (pc' := 4) ok (dOf dX11_isNumber 1 rfl) rfl (by decide) rfl (by decide) win_11 wfl_X11_102 (fun x1 => ?_)
  refine J_aload_n (pc' := 5) ok (dOf dX11_isNumber 2 rfl) rfl rfl rfl ?_
  refine J_getI (ci := 11) (kf := 17) (C := RX11) (T := TX11) (N := 29) (pc' := 8) ok (dOf dX11_isNumber 3 rfl) rfl (by decide) rfl (by decide) win_11 wfl_X11_105 (fun x2 => ?_)
  refine J_icmp_ge (tgt := 30) (pc' := 11) ok (dOf dX11_isNumber 4 rfl) rfl (by decide) ?_ ?_
  · exact Mod_isNumber_j30_J ok v0 h
  · refine J_aload_n (pc' := 12) ok (dOf dX11_isNumber 5 rfl) rfl rfl rfl ?_
    refine J_getR (ci := 11) (kf := 8) (C := RX11) (T := TX11) (N := 29) (pc' := 15) ok (dOf dX11_isNumber 6 rfl) rfl (by decide) rfl (by decide) win_11 wfl_X11_31 (fun a3 => ?_)
    refine J_aload_n (pc' := 16) ok (dOf dX11_isNumber 7 rfl) rfl rfl rfl ?_
    refine J_getI (ci := 11) (kf := 18) (C := RX11) (T := TX11) (N := 29) (pc' := 19) ok (dOf dX11_isNumber 8 rfl) rfl (by decide) rfl (by decide) win_11 wfl_X11_102 (fun x4 => ?_)
    refine J_iald (pc' := 20) ok (dOf dX11_isNumber 9 rfl) rfl (fun x5 => ?_)
    refine J_callSi (k2 := kMod_isDigit) (as := [.int x5]) (pc' := 23) ok (dOf dX11_isNumber 10 rfl) rfl (cw_Mod_isDigit (by decide) (by decide)) wml_X11_112 wstat_X11_isDigit ⟨Nat.le_refl 0, Nat.le_refl 0⟩ (Nat.le_of_ble_eq_true rfl) rfl (fun _ _ hf => t_Mod_isDigit hf) (fun x7 h6 => ?_)
    refine J_if_eq (tgt := 30) (pc' := 26) ok (dOf dX11_isNumber 11 rfl) rfl (by decide) ?_ ?_
    · exact Mod_isNumber_j30_J ok v0 h6
    · refine J_iconst (v := 1) (pc' := 27) ok (dOf dX11_isNumber 12 rfl) rfl (by decide) ?_
      refine J_goto (tgt := 31) ok (dOf dX11_isNumber 13 rfl) (by decide) ?_
      exact Mod_isNumber_j31_J ok v0 1 h6
-- X11_number
abbrev kMod_number : Cd := (yX11_number, cX11_number, 5, (some .int), 3, 62)
theorem dX11_number : dcheck cX11_number [(0, .aload_n 0, 1), (1, .getfield 125, 3), (4, .ifCond .eq 5, 3), (7, .iconst 0, 1), (8, .ireturn, 1), (9, .iconst 0, 1), (10, .istore_n 3, 1), (11, .aload_n 0, 1), (12, .invokevirtual 129, 3), (15, .ifCond .eq 50, 3), (18, .aload_n 0, 1), (19, .getfield 102, 3), (22, .istore 4, 2), (24, .iload 4, 2), (26, .aload_n 0, 1), (27, .getfield 99, 3), (30, .if_icmp .ge 35, 3), (33, .iload_n 3, 1), (34, .ldc 133, 2), (36, .if_icmp .le 7, 3), (39, .iload_n 3, 1), (40, .goto 18, 3), (43, .bipush 10, 2), (45, .iload_n 3, 1), (46, .imul, 1), (47, .aload_n 0, 1), (48, .getfield 31, 3), (51, .iload 4, 2), (53, .iaload, 1), (54, .iadd, 1), (55, .bipush 48, 2), (57, .isub, 1), (58, .istore_n 3, 1), (59, .iinc 4 1, 3), (62, .goto (-38), 3), (65, .aload_n 0, 1), (66, .invokevirtual 129, 3), (69, .ifCond .eq 12, 3), (72, .iload_n 3, 1), (73, .iload_n 1, 1), (74, .iload_n 2, 1), (75, .invokestatic 75, 3), (78, .ifCond .ne 9, 3), (81, .aload_n 0, 1), (82, .invokevirtual 134, 3), (85, .iconst 0, 1), (86, .ireturn, 1), (87, .aload_n 0, 1), (88, .invokevirtual 137, 3), (91, .iload_n 3, 1), (92, .ireturn, 1)] = true := by decide +kernel
theorem cw_Mod_number {k : Cd} (h1 : kMod_number.2.2.2.2.1 + 1 ≤ k.2.2.2.2.1) (h2 : 8 + (kMod_number.2.2.1 + 11) + kMod_number.2.2.2.2.2 ≤ k.2.2.2.2.2) : Cw k kMod_number 2 := ⟨wcode_X11_number, wini_SplitProgramModel, ⟨by decide, by decide, by decide +kernel⟩, h1, h2⟩
def Mod_number_j81 (v0 : Nat) (v1 : Int32) (v2 : Int32) (v3 : Int32) (h : AHeap) : Option (Int32 × AHeap) :=
  (chk h v0 11).bind fun _ => bnd2 (Mod_wrong v0 h) fun _ h6 => some (0, h6)
theorem Mod_number_j81_J {E : JE} {l : Launch} {G : GX} {v : Int32} {h' : AHeap} (ok : JOK E l G kMod_number 0 0 (some (.int v)) h') (v0 : Nat) (v1 : Int32) (v2 : Int32) (v3 : Int32) (h : AHeap) : J E kMod_number (Mod_number_j81 v0 v1 v2 v3 h) (fun z => z = (v, h')) 81 [some (.ref v0), some (.int v1), some (.int v2), some (.int v3), none] [] h 0 0 := by
  unfold Mod_number_j81
  refine J_aload_n (pc' := 82) ok (dOf dX11_number 43 rfl) rfl rfl rfl ?_
  refine J_callVv (k2 := kMod_wrong) (ci := 11) (T := TX11) (N := 29) (as := []) (pc' := 85) ok (dOf dX11_number 44 rfl) rfl (cw_Mod_wrong (by decide) (by decide)) wml_X11_134 winst_X11_wrong wsel_X11_wrong rfl ⟨Nat.le_refl 0, Nat.le_refl 0⟩ (Nat.le_of_ble_eq_true rfl) rfl (fun _ _ hf => t_Mod_wrong hf) (fun _ h6 => ?_)
  refine J_iconst (v := 0) (pc' := 86) ok (dOf dX11_number 45 rfl) rfl (by decide) ?_
  exact J_ireturn ok (dOf dX11_number 46 rfl) rfl (Eq.refl 0) (Nat.le_refl 0)
def Mod_number_j65 (v0 : Nat) (v1 : Int32) (v2 : Int32) (v3 : Int32) (h : AHeap) : Option (Int32 × AHeap) :=
  (chk h v0 11).bind fun _ => bnd2 (Mod_isNumber v0 h) fun x5 h4 => (if x5 = 0 then Mod_number_j81 v0 v1 v2 v3 h4 else bnd2 (Mod_isIn v3 v1 v2 h4) fun x8 h7 => (if ¬ x8 = 0 then (chk h7 v0 11).bind fun _ => bnd2 (Mod_reads v0 h7) fun _ h9 => some (v3, h9) else Mod_number_j81 v0 v1 v2 v3 h7))
theorem Mod_number_j65_J {E : JE} {l : Launch} {G : GX} {v : Int32} {h' : AHeap} (ok : JOK E l G kMod_number 0 0 (some (.int v)) h') (v0 : Nat) (v1 : Int32) (v2 : Int32) (v3 : Int32) (h : AHeap) : J E kMod_number (Mod_number_j65 v0 v1 v2 v3 h) (fun z => z = (v, h')) 65 [some (.ref v0), some (.int v1), some (.int v2), some (.int v3), none] [] h 0 0 := by
  unfold Mod_number_j65
  refine J_aload_n (pc' := 66) ok (dOf dX11_number 35 rfl) rfl rfl rfl ?_
  refine J_callVi (k2 := kMod_isNumber) (ci := 11) (T := TX11) (N := 29) (as := []) (pc' := 69) ok (dOf dX11_number 36 rfl) rfl (cw_Mod_isNumber (by decide) (by decide)) wml_X11_129 winst_X11_isNumber wsel_X11_isNumber rfl ⟨Nat.le_refl 0, Nat.le_refl 0⟩ (Nat.le_of_ble_eq_true rfl) rfl (fun _ _ hf => t_Mod_isNumber hf) (fun x5 h4 => ?_)
  refine J_if_eq (tgt := 81) (pc' := 72) ok (dOf dX11_number 37 rfl) rfl (by decide) ?_ ?_
  · exact Mod_number_j81_J ok v0 v1 v2 v3 h4
  · refine J_iload_n (pc' := 73) ok (dOf dX11_number 38 rfl) rfl rfl rfl ?_
    refine J_iload_n (pc' := 74) ok (dOf dX11_number 39 rfl) rfl rfl rfl ?_
    refine J_iload_n (pc' := 75) ok (dOf dX11_number 40 rfl) rfl rfl rfl ?_
    refine J_callSi (k2 := kMod_isIn) (as := [.int v3, .int v1, .int v2]) (pc' := 78) ok (dOf dX11_number 41 rfl) rfl (cw_Mod_isIn (by decide) (by decide)) wml_X11_75 wstat_X11_isIn ⟨Nat.le_refl 0, Nat.le_refl 0⟩ (Nat.le_of_ble_eq_true rfl) rfl (fun _ _ hf => t_Mod_isIn hf) (fun x8 h7 => ?_)
    refine J_if_ne (tgt := 87) (pc' := 81) ok (dOf dX11_number 42 rfl) rfl (by decide) ?_ ?_
    · refine J_aload_n (pc' := 88) ok (dOf dX11_number 47 rfl) rfl rfl rfl ?_
      refine J_callVv (k2 := kMod_reads) (ci := 11) (T := TX11) (N := 29) (as := []) (pc' := 91) ok (dOf dX11_number 48 rfl) rfl (cw_Mod_reads (by decide) (by decide)) wml_X11_137 winst_X11_reads wsel_X11_reads rfl ⟨Nat.le_refl 0, Nat.le_refl 0⟩ (Nat.le_of_ble_eq_true rfl) rfl (fun _ _ hf => t_Mod_reads hf) (fun _ h9 => ?_)
      refine J_iload_n (pc' := 92) ok (dOf dX11_number 49 rfl) rfl rfl rfl ?_
      exact J_ireturn ok (dOf dX11_number 50 rfl) rfl (Eq.refl 0) (Nat.le_refl 0)
    · exact Mod_number_j81_J ok v0 v1 v2 v3 h7
def Mod_number_j58 (v0 : Nat) (v1 : Int32) (v2 : Int32) (v3 : Int32) (v4 : Int32) (t0 : Int32) (h : AHeap) : Option ((Int32 × Int32) ⊕ ((Int32))) :=
  some (Sum.inl (t0, v4 + 1))
theorem Mod_number_j58_J {E : JE} {l : Launch} {G : GX} {r : Option Value} {h' : AHeap} (ok : JOK E l G kMod_number 0 0 r h') (v0 : Nat) (v1 : Int32) (v2 : Int32) (v3 : Int32) (v4 : Int32) (t0 : Int32) (h : AHeap) {Y : (Int32 × Int32) ⊕ ((Int32)) → Prop} (k1 : ∀ s' : Int32 × Int32, Y (.inl s') → JW E kMod_number 24 [some (.ref v0), some (.int v1), some (.int v2), some (.int s'.1), some (.int s'.2)] [] h 0 0) (kx65 : ∀ q : Int32, Y (.inr q) → JW E kMod_number 65 [some (.ref v0), some (.int v1), some (.int v2), some (.int q), none] [] h 0 0) : J E kMod_number (Mod_number_j58 v0 v1 v2 v3 v4 t0 h) Y 58 [some (.ref v0), some (.int v1), some (.int v2), some (.int v3), some (.int v4)] [.int t0] h 0 0 := by
  unfold Mod_number_j58
  refine J_istore_n (ls' := [some (.ref v0), some (.int v1), some (.int v2), some (.int t0), some (.int v4)]) (pc' := 59) ok (dOf dX11_number 32 rfl) rfl rfl (Nat.le_of_ble_eq_true rfl) rfl rfl ?_
  refine J_iinc (v := v4 + 1) (ls' := [some (.ref v0), some (.int v1), some (.int v2), some (.int t0), some (.int (v4 + 1))]) (pc' := 62) ok (dOf dX11_number 33 rfl) rfl rfl (by rfl) (Nat.le_of_ble_eq_true rfl) rfl rfl ?_
  refine J_goto (tgt := 24) ok (dOf dX11_number 34 rfl) (by decide) ?_
  exact J_fin (k1 (t0, v4 + 1))
def Mod_number_b24 (v0 : Nat) (v1 : Int32) (v2 : Int32) (h : AHeap) (s : Int32 × Int32) : Option ((Int32 × Int32) ⊕ ((Int32))) :=
  (gfI h v0 11 19).bind fun x11 => (if x11 ≤ s.2 then some (Sum.inr s.1) else (if s.1 ≤ 100000 then (gfR h v0 11 8).bind fun a12 => (ald 0 h a12 s.2).bind fun x13 => Mod_number_j58 v0 v1 v2 s.1 s.2 (((10 * s.1) + x13) - 48) h else Mod_number_j58 v0 v1 v2 s.1 s.2 s.1 h))
theorem Mod_number_b24_J {E : JE} {l : Launch} {G : GX} {r : Option Value} {h' : AHeap} (ok : JOK E l G kMod_number 0 0 r h') (v0 : Nat) (v1 : Int32) (v2 : Int32) (h : AHeap) {Y : (Int32 × Int32) ⊕ ((Int32)) → Prop} (k1 : ∀ s' : Int32 × Int32, Y (.inl s') → JW E kMod_number 24 [some (.ref v0), some (.int v1), some (.int v2), some (.int s'.1), some (.int s'.2)] [] h 0 0) (kx65 : ∀ q : Int32, Y (.inr q) → JW E kMod_number 65 [some (.ref v0), some (.int v1), some (.int v2), some (.int q), none] [] h 0 0) (s : Int32 × Int32) : J E kMod_number (Mod_number_b24 v0 v1 v2 h s) Y 24 [some (.ref v0), some (.int v1), some (.int v2), some (.int s.1), some (.int s.2)] [] h 0 0 := by
  unfold Mod_number_b24
  refine J_iload (pc' := 26) ok (dOf dX11_number 13 rfl) rfl rfl ?_
  refine J_aload_n (pc' := 27) ok (dOf dX11_number 14 rfl) rfl rfl rfl ?_
  refine J_getI (ci := 11) (kf := 19) (C := RX11) (T := TX11) (N := 29) (pc' := 30) ok (dOf dX11_number 15 rfl) rfl (by decide) rfl (by decide) win_11 wfl_X11_99 (fun x11 => ?_)
  refine J_icmp_ge (tgt := 65) (pc' := 33) ok (dOf dX11_number 16 rfl) rfl (by decide) ?_ ?_
  · refine J_weak (ls' := [some (.ref v0), some (.int v1), some (.int v2), some (.int s.1), none]) ⟨rfl, rfl, rfl, rfl, trivial⟩ ?_
    exact J_fin (kx65 s.1)
  · refine J_iload_n (pc' := 34) ok (dOf dX11_number 17 rfl) rfl rfl rfl ?_
    refine J_ldc (v := 100000) (pc' := 36) ok (dOf dX11_number 18 rfl) rfl wcon_X11_133 ?_
    refine J_icmp_le (tgt := 43) (pc' := 39) ok (dOf dX11_number 19 rfl) rfl (by decide) ?_ ?_
    · refine J_bipush (v := 10) (pc' := 45) ok (dOf dX11_number 22 rfl) rfl (by decide) ?_
      refine J_iload_n (pc' := 46) ok (dOf dX11_number 23 rfl) rfl rfl rfl ?_
      refine J_imul (pc' := 47) ok (dOf dX11_number 24 rfl) rfl ?_
      refine J_aload_n (pc' := 48) ok (dOf dX11_number 25 rfl) rfl rfl rfl ?_
      refine J_getR (ci := 11) (kf := 8) (C := RX11) (T := TX11) (N := 29) (pc' := 51) ok (dOf dX11_number 26 rfl) rfl (by decide) rfl (by decide) win_11 wfl_X11_31 (fun a12 => ?_)
      refine J_iload (pc' := 53) ok (dOf dX11_number 27 rfl) rfl rfl ?_
      refine J_iald (pc' := 54) ok (dOf dX11_number 28 rfl) rfl (fun x13 => ?_)
      refine J_iadd (pc' := 55) ok (dOf dX11_number 29 rfl) rfl ?_
      refine J_bipush (v := 48) (pc' := 57) ok (dOf dX11_number 30 rfl) rfl (by decide) ?_
      refine J_isub (pc' := 58) ok (dOf dX11_number 31 rfl) rfl ?_
      exact Mod_number_j58_J ok v0 v1 v2 s.1 s.2 (((10 * s.1) + x13) - 48) h k1 kx65
    · refine J_iload_n (pc' := 40) ok (dOf dX11_number 20 rfl) rfl rfl rfl ?_
      refine J_goto (tgt := 58) ok (dOf dX11_number 21 rfl) (by decide) ?_
      exact Mod_number_j58_J ok v0 v1 v2 s.1 s.2 s.1 h k1 kx65
def Mod_number (v0 : Nat) (v1 : Int32) (v2 : Int32) (h : AHeap) : Option (Int32 × AHeap) :=
  (gfI h v0 11 20).bind fun x1 => (if x1 = 0 then (chk h v0 11).bind fun _ => bnd2 (Mod_isNumber v0 h) fun x3 h2 => (if x3 = 0 then Mod_number_j65 v0 v1 v2 0 h2 else (gfI h2 v0 11 18).bind fun x10 => (iter (Mod_number_b24 v0 v1 v2 h2) Lmax (0, x10)).bind (fun (q24 : Int32) => Mod_number_j65 v0 v1 v2 q24 h2)) else some (0, h))
theorem t_Mod_number {l : Launch} {G : GX} {v0 : Nat} {v1 : Int32} {v2 : Int32} {h : AHeap} {v : Int32} {h1 : AHeap} (hf : Mod_number v0 v1 v2 h = some (v, h1)) : CT l G kMod_number 0 0 [.ref v0, .int v1, .int v2] h (some (.int v)) h1 := by
  refine CT_of (ls := [some (.ref v0), some (.int v1), some (.int v2), none, none]) (Z := fun z => z = (v, h1)) (by decide +kernel) (Nat.le_of_ble_eq_true rfl) hf rfl ⟨rfl, rfl, rfl, trivial⟩ (fun E ok => ?_)
  unfold Mod_number
  refine J_aload_n (pc' := 1) ok (dOf dX11_number 0 rfl) rfl rfl rfl ?_
  refine J_getI (ci := 11) (kf := 20) (C := RX11) (T := TX11) (N := 29) (pc' := 4) ok (dOf dX11_number 1 rfl) rfl (by decide) rfl (by decide) win_11 wfl_X11_125 (fun x1 => ?_)
  refine J_if_eq (tgt := 9) (pc' := 7) ok (dOf dX11_number 2 rfl) rfl (by decide) ?_ ?_
  · refine J_iconst (v := 0) (pc' := 10) ok (dOf dX11_number 5 rfl) rfl (by decide) ?_
    refine J_istore_n (ls' := [some (.ref v0), some (.int v1), some (.int v2), some (.int 0), none]) (pc' := 11) ok (dOf dX11_number 6 rfl) rfl rfl (Nat.le_of_ble_eq_true rfl) rfl rfl ?_
    refine J_aload_n (pc' := 12) ok (dOf dX11_number 7 rfl) rfl rfl rfl ?_
    refine J_callVi (k2 := kMod_isNumber) (ci := 11) (T := TX11) (N := 29) (as := []) (pc' := 15) ok (dOf dX11_number 8 rfl) rfl (cw_Mod_isNumber (by decide) (by decide)) wml_X11_129 winst_X11_isNumber wsel_X11_isNumber rfl ⟨Nat.le_refl 0, Nat.le_refl 0⟩ (Nat.le_of_ble_eq_true rfl) rfl (fun _ _ hf => t_Mod_isNumber hf) (fun x3 h2 => ?_)
    refine J_if_eq (tgt := 65) (pc' := 18) ok (dOf dX11_number 9 rfl) rfl (by decide) ?_ ?_
    · exact Mod_number_j65_J ok v0 v1 v2 0 h2
    · refine J_aload_n (pc' := 19) ok (dOf dX11_number 10 rfl) rfl rfl rfl ?_
      refine J_getI (ci := 11) (kf := 18) (C := RX11) (T := TX11) (N := 29) (pc' := 22) ok (dOf dX11_number 11 rfl) rfl (by decide) rfl (by decide) win_11 wfl_X11_102 (fun x10 => ?_)
      refine J_istore (ls' := [some (.ref v0), some (.int v1), some (.int v2), some (.int 0), some (.int x10)]) (pc' := 24) ok (dOf dX11_number 12 rfl) rfl (Nat.le_of_ble_eq_true rfl) rfl rfl ?_
      refine J_iter (lf := fun z24 => [some (.ref v0), some (.int v1), some (.int v2), some (.int z24.1), some (.int z24.2)]) (sf := fun _ => []) (hf := fun z24 => h2) (px := (fun (q24 : Int32) => 65)) (lx := (fun (q24 : Int32) => [some (.ref v0), some (.int v1), some (.int v2), some (.int q24), none])) (sx := (fun (q24 : Int32) => [])) (hx := (fun (q24 : Int32) => h2)) (fun Y2 z24 m1 m2 => Mod_number_b24_J ok v0 v1 v2 h2 m1 m2 z24) (fun q24 => ?_) Lmax _
      exact Mod_number_j65_J ok v0 v1 v2 q24 h2
  · refine J_iconst (v := 0) (pc' := 8) ok (dOf dX11_number 3 rfl) rfl (by decide) ?_
    exact J_ireturn ok (dOf dX11_number 4 rfl) rfl (Eq.refl 0) (Nat.le_refl 0)
-- X11_comesPlant
abbrev kMod_comesPlant : Cd := (yX11_comesPlant, cX11_comesPlant, 5, none, 0, 0)
theorem dX11_comesPlant : dcheck cX11_comesPlant [(0, .aload_n 0, 1), (1, .getfield 22, 3), (4, .iconst 0, 1), (5, .iaload, 1), (6, .istore 4, 2), (8, .aload_n 0, 1), (9, .getfield 22, 3), (12, .bipush 11, 2), (14, .iload 4, 2), (16, .iadd, 1), (17, .iload_n 1, 1), (18, .iastore, 1), (19, .aload_n 0, 1), (20, .getfield 22, 3), (23, .bipush 15, 2), (25, .iload 4, 2), (27, .iadd, 1), (28, .iload_n 2, 1), (29, .iastore, 1), (30, .aload_n 0, 1), (31, .getfield 22, 3), (34, .bipush 19, 2), (36, .iload 4, 2), (38, .iadd, 1), (39, .iload_n 3, 1), (40, .iastore, 1), (41, .aload_n 0, 1), (42, .getfield 22, 3), (45, .iconst 0, 1), (46, .dup2, 1), (47, .iaload, 1), (48, .iconst 1, 1), (49, .iadd, 1), (50, .iastore, 1), (51, .return_, 1)] = true := by decide +kernel
theorem cw_Mod_comesPlant {k : Cd} (h1 : kMod_comesPlant.2.2.2.2.1 + 1 ≤ k.2.2.2.2.1) (h2 : 8 + (kMod_comesPlant.2.2.1 + 11) + kMod_comesPlant.2.2.2.2.2 ≤ k.2.2.2.2.2) : Cw k kMod_comesPlant 3 := ⟨wcode_X11_comesPlant, wini_SplitProgramModel, ⟨by decide, by decide, by decide +kernel⟩, h1, h2⟩
def Mod_comesPlant (v0 : Nat) (v1 : Int32) (v2 : Int32) (v3 : Int32) (h : AHeap) : Option (Unit × AHeap) :=
  (gfR h v0 11 5).bind fun a1 => (ald 0 h a1 0).bind fun x2 => (gfR h v0 11 5).bind fun a3 => (ast 0 h a3 (11 + x2) v1).bind fun h4 => (gfR h4 v0 11 5).bind fun a5 => (ast 0 h4 a5 (15 + x2) v2).bind fun h6 => (gfR h6 v0 11 5).bind fun a7 => (ast 0 h6 a7 (19 + x2) v3).bind fun h8 => (gfR h8 v0 11 5).bind fun a9 => (ald 0 h8 a9 0).bind fun x10 => (ast 0 h8 a9 0 (x10 + 1)).bind fun h11 => some ((), h11)
theorem t_Mod_comesPlant {l : Launch} {G : GX} {v0 : Nat} {v1 : Int32} {v2 : Int32} {v3 : Int32} {h : AHeap} {h1 : AHeap} (hf : Mod_comesPlant v0 v1 v2 v3 h = some ((), h1)) : CT l G kMod_comesPlant 0 0 [.ref v0, .int v1, .int v2, .int v3] h none h1 := by
  refine CT_of (ls := [some (.ref v0), some (.int v1), some (.int v2), some (.int v3), none]) (Z := fun z => z = ((), h1)) (by decide +kernel) (Nat.le_of_ble_eq_true rfl) hf rfl ⟨rfl, rfl, rfl, rfl, trivial⟩ (fun E ok => ?_)
  unfold Mod_comesPlant
  refine J_aload_n (pc' := 1) ok (dOf dX11_comesPlant 0 rfl) rfl rfl rfl ?_
  refine J_getR (ci := 11) (kf := 5) (C := RX11) (T := TX11) (N := 29) (pc' := 4) ok (dOf dX11_comesPlant 1 rfl) rfl (by decide) rfl (by decide) win_11 wfl_X11_22 (fun a1 => ?_)
  refine J_iconst (v := 0) (pc' := 5) ok (dOf dX11_comesPlant 2 rfl) rfl (by decide) ?_
  refine J_iald (pc' := 6) ok (dOf dX11_comesPlant 3 rfl) rfl (fun x2 => ?_)
  refine J_istore (ls' := [some (.ref v0), some (.int v1), some (.int v2), some (.int v3), some (.int x2)]) (pc' := 8) ok (dOf dX11_comesPlant 4 rfl) rfl (Nat.le_of_ble_eq_true rfl) rfl rfl ?_
  refine J_aload_n (pc' := 9) ok (dOf dX11_comesPlant 5 rfl) rfl rfl rfl ?_
  refine J_getR (ci := 11) (kf := 5) (C := RX11) (T := TX11) (N := 29) (pc' := 12) ok (dOf dX11_comesPlant 6 rfl) rfl (by decide) rfl (by decide) win_11 wfl_X11_22 (fun a3 => ?_)
  refine J_bipush (v := 11) (pc' := 14) ok (dOf dX11_comesPlant 7 rfl) rfl (by decide) ?_
  refine J_iload (pc' := 16) ok (dOf dX11_comesPlant 8 rfl) rfl rfl ?_
  refine J_iadd (pc' := 17) ok (dOf dX11_comesPlant 9 rfl) rfl ?_
  refine J_iload_n (pc' := 18) ok (dOf dX11_comesPlant 10 rfl) rfl rfl rfl ?_
  refine J_iast (pc' := 19) ok (dOf dX11_comesPlant 11 rfl) rfl (fun h4 _ => ?_)
  refine J_aload_n (pc' := 20) ok (dOf dX11_comesPlant 12 rfl) rfl rfl rfl ?_
  refine J_getR (ci := 11) (kf := 5) (C := RX11) (T := TX11) (N := 29) (pc' := 23) ok (dOf dX11_comesPlant 13 rfl) rfl (by decide) rfl (by decide) win_11 wfl_X11_22 (fun a5 => ?_)
  refine J_bipush (v := 15) (pc' := 25) ok (dOf dX11_comesPlant 14 rfl) rfl (by decide) ?_
  refine J_iload (pc' := 27) ok (dOf dX11_comesPlant 15 rfl) rfl rfl ?_
  refine J_iadd (pc' := 28) ok (dOf dX11_comesPlant 16 rfl) rfl ?_
  refine J_iload_n (pc' := 29) ok (dOf dX11_comesPlant 17 rfl) rfl rfl rfl ?_
  refine J_iast (pc' := 30) ok (dOf dX11_comesPlant 18 rfl) rfl (fun h6 _ => ?_)
  refine J_aload_n (pc' := 31) ok (dOf dX11_comesPlant 19 rfl) rfl rfl rfl ?_
  refine J_getR (ci := 11) (kf := 5) (C := RX11) (T := TX11) (N := 29) (pc' := 34) ok (dOf dX11_comesPlant 20 rfl) rfl (by decide) rfl (by decide) win_11 wfl_X11_22 (fun a7 => ?_)
  refine J_bipush (v := 19) (pc' := 36) ok (dOf dX11_comesPlant 21 rfl) rfl (by decide) ?_
  refine J_iload (pc' := 38) ok (dOf dX11_comesPlant 22 rfl) rfl rfl ?_
  refine J_iadd (pc' := 39) ok (dOf dX11_comesPlant 23 rfl) rfl ?_
  refine J_iload_n (pc' := 40) ok (dOf dX11_comesPlant 24 rfl) rfl rfl rfl ?_
  refine J_iast (pc' := 41) ok (dOf dX11_comesPlant 25 rfl) rfl (fun h8 _ => ?_)
  refine J_aload_n (pc' := 42) ok (dOf dX11_comesPlant 26 rfl) rfl rfl rfl ?_
  refine J_getR (ci := 11) (kf := 5) (C := RX11) (T := TX11) (N := 29) (pc' := 45) ok (dOf dX11_comesPlant 27 rfl) rfl (by decide) rfl (by decide) win_11 wfl_X11_22 (fun a9 => ?_)
  refine J_iconst (v := 0) (pc' := 46) ok (dOf dX11_comesPlant 28 rfl) rfl (by decide) ?_
  refine J_dup2 (pc' := 47) ok (dOf dX11_comesPlant 29 rfl) rfl rfl rfl ?_
  refine J_iald (pc' := 48) ok (dOf dX11_comesPlant 30 rfl) rfl (fun x10 => ?_)
  refine J_iconst (v := 1) (pc' := 49) ok (dOf dX11_comesPlant 31 rfl) rfl (by decide) ?_
  refine J_iadd (pc' := 50) ok (dOf dX11_comesPlant 32 rfl) rfl ?_
  refine J_iast (pc' := 51) ok (dOf dX11_comesPlant 33 rfl) rfl (fun h11 _ => ?_)
  exact J_vreturn ok (dOf dX11_comesPlant 34 rfl) rfl (Eq.refl 0) (Nat.le_refl 0)
